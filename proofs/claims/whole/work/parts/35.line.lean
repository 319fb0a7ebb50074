/-! the line -/
def PF_ (vi ar vi' ar' : Nat → Nat → Int32) : Prop := (∀ a b, (a = 9 ∧ b = 1) ∨ (a = 72 ∧ b = 2) ∨ (11 ≤ a ∧ a < 61) → vi' a b = vi a b) ∧ (∀ a b, (11 ≤ a ∧ a < 61) ∨ (74 ≤ a ∧ a < 81) → ar' a b = ar a b)
section LN
variable {vi ar vi' ar' : Nat → Nat → Int32} {pr : Nat → Nat} {hh : Int64} {m : Nat} {pl dr an : Nat → Nat}
theorem PF_.pn (g : PF_ vi ar vi' ar') (h : PL_ vi ar pr m pl dr an) : PL_ vi' ar' pr m pl dr an := h.fr2 g.1 g.2
theorem PF_.v (g : PF_ vi ar vi' ar') : ∀ a, 11 ≤ a → a < 61 → vi' a = vi a := fun a h1 h2 => funext fun b => g.1 a b (by omega)
theorem PF_.a (g : PF_ vi ar vi' ar') : ∀ a, 11 ≤ a → a < 61 → ar' a = ar a := fun a h1 h2 => funext fun b => g.2 a b (by omega)
theorem SC_.pf (g : SC_ vi ar vi' ar') : PF_ vi ar vi' ar' := ⟨fun a b q => g.1 a b (by unfold kv_; omega), fun a b q => g.2 a b (by unfold ka_; omega)⟩
theorem PF_.trans {v2 a2 : Nat → Nat → Int32} (h : PF_ vi ar vi' ar') (g : PF_ vi' ar' v2 a2) : PF_ vi ar v2 a2 := ⟨fun a b q => (g.1 a b q).trans (h.1 a b q), fun a b q => (g.2 a b q).trans (h.2 a b q)⟩
theorem fi_eq {g g' : Nat → Int32} {n : Nat} (hL : PL_ vi ar pr m pl dr an) (F : PF_ vi ar vi' ar') (hg : ∀ q, q < n → g' q = g q) : fi_ vi' ar' pr pl g' n = fi_ vi ar pr pl g n := by
  rw [fi_fr hL F.v F.a]
  exact funext fun i => fi_congr hg
theorem li_eq {g g' : Nat → Int32} {n : Nat} (hL : PL_ vi ar pr m pl dr an) (F : PF_ vi ar vi' ar') (hg : ∀ q, q < n → g' q = g q) : li_ vi' ar' pr pl g' n = li_ vi ar pr pl g n := by
  rw [li_fr hL F.v F.a]
  exact funext fun i => li_congr hg
theorem sm_eq {g g' : Nat → Int32} {n : Nat} (hd : sm_ 9 g n) (hg : ∀ q, q < n → g' q = g q) : sm_ 9 g' n := fun i hi => by rw [hg i hi]; exact hd i hi
/-- the class, asked in another heap -/
theorem c_fit {g : Nat → Int32} {n : Nat} (hL : PL_ vi ar pr m pl dr an) (F : PF_ vi ar vi' ar') (hR : vi' 69 1 = nI n) (hn : n ≤ 10) (hd : sm_ 9 g n) (hg : ∀ q, q < n → ar' 70 q = g q) : m_X3_reached (wd_h vi' ar' pr hh) 9 69 1 = some (bt_ (fi_ vi ar pr pl g n) m 0 0) := by
  rw [pn_fit (F.pn hL) ⟨rfl, rfl, by decide, hR, hn⟩ (sm_eq hd hg), fi_eq hL F hg]
theorem c_lead {g : Nat → Int32} {n : Nat} (hL : PL_ vi ar pr m pl dr an) (F : PF_ vi ar vi' ar') (hR : vi' 69 1 = nI n) (hn : n ≤ 10) (hd : sm_ 9 g n) (hg : ∀ q, q < n → ar' 70 q = g q) : m_X3_reached (wd_h vi' ar' pr hh) 9 69 2 = some (bt_ (li_ vi ar pr pl g n) m 0 0) := by
  rw [pn_lead (F.pn hL) ⟨rfl, rfl, by decide, hR, hn⟩ (sm_eq hd hg), li_eq hL F hg]
theorem c_wh {g : Nat → Int32} {n : Nat} (hL : PL_ vi ar pr m pl dr an) (F : PF_ vi ar vi' ar') (hR : vi' 69 1 = nI n) (hn : n ≤ 10) (hd : sm_ 9 g n) (hg : ∀ q, q < n → ar' 70 q = g q) : m_X3_winner (wd_h vi' ar' pr hh) 9 69 1 = some (wo_ (wn_ (fun i => fi_ vi ar pr pl g n i && he_ vi pr i) (cx_ ar pr) m 0 none)) := by
  rw [pn_wh (F.pn hL) ⟨rfl, rfl, by decide, hR, hn⟩ (sm_eq hd hg), fi_eq hL F hg, he_fr hL F.v, cx_fr hL F.a]
theorem m_fit {g : Nat → Int32} {n : Nat} (hL : PL_ vi ar pr m pl dr an) (F : PF_ vi ar vi' ar') (hn : n ≤ 10) (hd : sm_ 9 g n) (hg : ∀ q, q < n → ar' 84 q = g q) : m_X7_fitting (wd_h vi' ar' pr hh) 72 (nI n) = some (bt_ (fi_ vi ar pr pl g n) m 0 0) := by
  rw [ml_fg (F.pn hL) hn (sm_eq hd hg), fi_eq hL F hg]
theorem m_lead {g : Nat → Int32} {n : Nat} (hL : PL_ vi ar pr m pl dr an) (F : PF_ vi ar vi' ar') (hn : n ≤ 10) (hd : sm_ 9 g n) (hg : ∀ q, q < n → ar' 84 q = g q) : m_X7_leading (wd_h vi' ar' pr hh) 72 (nI n) = some (bt_ (li_ vi ar pr pl g n) m 0 0) := by
  rw [ml_lg (F.pn hL) hn (sm_eq hd hg), li_eq hL F hg]
theorem m_he {G : Nat → Bool} (hL : PL_ vi ar pr m pl dr an) (F : PF_ vi ar vi' ar') : m_X7_helps (wd_h vi' ar' pr hh) 72 (bt_ G m 0 0) = some (bt_ (fun i => G i && he_ vi pr i) m 0 0) := by
  rw [ml_he (F.pn hL), he_fr hL F.v]
theorem m_wn {G : Nat → Bool} (hL : PL_ vi ar pr m pl dr an) (F : PF_ vi ar vi' ar') : m_X7_winner (wd_h vi' ar' pr hh) 72 (bt_ G m 0 0) = some (wo_ (wn_ G (cx_ ar pr) m 0 none)) := by
  rw [ml_wn (F.pn hL), cx_fr hL F.a]
/-- the pressed digits are laid -/
theorem lp_l {nd : Nat} (hn : nd ≤ 10) (h28 : vi 72 28 = nI nd) : ∀ (f k : Nat) (ar1 : Nat → Nat → Int32), k ≤ nd → 10 < f + k → (∀ a, a ≠ 84 → ar1 a = ar a) → (∀ q, q < k → ar1 84 q = ar 85 q) → ∃ ar', m_X7_layPressed_10 f (wd_h vi ar1 pr hh) 72 (nI k) = some (wd_h vi ar' pr hh) ∧ (∀ a, a ≠ 84 → ar' a = ar a) ∧ (∀ q, q < nd → ar' 84 q = ar 85 q) := by
  intro f
  induction f with
  | zero => intro k ar1 h1 h2; omega
  | succ f ih =>
    intro k ar1 h1 h2 h3 h4
    show ∃ ar', b_X7_layPressed_10 _ _ _ _ = _ ∧ _
    unfold b_X7_layPressed_10
    rw [gi_7_28 w72, h28, Option.bind_some]
    by_cases e : nd ≤ k
    · rw [if_pos (nI_le e (by omega))]
      exact ⟨ar1, rfl, h3, fun q hq => h4 q (by omega)⟩
    · rw [if_neg (nI_ge (by omega) (by omega)), gr_7_25 w72, Option.bind_some, gr_7_29 w72, Option.bind_some, wd_ai (by decide) (by decide) (show k < 10 by omega), Option.bind_some, wr_84 (by omega), Option.bind_some, nI_1]
      refine ih (k + 1) _ (by omega) (by omega) (fun a ha => by rw [up2_k ha, h3 a ha]) (fun q hq => ?_)
      by_cases eq : q = k
      · rw [eq, up2_s, h3 85 (by decide)]
      · rw [up2_n (by omega), h4 q (by omega)]
theorem lp_ {nd : Nat} (hn : nd ≤ 10) (h28 : vi 72 28 = nI nd) : ∃ ar', m_X7_layPressed (wd_h vi ar pr hh) 72 = some (wd_h (up2 vi 72 24 (nI nd)) ar' pr hh) ∧ (∀ a, a ≠ 84 → ar' a = ar a) ∧ (∀ q, q < nd → ar' 84 q = ar 85 q) := by
  rw [m_X7_layPressed, wd_ck w72 (by decide), gi_7_28 w72, h28, Option.bind_some, pi_7_24 w72, Option.bind_some]
  exact lp_l (vi := up2 vi 72 24 (nI nd)) hn (by rw [up2_n (by omega)]; exact h28) 64 0 ar (by omega) (by omega) (fun _ _ => rfl) (fun q hq => absurd hq (Nat.not_lt_zero q))
theorem lp_sc {nd : Nat} (ha : ∀ a, a ≠ 84 → ar' a = ar a) : SC_ vi ar (up2 vi 72 24 (nI nd)) ar' := ⟨fun a b q => by unfold kv_ at q; rw [up2_n (by omega)], fun a b q => by unfold ka_ at q; rw [ha a (by omega)]⟩
theorem tks_ {k : Nat} (hk : k < 3) : m_X0_ticksOf (wd_h vi ar pr hh) 68 (nI k) = some (ar 71 k) := by
  rw [m_X0_ticksOf, wd_ck w68 (by decide), if_neg (nI_pos (by omega)), gr_0_1 w68, Option.bind_some, wd_ln (k := 71) (by decide) (by decide), Option.bind_some, if_neg (show ¬ nI (wd_k 71 - 100) ≤ nI k from nI_ge (b := 3) (by omega) (by omega)), Option.bind_some, wd_ai (by decide) (by decide) hk]
  rfl
theorem stk_ {k : Nat} {x : Int32} (hk : k < 3) : m_X0_setTicks (wd_h vi ar pr hh) 68 (nI k) x = some (wd_h vi (up2 ar 71 k x) pr hh) := by
  rw [m_X0_setTicks, wd_ck w68 (by decide), if_neg (nI_pos (by omega)), gr_0_1 w68, Option.bind_some, wd_ln (k := 71) (by decide) (by decide), Option.bind_some, if_neg (show ¬ nI (wd_k 71 - 100) ≤ nI k from nI_ge (b := 3) (by omega) (by omega)), Option.bind_some, wd_si (by decide) (by decide) hk]
  rfl
theorem up_ {s : Nat} (h : vi 68 2 = nI s) (hs : s ≤ 3) : m_X0_isUp (wd_h vi ar pr hh) 68 = some (if s = 0 then 0 else 1) := by
  rw [m_X0_isUp, wd_ck w68 (by decide), gi_0_2 w68, h, Option.bind_some]
  by_cases e : s = 0
  · rw [if_pos e, if_pos (show nI s = 0 by rw [e]; rfl)]
  · rw [if_neg e, if_neg (nI_ne0 (by omega) (by omega))]
theorem wt_ {s : Nat} (h : vi 68 2 = nI s) (hs : s ≤ 3) : m_X0_isWaiting (wd_h vi ar pr hh) 68 = some (if s = 1 then 1 else 0) := by
  rw [m_X0_isWaiting, wd_ck w68 (by decide), gi_0_2 w68, h, Option.bind_some]
  by_cases e : s = 1
  · rw [if_pos e, if_pos (show nI s = 1 by rw [e]; rfl)]
  · rw [if_neg e, if_neg (show ¬ nI s = 1 by rw [show (1 : Int32) = nI 1 from rfl, nI_eq (by omega) (by omega)]; exact e)]
theorem m27 {s k : Nat} (h : vi 72 27 = nI s) (hs : s ≤ 3) (hk : k ≤ 3) : vi 72 27 = nI k ↔ s = k := by
  rw [h, nI_eq (by omega) (by omega)]
end LN
theorem ok_stage (x y : Int32) : OK_ (fun h => m_X6_stage h 0 x y) (fun h => m_X7_stage h 72 x y) := by
  intro vi ar pr hh hI
  show ∃ vi1 ar1 pr1 vi2 ar2 r, m_X6_stage (wd_h vi ar pr hh) 0 x y = _ ∧ m_X7_stage (wd_h vi1 ar1 pr1 hh) 72 x y = _ ∧ _
  obtain ⟨n, m, pl, dr, an, s, nd, hP, hL, hN, hS, hC⟩ := id hI
  rw [m_X6_stage, wd_ck w0_ (by decide)]
  have out : ∀ {R : Option (dp_H × Int32)}, (m_X7_stage (wd_h vi ar pr hh) 72 x y = some (wd_h vi ar pr hh, -1002)) → R = some (wd_h vi ar pr hh, -1002) → ∃ vi1 ar1 pr1 vi2 ar2 r, R = some (wd_h vi1 ar1 pr1 hh, r) ∧ m_X7_stage (wd_h vi1 ar1 pr1 hh) 72 x y = some (wd_h vi2 ar2 pr1 hh, r) ∧ I_ vi2 ar2 pr1 := fun e1 e2 => ⟨vi, ar, pr, vi, ar, _, e2, e1, hI⟩
  rcases pk_ix x (n := 3) (by decide) with h0 | h1 | ⟨k, hk, rfl⟩
  · rw [if_pos h0]
    exact out (by rw [m_X7_stage, wd_ck w72 (by decide), wi_, if_pos h0]; rfl) rfl
  · have h0 : ¬ x < 0 := fun z => absurd (Int32.lt_of_le_of_lt h1 z) (by decide)
    have h2 : 2 < x := Int32.lt_of_lt_of_le (by decide) h1
    rw [if_neg h0, if_pos (show 3 ≤ x from h1)]
    exact out (by rw [m_X7_stage, wd_ck w72 (by decide), wi_, if_neg h0, if_pos h2]; rfl) rfl
  · have h0 : ¬ nI k < 0 := nI_pos (by omega)
    have h2 : ¬ 2 < nI k := nI_nlt (a := 2) (by omega) (by omega)
    rw [if_neg h0, if_neg (show ¬ 3 ≤ nI k from nI_ge (b := 3) hk (by omega))]
    by_cases y1 : y < 1
    · rw [if_pos y1]
      exact out (by rw [m_X7_stage, wd_ck w72 (by decide), wi_, if_neg h0, if_neg h2, Option.bind_some, if_neg (show ¬ (1 : Int32) = 0 by decide), wi_, if_pos y1]; rfl) rfl
    · rw [if_neg y1]
      by_cases y2 : y ≤ 99
      · rw [if_pos y2, gr_6_5 w0_, Option.bind_some, tks_ hk, Option.bind_some, Option.bind_some, stk_ hk, Option.bind_some]
        obtain ⟨t, ht, et⟩ := nI_of2 (M := 99) (n := 99) (by decide) (fun z => y1 (Int32.lt_trans z (by decide))) y2
        have ht1 : 1 ≤ t := by
          rcases Nat.eq_zero_or_pos t with z | z
          · rw [et, z] at y1; exact absurd (by decide) y1
          · exact z
        refine ⟨vi, _, pr, vi, up2 (up2 ar 71 k y) 81 k y, _, rfl, ?_, ?_⟩
        · rw [m_X7_stage, wd_ck w72 (by decide), wi_, if_neg h0, if_neg h2, Option.bind_some, if_neg (show ¬ (1 : Int32) = 0 by decide), wi_, if_neg y1, if_neg (Int32.not_lt.mpr y2), Option.bind_some, if_neg (show ¬ (1 : Int32) = 0 by decide), gr_7_10 w72, Option.bind_some, wd_ai (by decide) (by decide) (show k < 3 from hk), Option.bind_some, Option.bind_some, wd_si (by decide) (by decide) (show k < 3 from hk), Option.bind_some, up2_n (by omega), (hS k hk).1]
        · refine ⟨n, m, pl, dr, an, s, nd, hP.fr (fun _ _ _ => rfl) (fun a b q => by rw [up2_n (by omega), up2_n (by omega)]), hL.fr2 (fun _ _ _ => rfl) (fun a b q => by rw [up2_n (by omega), up2_n (by omega)]), hN.fr (fun _ _ _ => rfl) (fun a b q => by rw [up2_n (by omega), up2_n (by omega)]), fun i hi => ?_, hC⟩
          by_cases e : i = k
          · rw [e, up2_s, up2_n (by omega), up2_s]
            exact ⟨rfl, t, ht1, ht, et⟩
          · rw [up2_n (by omega), up2_n (by omega), up2_n (by omega), up2_n (by omega)]
            exact hS i hi
      · rw [if_neg y2]
        exact out (by rw [m_X7_stage, wd_ck w72 (by decide), wi_, if_neg h0, if_neg h2, Option.bind_some, if_neg (show ¬ (1 : Int32) = 0 by decide), wi_, if_neg y1, if_pos (Int32.not_le.mp y2)]; rfl) rfl
theorem ok_lift : OK_ (fun h => m_X6_lift h 0) (fun h => m_X7_lift h 72) := by
  intro vi ar pr hh hI
  show ∃ vi1 ar1 pr1 vi2 ar2 r, m_X6_lift (wd_h vi ar pr hh) 0 = _ ∧ m_X7_lift (wd_h vi1 ar1 pr1 hh) 72 = _ ∧ _
  obtain ⟨n, m, pl, dr, an, s, nd, hP, hL, hN, hS, hC⟩ := id hI
  obtain ⟨n1, n2, n3, n4, n5, n6, n7, n8, n9, n10, n11, n12⟩ := id hN
  rw [m_X6_lift, wd_ck w0_ (by decide), gr_6_5 w0_, Option.bind_some, up_ n2 n1, Option.bind_some]
  by_cases e : s = 0
  · obtain ⟨nd0, en0⟩ := n12 e
    subst nd0
    have c1 : m_X0_putUp (wd_h vi ar pr hh) 68 9 = some (wd_h (up2 (up2 (up2 vi 68 5 (vi 68 5 + 1)) 68 2 1) 68 4 (ar 71 0)) ar pr hh) := by
      rw [m_X0_putUp, wd_ck w68 (by decide), gi_0_5 w68, Option.bind_some, pi_0_5 w68, Option.bind_some, m_X0_goOnWaiting, wd_ck w68 (by decide), pi_0_2 w68, Option.bind_some, m_X0_currentStage, wd_ck w68 (by decide), gr_0_0 w68, Option.bind_some, ro_size (k := 69) (cap := 10) (n := 0) ⟨rfl, rfl, by decide, by rw [up2_n (by omega), up2_n (by omega)]; exact n5, by omega⟩, Option.bind_some, if_pos (show nI 0 = 0 from rfl), Option.bind_some, show (0 : Int32) = nI 0 from rfl, tks_ (by omega), Option.bind_some, pi_0_4 w68]
      rfl
    rw [if_pos e, if_pos rfl, Option.bind_some, gr_6_2 w0_, Option.bind_some, c1, Option.bind_some, gr_6_5 w0_, Option.bind_some, m_X0_ticksLeft, wd_ck w68 (by decide), gi_0_4 w68, up2_s, Option.bind_some, Option.bind_some]
    refine ⟨_, ar, pr, up2 (up2 (up2 (up2 (up2 (up2 (up2 (up2 vi 68 5 (vi 68 5 + 1)) 68 2 1) 68 4 (ar 71 0)) 72 27 1) 72 28 0) 72 31 0) 72 30 (ar 71 0)) 72 11 (vi 68 5 + 1), ar, _, rfl, ?_, ?_⟩
    · rw [m_X7_lift, wd_ck w72 (by decide), gi_7_27 w72, up2_n (by omega), up2_n (by omega), up2_n (by omega), n3, e, Option.bind_some, if_pos (show nI 0 = 0 from rfl), pi_7_27 w72, Option.bind_some, pi_7_28 w72, Option.bind_some, pi_7_31 w72, Option.bind_some, gr_7_10 w72, Option.bind_some, show (0 : Int32) = nI 0 from rfl, wd_ai (by decide) (by decide) (show 0 < 3 by decide), (hS 0 (by omega)).1, Option.bind_some, pi_7_30 w72, Option.bind_some, gi_7_11 w72, Option.bind_some, pi_7_11 w72, Option.bind_some, gi_7_30 w72, Option.bind_some]
      simp only [up2, show ¬ (72 : Nat) = 68 by decide, show ¬ (11 : Nat) = 30 by decide, show ¬ (11 : Nat) = 31 by decide, show ¬ (11 : Nat) = 28 by decide, show ¬ (11 : Nat) = 27 by decide, show ¬ (30 : Nat) = 11 by decide, and_false, false_and, and_true, true_and, if_false, if_true, hC.1]
    · obtain ⟨t, t1, t2, t3⟩ := (hS 0 (by omega)).2
      refine ⟨n, m, pl, dr, an, 1, 0, hP.fr (fun a b q => ?_) (fun _ _ _ => rfl), hL.fr2 (fun a b q => ?_) (fun _ _ _ => rfl), ⟨by omega, ?_, ?_, by omega, ?_, ?_, fun k hk => absurd hk (Nat.not_lt_zero k), fun k hk => absurd hk (Nat.not_lt_zero k), ?_, fun _ => ⟨by omega, ?_, t, t1, t2, ?_⟩, by omega, by omega⟩, hS, ?_⟩
      · repeat rw [up2_n (by omega)]
      · repeat rw [up2_n (by omega)]
      · rw [up2_n (by omega), up2_n (by omega), up2_n (by omega), up2_n (by omega), up2_n (by omega), up2_n (by omega), up2_s]; rfl
      · rw [up2_n (by omega), up2_n (by omega), up2_n (by omega), up2_n (by omega), up2_s]; rfl
      · repeat rw [up2_n (by omega)]
        exact n5
      · rw [up2_n (by omega), up2_n (by omega), up2_n (by omega), up2_s]; rfl
      · rw [up2_n (a := 68) (b := 3) (by omega), up2_n (a := 68) (b := 3) (by omega), up2_n (a := 68) (b := 3) (by omega), up2_n (a := 68) (b := 3) (by omega), up2_n (a := 68) (b := 3) (by omega), up2_n (a := 68) (b := 3) (by omega), up2_n (a := 68) (b := 3) (by omega), up2_n (a := 68) (b := 3) (by omega), up2_n (by omega), up2_n (by omega), up2_s, en0]
      · rw [up2_n (a := 72) (by omega), up2_s, up2_n (a := 68) (b := 4) (by omega), up2_n (a := 68) (b := 4) (by omega), up2_n (a := 68) (b := 4) (by omega), up2_n (a := 68) (b := 4) (by omega), up2_n (a := 68) (b := 4) (by omega), up2_s]
      · rw [up2_n (by omega), up2_n (by omega), up2_n (by omega), up2_n (by omega), up2_n (by omega), up2_s]; exact t3
      · unfold Ct_
        simp only [up2, show ¬ (72 : Nat) = 68 by decide, show ¬ (68 : Nat) = 72 by decide, show ¬ (5 : Nat) = 2 by decide, show ¬ (5 : Nat) = 4 by decide, show ¬ (6 : Nat) = 2 by decide, show ¬ (6 : Nat) = 4 by decide, show ¬ (6 : Nat) = 5 by decide, show ¬ (7 : Nat) = 2 by decide, show ¬ (7 : Nat) = 4 by decide, show ¬ (7 : Nat) = 5 by decide, show ¬ (8 : Nat) = 2 by decide, show ¬ (8 : Nat) = 4 by decide, show ¬ (8 : Nat) = 5 by decide, show ¬ (12 : Nat) = 11 by decide, show ¬ (12 : Nat) = 27 by decide, show ¬ (12 : Nat) = 28 by decide, show ¬ (12 : Nat) = 30 by decide, show ¬ (12 : Nat) = 31 by decide, show ¬ (13 : Nat) = 11 by decide, show ¬ (13 : Nat) = 27 by decide, show ¬ (13 : Nat) = 28 by decide, show ¬ (13 : Nat) = 30 by decide, show ¬ (13 : Nat) = 31 by decide, show ¬ (14 : Nat) = 11 by decide, show ¬ (14 : Nat) = 27 by decide, show ¬ (14 : Nat) = 28 by decide, show ¬ (14 : Nat) = 30 by decide, show ¬ (14 : Nat) = 31 by decide, and_false, false_and, and_true, true_and, if_false, if_true]
        exact ⟨hC.2.1, hC.2.2.1, hC.2.2.2⟩
  · rw [if_neg e, if_neg (show ¬ (1 : Int32) = 0 by decide)]
    exact ⟨vi, ar, pr, vi, ar, _, rfl, by rw [m_X7_lift, wd_ck w72 (by decide), gi_7_27 w72, n3, Option.bind_some, if_neg (nI_ne0 (by omega) (by omega))], hI⟩
theorem ok_hang : OK_ (fun h => m_X6_hang h 0) (fun h => m_X7_hang h 72) := by
  intro vi ar pr hh hI
  show ∃ vi1 ar1 pr1 vi2 ar2 r, m_X6_hang (wd_h vi ar pr hh) 0 = _ ∧ m_X7_hang (wd_h vi1 ar1 pr1 hh) 72 = _ ∧ _
  obtain ⟨n, m, pl, dr, an, s, nd, hP, hL, hN, hS, hC⟩ := id hI
  obtain ⟨n1, n2, n3, n4, n5, n6, n7, n8, n9, n10, n11, n12⟩ := id hN
  rw [m_X6_hang, wd_ck w0_ (by decide), gr_6_5 w0_, Option.bind_some, up_ n2 n1, Option.bind_some]
  by_cases e : s = 0
  · rw [if_pos e, if_pos rfl]
    exact ⟨vi, ar, pr, vi, ar, _, rfl, by rw [m_X7_hang, wd_ck w72 (by decide), gi_7_27 w72, n3, e, Option.bind_some, if_pos (show nI 0 = 0 from rfl)], hI⟩
  · have c1 : m_X0_putDown (wd_h vi ar pr hh) 68 = some (wd_h (up2 (up2 (up2 (up2 vi 69 1 0) 68 3 0) 68 4 0) 68 2 0) ar pr hh) := by
      rw [m_X0_putDown, wd_ck w68 (by decide), gr_0_0 w68, Option.bind_some, ro_clear hN.rw, Option.bind_some, pi_0_3 w68, Option.bind_some, pi_0_4 w68, Option.bind_some, pi_0_2 w68]
      rfl
    rw [if_neg e, if_neg (show ¬ (1 : Int32) = 0 by decide), Option.bind_some, m_X0_dialled, wd_ck w68 (by decide), gr_0_0 w68, Option.bind_some, Option.bind_some, ro_size hN.rw, Option.bind_some, Option.bind_some, c1, Option.bind_some]
    refine ⟨_, ar, pr, up2 (up2 (up2 (up2 (up2 (up2 (up2 vi 69 1 0) 68 3 0) 68 4 0) 68 2 0) 72 27 0) 72 28 0) 72 31 0, ar, _, rfl, ?_, ?_⟩
    · rw [m_X7_hang, wd_ck w72 (by decide), gi_7_27 w72, up2_n (by omega), up2_n (by omega), up2_n (by omega), up2_n (by omega), n3, Option.bind_some, if_neg (nI_ne0 (by omega) (by omega)), gi_7_28 w72, up2_n (by omega), up2_n (by omega), up2_n (by omega), up2_n (by omega), n6, Option.bind_some, pi_7_27 w72, Option.bind_some, pi_7_28 w72, Option.bind_some, pi_7_31 w72, Option.bind_some]
    · refine ⟨n, m, pl, dr, an, 0, 0, hP.fr (fun a b q => ?_) (fun _ _ _ => rfl), hL.fr2 (fun a b q => ?_) (fun _ _ _ => rfl), ⟨by omega, ?_, ?_, by omega, ?_, ?_, fun k hk => absurd hk (Nat.not_lt_zero k), fun k hk => absurd hk (Nat.not_lt_zero k), ?_, by omega, fun _ => ?_, fun _ => ⟨rfl, ?_⟩⟩, hS, hC.fr (fun a b q => ?_)⟩
      · repeat rw [up2_n (by omega)]
      · repeat rw [up2_n (by omega)]
      · rw [up2_n (by omega), up2_n (by omega), up2_n (by omega), up2_s]; rfl
      · rw [up2_n (by omega), up2_n (by omega), up2_s]; rfl
      · rw [up2_n (by omega), up2_n (by omega), up2_n (by omega), up2_n (by omega), up2_n (by omega), up2_n (by omega), up2_s]; rfl
      · rw [up2_n (by omega), up2_s]; rfl
      · rw [up2_n (a := 68) (b := 3) (by omega), up2_n (a := 68) (b := 3) (by omega), up2_n (a := 68) (b := 3) (by omega), up2_n (a := 68) (b := 3) (by omega), up2_n (a := 68) (b := 3) (by omega), up2_s, up2_s]
      · rw [up2_n (by omega), up2_n (by omega), up2_n (by omega), up2_n (by omega), up2_s]
      · rw [up2_n (by omega), up2_n (by omega), up2_n (by omega), up2_n (by omega), up2_n (by omega), up2_s]
      · repeat rw [up2_n (by omega)]
