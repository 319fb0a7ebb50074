/-! the reference's reading -/
section MR
variable {vi ar : Nat → Nat → Int32} {pr : Nat → Nat} {hh : Int64} {m : Nat} {pl dr an : Nat → Nat}
theorem wr_84 {i : Nat} {x : Int32} (hi : i < 14) : dp_si false (wd_h vi ar pr hh) 84 (nI i) x = some (wd_h vi (up2 ar 84 i x) pr hh) := wd_si (by decide) (by decide) hi
theorem nI_ge0 {a d : Nat} (ha : a ≤ d) (hd : d < 2 ^ 30) : nI a - nI d ≤ 0 := by
  rcases Nat.lt_or_ge a d with h | h
  · have := pk_sneg (a := a) (b := d) hd h
    exact Int32.le_of_lt this
  · rw [show a = d by omega, Int32.sub_self]
    exact Int32.le_refl 0
/-- what is ahead is laid -/
theorem ma_l (h : PL_ vi ar pr m pl dr an) {j w : Nat} (hj : j < m) : ∀ (f k : Nat) (ar1 : Nat → Nat → Int32), k ≤ an j → 10 < f + k → (∀ b, b ≠ 84 → ar1 b = ar b) → ∃ ar', m_X7_rewrite_81 f (wd_h vi ar1 pr hh) 72 (nI j) (nI (an j)) (nI w) (nI k) = some (wd_h (up2 vi 72 24 (nI w)) ar' pr hh) ∧ (∀ b, b ≠ 84 → ar' b = ar b) ∧ (∀ q, q < k → ar' 84 q = ar1 84 q) ∧ (∀ q, k ≤ q → q < an j → ar' 84 q = ar (pr j + 4) q) ∧ (∀ q, an j ≤ q → ar' 84 q = ar1 84 q) := by
  have hm10 := h.1
  obtain ⟨⟨-, -, -, -, -, -, -, -, w4, -⟩, -, -, -, -, -, -, q80⟩ := h.2.2.2.2.2 j hj
  intro f
  induction f with
  | zero => intro k ar1 h1 h2; omega
  | succ f ih =>
    intro k ar1 h1 h2 ha
    show ∃ ar', b_X7_rewrite_81 (m_X7_rewrite_81 f) (wd_h vi ar1 pr hh) 72 (nI j) (nI (an j)) (nI w) (nI k) = _ ∧ _
    unfold b_X7_rewrite_81
    by_cases hin : k < an j
    · obtain ⟨a2, e1, e2, e3, e4, e5⟩ := ih (k + 1) (up2 ar1 84 k (ar1 80 (4 * j + k))) (by omega) (by omega) (fun b hb => by rw [up2_k hb]; exact ha b hb)
      rw [if_neg (by rw [nI_leI (by omega) (by omega)]; omega), gr_7_25 w72, Option.bind_some, gr_7_9 w72, Option.bind_some, rd_80 (by omega) (by omega), Option.bind_some, wr_84 (by omega), Option.bind_some, nI_1]
      refine ⟨a2, e1, e2, fun q hq => by rw [e3 q (by omega), up2_n (by omega)], fun q hq1 hq2 => ?_, fun q hq => by rw [e5 q hq, up2_n (by omega)]⟩
      by_cases hqk : q = k
      · subst hqk
        rw [e3 q (by omega), up2_s, ha 80 (by decide), q80 q hin]
      · exact e4 q (by omega) hq2
    · rw [if_pos (by rw [nI_leI (by omega) (by omega)]; omega), pi_7_24 w72, Option.bind_some]
      exact ⟨ar1, rfl, ha, fun _ _ => rfl, fun q _ _ => absurd hin (by omega), fun _ _ => rfl⟩
/-- the digits are moved: to the right from the last on, to the left from the first on -/
theorem mv_r {j n a d : Nat} (had : d < a) (hdn : d ≤ n) (hn : n ≤ 10) (ha4 : a ≤ 4) : ∀ (f k : Nat) (ar1 : Nat → Nat → Int32), k ≤ n - d → 10 < f + k → (∀ b, b ≠ 84 → ar1 b = ar b) → (∀ q, q < n + a - d - k → ar1 84 q = ar 84 q) → (∀ q, n + a - d - k ≤ q → q < n + a - d → ar1 84 q = ar 84 (q - a + d)) → ∃ ar', m_X7_rewrite_27 f (wd_h vi ar1 pr hh) 72 (nI j) (nI a) (nI a - nI d) (nI (n + a - d)) (nI k) = m_X7_rewrite_81 64 (wd_h vi ar' pr hh) 72 (nI j) (nI a) (nI (n + a - d)) 0 ∧ (∀ b, b ≠ 84 → ar' b = ar b) ∧ (∀ q, a ≤ q → q < n + a - d → ar' 84 q = ar 84 (q - a + d)) := by
  intro f
  induction f with
  | zero => intro k ar1 h1 h2; omega
  | succ f ih =>
    intro k ar1 h1 h2 ha hlo hhi
    show ∃ ar', b_X7_rewrite_27 (m_X7_rewrite_27 f) (wd_h vi ar1 pr hh) 72 (nI j) (nI a) (nI a - nI d) (nI (n + a - d)) (nI k) = _ ∧ _
    unfold b_X7_rewrite_27
    rw [pk_sub (show a ≤ n + a - d by omega), show n + a - d - a = n - d by omega]
    by_cases hin : k < n - d
    · rw [if_neg (by rw [nI_leI (by omega) (by omega)]; omega), if_neg (by rw [pk_sub (by omega)]; exact nI_nle (by omega) (by omega)), gr_7_25 w72, Option.bind_some, Option.bind_some, in_3 a d k n (n + a - d) (by omega) (by omega), in_4 (n + a - d) k (by omega), rd_84 (by omega), Option.bind_some, wr_84 (by omega), Option.bind_some, nI_1]
      refine ih (k + 1) _ (by omega) (by omega) (fun b hb => by rw [up2_k hb]; exact ha b hb) (fun q hq => by rw [up2_n (by omega)]; exact hlo q (by omega)) (fun q hq1 hq2 => ?_)
      by_cases hqe : q = n + a - d - 1 - k
      · rw [hqe, up2_s, hlo _ (by omega)]
        congr 1
        omega
      · rw [up2_n (by omega)]
        exact hhi q (by omega) hq2
    · rw [if_pos (by rw [nI_leI (by omega) (by omega)]; omega)]
      exact ⟨ar1, rfl, ha, fun q hq1 hq2 => hhi q (by omega) hq2⟩
theorem mv_l {j n a d : Nat} (had : a ≤ d) (hdn : d ≤ n) (hn : n ≤ 10) (ha4 : a ≤ 4) : ∀ (f k : Nat) (ar1 : Nat → Nat → Int32), k ≤ n - d → 10 < f + k → (∀ b, b ≠ 84 → ar1 b = ar b) → (∀ q, a + k ≤ q → ar1 84 q = ar 84 q) → (∀ q, a ≤ q → q < a + k → ar1 84 q = ar 84 (q - a + d)) → ∃ ar', m_X7_rewrite_27 f (wd_h vi ar1 pr hh) 72 (nI j) (nI a) (nI a - nI d) (nI (n + a - d)) (nI k) = m_X7_rewrite_81 64 (wd_h vi ar' pr hh) 72 (nI j) (nI a) (nI (n + a - d)) 0 ∧ (∀ b, b ≠ 84 → ar' b = ar b) ∧ (∀ q, a ≤ q → q < n + a - d → ar' 84 q = ar 84 (q - a + d)) := by
  intro f
  induction f with
  | zero => intro k ar1 h1 h2; omega
  | succ f ih =>
    intro k ar1 h1 h2 ha hlo hhi
    show ∃ ar', b_X7_rewrite_27 (m_X7_rewrite_27 f) (wd_h vi ar1 pr hh) 72 (nI j) (nI a) (nI a - nI d) (nI (n + a - d)) (nI k) = _ ∧ _
    unfold b_X7_rewrite_27
    rw [pk_sub (show a ≤ n + a - d by omega), show n + a - d - a = n - d by omega]
    by_cases hin : k < n - d
    · rw [if_neg (by rw [nI_leI (by omega) (by omega)]; omega), if_pos (nI_ge0 had (by omega)), gr_7_25 w72, Option.bind_some, Option.bind_some, nI_add a k, in_2 a d k, rd_84 (by omega), Option.bind_some, wr_84 (by omega), Option.bind_some, nI_1]
      refine ih (k + 1) _ (by omega) (by omega) (fun b hb => by rw [up2_k hb]; exact ha b hb) (fun q hq => by rw [up2_n (by omega)]; exact hlo q (by omega)) (fun q hq1 hq2 => ?_)
      by_cases hqe : q = a + k
      · rw [hqe, up2_s, hlo _ (by omega)]
        congr 1
        omega
      · rw [up2_n (by omega)]
        exact hhi q hq1 (by omega)
    · rw [if_pos (by rw [nI_leI (by omega) (by omega)]; omega)]
      exact ⟨ar1, rfl, ha, fun q hq1 hq2 => hhi q hq1 (by omega)⟩
theorem mw_ (h : PL_ vi ar pr m pl dr an) {n j : Nat} (hj : j < m) (h24 : vi 72 24 = nI n) (hn : n ≤ 10) (hd : dr j ≤ n) : ∃ ar', m_X7_rewrite (wd_h vi ar pr hh) 72 (nI j) = some (wd_h (up2 vi 72 24 (nI (an j + (n - dr j)))) ar' pr hh) ∧ (∀ b, b ≠ 84 → ar' b = ar b) ∧ (∀ q, q < an j + (n - dr j) → ar' 84 q = rg_ ar pr dr an j (ar 84) q) := by
  have hm10 := h.1
  obtain ⟨⟨-, -, -, -, -, -, -, -, w4, -⟩, -, -, -, q78, q79, -, -⟩ := h.2.2.2.2.2 j hj
  have key : ∀ (ar' : Nat → Nat → Int32), (∀ b, b ≠ 84 → ar' b = ar b) → (∀ q, an j ≤ q → q < n + an j - dr j → ar' 84 q = ar 84 (q - an j + dr j)) → ∃ ar2, m_X7_rewrite_81 64 (wd_h vi ar' pr hh) 72 (nI j) (nI (an j)) (nI (n + an j - dr j)) 0 = some (wd_h (up2 vi 72 24 (nI (an j + (n - dr j)))) ar2 pr hh) ∧ (∀ b, b ≠ 84 → ar2 b = ar b) ∧ (∀ q, q < an j + (n - dr j) → ar2 84 q = rg_ ar pr dr an j (ar 84) q) := by
    intro ar' e1 e2
    obtain ⟨a2, f1, f2, f3, f4, f5⟩ := ma_l (hh := hh) h (w := n + an j - dr j) hj 64 0 ar' (by omega) (by omega) e1
    refine ⟨a2, by rw [show an j + (n - dr j) = n + an j - dr j by omega]; exact f1, f2, fun q hq => ?_⟩
    unfold rg_
    by_cases hqa : q < an j
    · rw [if_pos hqa, f4 q (by omega) hqa]
    · rw [if_neg hqa, f5 q (by omega), e2 q (by omega) (by omega)]
  rw [m_X7_rewrite, wd_ck w72 (by decide), gr_7_8 w72, Option.bind_some, rd_79 (by omega), q79, Option.bind_some, gr_7_7 w72, Option.bind_some, rd_78 (by omega), q78, Option.bind_some, gi_7_24 w72, h24, Option.bind_some, in_1, pk_sub (show dr j ≤ n + an j by omega)]
  by_cases had : dr j < an j
  · obtain ⟨a2, e1, e2, e3⟩ := mv_r (j := j) (vi := vi) (ar := ar) (pr := pr) (hh := hh) had hd hn w4 64 0 ar (by omega) (by omega) (fun _ _ => rfl) (fun _ _ => rfl) (fun q h1 h2 => absurd h1 (by omega))
    obtain ⟨a3, f1, f2, f3⟩ := key a2 e2 e3
    exact ⟨a3, e1.trans f1, f2, f3⟩
  · obtain ⟨a2, e1, e2, e3⟩ := mv_l (j := j) (vi := vi) (ar := ar) (pr := pr) (hh := hh) (by omega) hd hn w4 64 0 ar (by omega) (by omega) (fun _ _ => rfl) (fun _ _ => rfl) (fun q h1 h2 => absurd h1 (by omega))
    obtain ⟨a3, f1, f2, f3⟩ := key a2 e2 e3
    exact ⟨a3, e1.trans f1, f2, f3⟩
theorem wi_ {h : dp_H} {x lo hi : Int32} : m_X7_within h x lo hi = some (if x < lo then 0 else if hi < x then 0 else 1) := by
  unfold m_X7_within
  split
  · rfl
  · split <;> rfl
theorem md_l (h : PL_ vi ar pr m pl dr an) : ∀ (f k n : Nat) (vi1 ar1 : Nat → Nat → Int32), k ≤ 6 → k < f → n ≤ 10 → (∀ a, a ≠ 72 → vi1 a = vi a) → (∀ b, b ≠ 24 → b ≠ 26 → vi1 72 b = vi 72 b) → (∀ a, a ≠ 84 → ar1 a = ar a) → vi1 72 24 = nI n → vi1 72 26 = nI (6 - k) → sm_ 9 (ar1 84) n →
    ∃ vi' ar', m_X7_read_7 f (wd_h vi1 ar1 pr hh) 72 1 = some (wd_h vi' ar' pr hh, (rx_ vi ar pr m pl dr an k n (ar1 84)).1) ∧ (∀ a, a ≠ 72 → vi' a = vi a) ∧ (∀ b, b ≠ 24 → b ≠ 26 → vi' 72 b = vi 72 b) ∧ (∀ a, a ≠ 84 → ar' a = ar a) ∧ vi' 72 26 = nI (6 - (rx_ vi ar pr m pl dr an k n (ar1 84)).2.1) ∧ ((rx_ vi ar pr m pl dr an k n (ar1 84)).1 ≠ -1 → vi' 72 24 = nI (rx_ vi ar pr m pl dr an k n (ar1 84)).2.2.1 ∧ ∀ q, q < (rx_ vi ar pr m pl dr an k n (ar1 84)).2.2.1 → ar' 84 q = (rx_ vi ar pr m pl dr an k n (ar1 84)).2.2.2 q) ∧ ((rx_ vi ar pr m pl dr an k n (ar1 84)).1 = -1 → (rx_ vi ar pr m pl dr an k n (ar1 84)).2.2.1 = 0) := by
  have hm10 := h.1
  intro f
  induction f with
  | zero => intro k n vi1 ar1 h1 h2; omega
  | succ f ih =>
    intro k n vi1 ar1 h1 h2 hn hv hv72 ha h24 h26 hdg
    show ∃ vi' ar', b_X7_read_7 (m_X7_read_7 f) (wd_h vi1 ar1 pr hh) 72 1 = _ ∧ _
    unfold b_X7_read_7
    rw [if_neg (show ¬ (1 : Int32) = 0 by decide), gi_7_26 w72, h26, Option.bind_some]
    cases k with
    | zero =>
      rw [if_pos (by show nI 6 ≤ nI (6 - 0); exact nI_le (by omega) (by omega))]
      exact ⟨vi1, ar1, rfl, hv, hv72, ha, h26, fun z => absurd rfl z, fun _ => rfl⟩
    | succ k =>
      have e6 : nI (6 - (k + 1)) + 1 = nI (6 - k) := by rw [nI_1]; congr 1; omega
      have hv2 : ∀ a, 11 ≤ a → a < 61 → (up2 vi1 72 26 (nI (6 - k))) a = vi a := fun a _ hx => by rw [up2_k (by omega), hv a (by omega)]
      have ha2 : ∀ a, 11 ≤ a → a < 61 → ar1 a = ar a := fun a _ hx => ha a (by omega)
      have hP : PL_ (up2 vi1 72 26 (nI (6 - k))) ar1 pr m pl dr an := pl_up h (fun a hx => by rw [up2_k (by omega), hv a (by omega)]) (by rw [up2_n (by omega), hv72 2 (by decide) (by decide)]) (fun a hx => ha a (by omega)) (fun a _ _ => ha a (by omega))
      rw [if_neg (by show ¬ nI 6 ≤ nI (6 - (k + 1)); rw [nI_leI (by omega) (by omega)]; omega), Option.bind_some, pi_7_26 w72, Option.bind_some, gi_7_24 w72, e6, up2_n (by omega), h24, Option.bind_some, ml_fg hP hn hdg, Option.bind_some, ml_wn hP, Option.bind_some, rx_, fi_fr h hv2 ha2, cx_fr h ha2]
      cases hw : wn_ (fi_ vi ar pr pl (ar1 84) n) (cx_ ar pr) m 0 none with
      | none =>
        rw [show wo_ none = -1 from rfl, if_pos rfl]
        simp only [Option.elim_none]
        exact ⟨_, ar1, rfl, fun a b1 => by rw [up2_k b1, hv a b1], fun b b1 b2 => by rw [up2_n (by omega), hv72 b b1 b2], ha, by rw [up2_s], fun z => absurd rfl z, fun _ => trivial⟩
      | some j =>
        have hj := wn_lt (m := m) m 0 none (by omega) (fun q hq => by cases hq) j hw
        have hf := wn_in m 0 none (fun q hq => by cases hq) j hw
        obtain ⟨⟨-, -, -, -, ⟨w, hw10, ew⟩, -, w7, -, w4, w9, -⟩, -, -, q77, -⟩ := h.2.2.2.2.2 j hj
        have hnd : dr j ≤ n := by
          unfold fi_ ft_ at hf
          rw [Bool.and_eq_true, decide_eq_true_eq] at hf
          rcases hf.2 with z | z <;> omega
        obtain ⟨a3, l1, l3, l5⟩ := mw_ (hh := hh) hP hj (by rw [up2_n (by omega)]; exact h24) hn hnd
        rw [rg_fr h ha2] at l5
        have hwne : ¬ vi (pr j) 5 = -1 := by rw [ew]; exact wo_ne (by omega)
        rw [show wo_ (some j) = nI j from rfl, if_neg (wo_ne (by omega)), l1, Option.bind_some, gi_7_24 w72, up2_s, Option.bind_some, wi_, Option.bind_some]
        simp only [Option.elim_some]
        have l2' : ∀ a, a ≠ 72 → (up2 (up2 vi1 72 26 (nI (6 - k))) 72 24 (nI (an j + (n - dr j)))) a = vi a := fun a b1 => by rw [up2_k b1, up2_k b1, hv a b1]
        have l72 : ∀ b, b ≠ 24 → b ≠ 26 → (up2 (up2 vi1 72 26 (nI (6 - k))) 72 24 (nI (an j + (n - dr j)))) 72 b = vi 72 b := fun b b1 b2 => by rw [up2_n (by omega), up2_n (by omega), hv72 b b1 b2]
        have l3' : ∀ a, a ≠ 84 → a3 a = ar a := fun a b1 => by rw [l3 a b1, ha a b1]
        have e26 : (up2 (up2 vi1 72 26 (nI (6 - k))) 72 24 (nI (an j + (n - dr j)))) 72 26 = nI (6 - k) := by rw [up2_n (by omega), up2_s]
        by_cases h1 : 10 < an j + (n - dr j) ∨ an j + (n - dr j) = 0
        · have hz : (if nI (an j + (n - dr j)) < 1 then (0 : Int32) else if 10 < nI (an j + (n - dr j)) then 0 else 1) = 0 := by
            rcases h1 with z | z
            · rw [if_neg (by show ¬ nI (an j + (n - dr j)) < nI 1; rw [nI_ltI (by omega) (by omega)]; omega), if_pos (by show nI 10 < nI (an j + (n - dr j)); rw [nI_ltI (by omega) (by omega)]; omega)]
            · rw [if_pos (by show nI (an j + (n - dr j)) < nI 1; rw [nI_ltI (by omega) (by omega)]; omega)]
          rw [hz, if_pos rfl, if_pos h1]
          exact ⟨_, a3, rfl, l2', l72, l3', e26, fun z => absurd rfl z, fun _ => rfl⟩
        · have hz : (if nI (an j + (n - dr j)) < 1 then (0 : Int32) else if 10 < nI (an j + (n - dr j)) then 0 else 1) = 1 := by
            rw [if_neg (by show ¬ nI (an j + (n - dr j)) < nI 1; rw [nI_ltI (by omega) (by omega)]; omega), if_neg (by show ¬ nI 10 < nI (an j + (n - dr j)); rw [nI_ltI (by omega) (by omega)]; omega)]
          rw [hz, if_neg (show ¬ (1 : Int32) = 0 by decide), if_neg h1, gr_7_6 w72, Option.bind_some, rd_77 (by omega), l3' 77 (by decide), q77, Option.bind_some]
          by_cases h5 : vi (pr j) 5 = 10
          · rw [if_pos h5, if_pos h5]
            have hdg' : sm_ 9 (a3 84) (an j + (n - dr j)) := by
              intro q hq
              rw [l5 q hq]
              unfold rg_
              by_cases hqa : q < an j
              · rw [if_pos hqa]; exact w9 q hqa
              · rw [if_neg hqa]; exact hdg _ (by omega)
            obtain ⟨v4, a4, t1, t2, t3, t4, t5, t6, t7⟩ := ih k (an j + (n - dr j)) _ a3 (by omega) (by omega) (by omega) l2' l72 l3' (by rw [up2_s]) e26 hdg'
            obtain ⟨c1, c2, c3, c4⟩ := rx_congr (g := a3 84) (g' := a3 84) (n := 0) h k (an j + (n - dr j)) (a3 84) (rg_ ar pr dr an j (ar1 84)) (fun q hq => l5 q hq)
            refine ⟨v4, a4, by rw [t1, c1], t2, t3, t4, by rw [t5, c2], fun z => ?_, fun z => by rw [← c3]; exact t7 (by rw [c1]; exact z)⟩
            obtain ⟨u1, u2⟩ := t6 (by rw [c1]; exact z)
            exact ⟨by rw [u1, c3], fun q hq => by rw [u2 q (by rw [c3]; exact hq), c4 q (by rw [c3]; exact hq)]⟩
          · rw [if_neg h5, if_neg h5, Option.bind_some, rd_77 (by omega), l3' 77 (by decide), q77, Option.bind_some]
            exact ⟨_, a3, rfl, l2', l72, l3', e26, fun _ => ⟨up2_s, l5⟩, fun z => absurd z hwne⟩
theorem md_ (h : PL_ vi ar pr m pl dr an) {n : Nat} (hn : n ≤ 10) (h24 : vi 72 24 = nI n) (hd : sm_ 9 (ar 84) n) :
    ∃ vi' ar', m_X7_read (wd_h vi ar pr hh) 72 = some (wd_h vi' ar' pr hh, (rx_ vi ar pr m pl dr an 6 n (ar 84)).1) ∧ (∀ a, a ≠ 72 → vi' a = vi a) ∧ (∀ b, b ≠ 24 → b ≠ 26 → vi' 72 b = vi 72 b) ∧ (∀ a, a ≠ 84 → ar' a = ar a) ∧ vi' 72 26 = nI (6 - (rx_ vi ar pr m pl dr an 6 n (ar 84)).2.1) ∧ ((rx_ vi ar pr m pl dr an 6 n (ar 84)).1 ≠ -1 → vi' 72 24 = nI (rx_ vi ar pr m pl dr an 6 n (ar 84)).2.2.1 ∧ ∀ q, q < (rx_ vi ar pr m pl dr an 6 n (ar 84)).2.2.1 → ar' 84 q = (rx_ vi ar pr m pl dr an 6 n (ar 84)).2.2.2 q) ∧ ((rx_ vi ar pr m pl dr an 6 n (ar 84)).1 = -1 → (rx_ vi ar pr m pl dr an 6 n (ar 84)).2.2.1 = 0) := by
  rw [m_X7_read, wd_ck w72 (by decide), pi_7_26 w72, Option.bind_some]
  exact md_l h 64 6 n (up2 vi 72 26 0) ar (by omega) (by omega) hn (fun a b1 => up2_k b1) (fun b b1 b2 => up2_n (by omega)) (fun _ _ => rfl) (by rw [up2_n (by omega)]; exact h24) (by rw [up2_s]; rfl) hd
end MR
