/-! drop -/
def sg_ (j m q : Nat) : Nat := if q < j then q else if q + 1 < m then q + 1 else if q + 1 = m then j else q
section DR
variable {vi ar v a : Nat → Nat → Int32} {pr : Nat → Nat} {hh : Int64} {m : Nat} {pl dr an : Nat → Nat}
theorem sg_lt {j m q : Nat} (hj : j < m) (hm : m ≤ 10) (hq : q < 10) : sg_ j m q < 10 := by
  unfold sg_
  split
  · omega
  · split
    · omega
    · split <;> omega
theorem sg_in {j m q p : Nat} (hj : j < m) (e : sg_ j m q = sg_ j m p) : q = p := by
  unfold sg_ at e
  split at e
  · split at e
    · exact e
    · split at e
      · omega
      · split at e <;> omega
  · split at e
    · split at e
      · omega
      · split at e
        · omega
        · split at e <;> omega
    · split at e
      · split at e
        · omega
        · split at e
          · omega
          · split at e <;> omega
      · split at e
        · omega
        · split at e
          · omega
          · split at e <;> omega
theorem rm_34 {j : Nat} (hj : j < m) (hm : m ≤ 10) (h9 : vi 9 1 = nI m) (hpr : ∀ i, ∃ j, j < 10 ∧ pr i = 11 + 5 * j) : ∀ (r i f : Nat) (p : Nat → Nat), i + r + 1 = m → r < f → j ≤ i → (∀ q, p q = if q < j then pr q else if q < i then pr (q + 1) else pr q) → m_X3_remove_34 f (wd_h vi ar p hh) 9 (pr j) (nI i) = some (wd_h (up2 vi 9 1 (nI (m - 1))) ar (fun q => pr (sg_ j m q)) hh) := by
  intro r
  have k1 : ∀ i, wd_k (pr i) = 1 := fun i => by
    obtain ⟨q, hq, e⟩ := hpr i
    rw [e]
    exact (Pa_j hq).1
  induction r with
  | zero =>
    intro i f p hi hf hji hp
    obtain ⟨f, rfl⟩ : ∃ g, f = g + 1 := ⟨f - 1, by omega⟩
    show b_X3_remove_34 _ _ _ _ _ = _
    unfold b_X3_remove_34
    rw [gi_3_1 w9_, h9, Option.bind_some, nI_1, if_pos (nI_le (by omega) (by omega)), Option.bind_some, pi_3_1 w9_, Option.bind_some, gr_3_0 w9_, Option.bind_some, gi_3_1 w9_, up2_s, Option.bind_some, show nI m - 1 = nI (m - 1) by rw [← pk_sub (by omega)]; rfl, show (9 + 1 : Nat) = 10 from rfl, wd_sr (by omega) (k1 j), Option.bind_some]
    congr 2
    funext q
    unfold va_up sg_
    by_cases e : q = m - 1
    · rw [if_pos e, if_neg (by omega), if_neg (by omega), if_pos (by omega)]
    · rw [if_neg e, hp q]
      by_cases e1 : q < j
      · rw [if_pos e1, if_pos e1]
      · rw [if_neg e1, if_neg e1]
        by_cases e2 : q < i
        · rw [if_pos e2, if_pos (by omega)]
        · rw [if_neg e2, if_neg (by omega), if_neg (by omega)]
  | succ r ih =>
    intro i f p hi hf hji hp
    obtain ⟨f, rfl⟩ : ∃ g, f = g + 1 := ⟨f - 1, by omega⟩
    have ep : p (i + 1) = pr (i + 1) := by rw [hp (i + 1), if_neg (by omega), if_neg (by omega)]
    have hb : m_X3_remove_34 (f + 1) (wd_h vi ar p hh) 9 (pr j) (nI i) = m_X3_remove_34 f (wd_h vi ar (va_up p i (pr (i + 1))) hh) 9 (pr j) (nI (i + 1)) := by
      show b_X3_remove_34 _ _ _ _ _ = _
      unfold b_X3_remove_34
      rw [gi_3_1 w9_, h9, Option.bind_some, nI_1, if_neg (nI_ge (by omega) (by omega)), gr_3_0 w9_, Option.bind_some, Option.bind_some, show (9 + 1 : Nat) = 10 from rfl, wd_ar (by omega), Option.bind_some, ep, wd_sr (by omega) (k1 _), Option.bind_some]
    rw [hb]
    refine ih (i + 1) f _ (by omega) (by omega) (by omega) (fun q => ?_)
    unfold va_up
    by_cases e : q = i
    · rw [if_pos e, if_neg (by omega), if_pos (by omega), e]
    · rw [if_neg e, hp q]
      by_cases e1 : q < j
      · rw [if_pos e1, if_pos e1]
      · rw [if_neg e1, if_neg e1]
        by_cases e2 : q < i
        · rw [if_pos e2, if_pos (by omega)]
        · rw [if_neg e2, if_neg (by omega)]
theorem cy_98 {i : Nat} (hi : i + 1 < 10) : ∀ (r k f : Nat) (a1 : Nat → Nat → Int32), k + r = 4 → r < f → ∃ a', m_X7_copy_98 f (wd_h v a1 pr hh) 72 (nI (i + 1)) (nI i) (nI k) = some (wd_h v a' pr hh) ∧ (∀ c, c ≠ 80 → a' c = a1 c) ∧ (∀ q, a' 80 q = if 4 * i + k ≤ q ∧ q < 4 * i + 4 then a1 80 (q + 4) else a1 80 q) := by
  intro r
  induction r with
  | zero =>
    intro k f a1 hk hf
    obtain ⟨f, rfl⟩ : ∃ g, f = g + 1 := ⟨f - 1, by omega⟩
    refine ⟨a1, ?_, fun _ _ => rfl, fun q => by rw [if_neg (by omega)]⟩
    show b_X7_copy_98 _ _ _ _ _ _ = _
    unfold b_X7_copy_98
    rw [if_pos (show 4 ≤ nI k from nI_le (a := 4) (by omega) (by omega))]
  | succ r ih =>
    intro k f a1 hk hf
    obtain ⟨f, rfl⟩ : ∃ g, f = g + 1 := ⟨f - 1, by omega⟩
    have hb : m_X7_copy_98 (f + 1) (wd_h v a1 pr hh) 72 (nI (i + 1)) (nI i) (nI k) = m_X7_copy_98 f (wd_h v (up2 a1 80 (4 * i + k) (a1 80 (4 * (i + 1) + k))) pr hh) 72 (nI (i + 1)) (nI i) (nI (k + 1)) := by
      show b_X7_copy_98 _ _ _ _ _ _ = _
      unfold b_X7_copy_98
      rw [if_neg (show ¬ 4 ≤ nI k from nI_ge (b := 4) (by omega) (by omega)), gr_7_9 w72, Option.bind_some, Option.bind_some, ix_4, wd_ai (by decide) (by decide) (show 4 * (i + 1) + k < 40 by omega), Option.bind_some, ix_4, wd_si (by decide) (by decide) (show 4 * i + k < 40 by omega), Option.bind_some, nI_1]
    obtain ⟨a', e1, e2, e3⟩ := ih (k + 1) f (up2 a1 80 (4 * i + k) (a1 80 (4 * (i + 1) + k))) (by omega) (by omega)
    refine ⟨a', by rw [hb, e1], fun c hc => by rw [e2 c hc, up2_k hc], fun q => ?_⟩
    rw [e3 q]
    by_cases e : 4 * i + (k + 1) ≤ q ∧ q < 4 * i + 4
    · rw [if_pos e, if_pos (by omega), up2_n (by omega)]
    · rw [if_neg e]
      by_cases e4 : q = 4 * i + k
      · rw [if_pos (by omega), e4, up2_s, show 4 * (i + 1) + k = 4 * i + k + 4 by omega]
      · rw [if_neg (by omega), up2_n (by omega)]
theorem cy_62 {i : Nat} (hi : i + 1 < 10) : ∀ (r k f : Nat) (a1 : Nat → Nat → Int32), k + r = 8 → r < f → ∃ a', m_X7_copy_62 f (wd_h v a1 pr hh) 72 (nI (i + 1)) (nI i) (nI k) = m_X7_copy_98 64 (wd_h v a' pr hh) 72 (nI (i + 1)) (nI i) 0 ∧ (∀ c, c ≠ 76 → a' c = a1 c) ∧ (∀ q, a' 76 q = if 8 * i + k ≤ q ∧ q < 8 * i + 8 then a1 76 (q + 8) else a1 76 q) := by
  intro r
  induction r with
  | zero =>
    intro k f a1 hk hf
    obtain ⟨f, rfl⟩ : ∃ g, f = g + 1 := ⟨f - 1, by omega⟩
    refine ⟨a1, ?_, fun _ _ => rfl, fun q => by rw [if_neg (by omega)]⟩
    show b_X7_copy_62 _ _ _ _ _ _ = _
    unfold b_X7_copy_62
    rw [if_pos (show 8 ≤ nI k from nI_le (a := 8) (by omega) (by omega))]
  | succ r ih =>
    intro k f a1 hk hf
    obtain ⟨f, rfl⟩ : ∃ g, f = g + 1 := ⟨f - 1, by omega⟩
    have hb : m_X7_copy_62 (f + 1) (wd_h v a1 pr hh) 72 (nI (i + 1)) (nI i) (nI k) = m_X7_copy_62 f (wd_h v (up2 a1 76 (8 * i + k) (a1 76 (8 * (i + 1) + k))) pr hh) 72 (nI (i + 1)) (nI i) (nI (k + 1)) := by
      show b_X7_copy_62 _ _ _ _ _ _ = _
      unfold b_X7_copy_62
      rw [if_neg (show ¬ 8 ≤ nI k from nI_ge (b := 8) (by omega) (by omega)), gr_7_5 w72, Option.bind_some, Option.bind_some, ix_8, wd_ai (by decide) (by decide) (show 8 * (i + 1) + k < 80 by omega), Option.bind_some, ix_8, wd_si (by decide) (by decide) (show 8 * i + k < 80 by omega), Option.bind_some, nI_1]
    obtain ⟨a', e1, e2, e3⟩ := ih (k + 1) f (up2 a1 76 (8 * i + k) (a1 76 (8 * (i + 1) + k))) (by omega) (by omega)
    refine ⟨a', by rw [hb, e1], fun c hc => by rw [e2 c hc, up2_k hc], fun q => ?_⟩
    rw [e3 q]
    by_cases e : 8 * i + (k + 1) ≤ q ∧ q < 8 * i + 8
    · rw [if_pos e, if_pos (by omega), up2_n (by omega)]
    · rw [if_neg e]
      by_cases e4 : q = 8 * i + k
      · rw [if_pos (by omega), e4, up2_s, show 8 * (i + 1) + k = 8 * i + k + 8 by omega]
      · rw [if_neg (by omega), up2_n (by omega)]
theorem cy_ {i : Nat} (hi : i + 1 < 10) (h75 : a 75 (i + 1) = 0 ∨ a 75 (i + 1) = 1) : ∃ a', m_X7_copy (wd_h v a pr hh) 72 (nI (i + 1)) (nI i) = some (wd_h v a' pr hh) ∧ (∀ c, c < 74 ∨ 80 < c → a' c = a c) ∧ (∀ c q, c = 74 ∨ c = 75 ∨ c = 77 ∨ c = 78 ∨ c = 79 → a' c q = if q = i then a c (q + 1) else a c q) ∧ (∀ q, a' 76 q = if 8 * i ≤ q ∧ q < 8 * i + 8 then a 76 (q + 8) else a 76 q) ∧ (∀ q, a' 80 q = if 4 * i ≤ q ∧ q < 4 * i + 4 then a 80 (q + 4) else a 80 q) := by
  have b1 : i < 10 := by omega
  rw [m_X7_copy, wd_ck w72 (by decide), gr_7_3 w72, Option.bind_some, Option.bind_some, rd_74 hi, Option.bind_some, wd_si (by decide) (by decide) (show i < 10 from b1), Option.bind_some, gr_7_4 w72, Option.bind_some, Option.bind_some, wd_az hi, Option.bind_some, up2_n (a := 75) (by omega), dp_b, if_pos h75, wd_sz b1, Option.bind_some, gr_7_6 w72, Option.bind_some, Option.bind_some, rd_77 hi, Option.bind_some, up2_n (a := 77) (by omega), up2_n (a := 77) (by omega), wd_si (by decide) (by decide) (show i < 10 from b1), Option.bind_some, gr_7_7 w72, Option.bind_some, Option.bind_some, rd_78 hi, Option.bind_some, up2_n (a := 78) (by omega), up2_n (a := 78) (by omega), up2_n (a := 78) (by omega), wd_si (by decide) (by decide) (show i < 10 from b1), Option.bind_some, gr_7_8 w72, Option.bind_some, Option.bind_some, rd_79 hi, Option.bind_some, up2_n (a := 79) (by omega), up2_n (a := 79) (by omega), up2_n (a := 79) (by omega), up2_n (a := 79) (by omega), wd_si (by decide) (by decide) (show i < 10 from b1), Option.bind_some]
  obtain ⟨a1, e1, e2, e3⟩ := cy_62 (v := v) (pr := pr) (hh := hh) hi 8 0 64 (up2 (up2 (up2 (up2 (up2 a 74 i (a 74 (i + 1))) 75 i (a 75 (i + 1))) 77 i (a 77 (i + 1))) 78 i (a 78 (i + 1))) 79 i (a 79 (i + 1))) (by omega) (by omega)
  obtain ⟨a2, f1, f2, f3⟩ := cy_98 (v := v) (pr := pr) (hh := hh) hi 4 0 64 a1 (by omega) (by omega)
  have pt : ∀ {c q : Nat} {b : Nat → Nat → Int32}, (up2 b c i (a c (i + 1))) c q = if q = i then a c (q + 1) else b c q := fun {c q b} => by
    by_cases e : q = i
    · rw [if_pos e, e, up2_s]
    · rw [if_neg e, up2_n (by omega)]
  refine ⟨a2, e1.trans f1, fun c hc => ?_, fun c q hc => ?_, fun q => ?_, fun q => ?_⟩
  · rw [f2 c (by omega), e2 c (by omega), up2_k (by omega), up2_k (by omega), up2_k (by omega), up2_k (by omega), up2_k (by omega)]
  · rw [f2 c (by omega), e2 c (by omega)]
    rcases hc with rfl | rfl | rfl | rfl | rfl
    · rw [up2_n (by omega), up2_n (by omega), up2_n (by omega), up2_n (by omega), pt]
    · rw [up2_n (by omega), up2_n (by omega), up2_n (by omega), pt, up2_n (by omega)]
    · rw [up2_n (by omega), up2_n (by omega), pt, up2_n (by omega), up2_n (by omega)]
    · rw [up2_n (by omega), pt, up2_n (by omega), up2_n (by omega), up2_n (by omega)]
    · rw [pt, up2_n (by omega), up2_n (by omega), up2_n (by omega), up2_n (by omega)]
  · rw [f2 76 (by decide), e3 q]
    rw [up2_n (by omega), up2_n (by omega), up2_n (by omega), up2_n (by omega), up2_n (by omega), up2_n (by omega), up2_n (by omega), up2_n (by omega), up2_n (by omega), up2_n (by omega)]
    rfl
  · rw [f3 q, e2 80 (by decide)]
    rw [up2_n (by omega), up2_n (by omega), up2_n (by omega), up2_n (by omega), up2_n (by omega), up2_n (by omega), up2_n (by omega), up2_n (by omega), up2_n (by omega), up2_n (by omega)]
    rfl
theorem dp_35 {j : Nat} (hj : j < m) (hm : m ≤ 10) (h2 : v 72 2 = nI (m - 1)) (h75 : ∀ q, q < m → a 75 q = 0 ∨ a 75 q = 1) : ∀ (r i f : Nat) (a1 : Nat → Nat → Int32), i + r + 1 = m → r < f → j ≤ i → (∀ c, c < 74 ∨ 80 < c → a1 c = a c) → (∀ c q, c = 74 ∨ c = 75 ∨ c = 77 ∨ c = 78 ∨ c = 79 → a1 c q = if j ≤ q ∧ q < i then a c (q + 1) else a c q) → (∀ q, a1 76 q = if 8 * j ≤ q ∧ q < 8 * i then a 76 (q + 8) else a 76 q) → (∀ q, a1 80 q = if 4 * j ≤ q ∧ q < 4 * i then a 80 (q + 4) else a 80 q) → ∃ a', m_X7_drop_35 f (wd_h v a1 pr hh) 72 (nI i) = some (wd_h v a' pr hh, nI (m - 1)) ∧ (∀ c, c < 74 ∨ 80 < c → a' c = a c) ∧ (∀ c q, c = 74 ∨ c = 75 ∨ c = 77 ∨ c = 78 ∨ c = 79 → a' c q = if j ≤ q ∧ q < m - 1 then a c (q + 1) else a c q) ∧ (∀ q, a' 76 q = if 8 * j ≤ q ∧ q < 8 * (m - 1) then a 76 (q + 8) else a 76 q) ∧ (∀ q, a' 80 q = if 4 * j ≤ q ∧ q < 4 * (m - 1) then a 80 (q + 4) else a 80 q) := by
  intro r
  induction r with
  | zero =>
    intro i f a1 hi hf hji g1 g2 g3 g4
    obtain ⟨f, rfl⟩ : ∃ g, f = g + 1 := ⟨f - 1, by omega⟩
    have ei : m - 1 = i := by omega
    rw [ei] at h2 ⊢
    refine ⟨a1, ?_, g1, g2, g3, g4⟩
    show b_X7_drop_35 _ _ _ _ = _
    unfold b_X7_drop_35
    rw [gi_7_2 w72, h2, Option.bind_some, if_pos (nI_le (by omega) (by omega)), Option.bind_some]
  | succ r ih =>
    intro i f a1 hi hf hji g1 g2 g3 g4
    obtain ⟨f, rfl⟩ : ∃ g, f = g + 1 := ⟨f - 1, by omega⟩
    obtain ⟨a2, e1, e2, e3, e4, e5⟩ := cy_ (v := v) (a := a1) (pr := pr) (hh := hh) (i := i) (by omega) (by rw [g2 75 (i + 1) (by omega), if_neg (by omega)]; exact h75 (i + 1) (by omega))
    have hb : m_X7_drop_35 (f + 1) (wd_h v a1 pr hh) 72 (nI i) = m_X7_drop_35 f (wd_h v a2 pr hh) 72 (nI (i + 1)) := by
      show b_X7_drop_35 _ _ _ _ = _
      unfold b_X7_drop_35
      rw [gi_7_2 w72, h2, Option.bind_some, if_neg (nI_ge (by omega) (by omega)), nI_1, e1, Option.bind_some]
    rw [hb]
    refine ih (i + 1) f a2 (by omega) (by omega) (by omega) (fun c hc => by rw [e2 c hc, g1 c hc]) (fun c q hc => ?_) (fun q => ?_) (fun q => ?_)
    · rw [e3 c q hc]
      by_cases e : q = i
      · rw [if_pos e, if_pos (by omega), g2 c (q + 1) hc, if_neg (by omega)]
      · rw [if_neg e, g2 c q hc]
        by_cases e6 : j ≤ q ∧ q < i
        · rw [if_pos e6, if_pos (by omega)]
        · rw [if_neg e6, if_neg (by omega)]
    · rw [e4 q]
      by_cases e : 8 * i ≤ q ∧ q < 8 * i + 8
      · rw [if_pos e, if_pos (by omega), g3 (q + 8), if_neg (by omega)]
      · rw [if_neg e, g3 q]
        by_cases e6 : 8 * j ≤ q ∧ q < 8 * i
        · rw [if_pos e6, if_pos (by omega)]
        · rw [if_neg e6, if_neg (by omega)]
    · rw [e5 q]
      by_cases e : 4 * i ≤ q ∧ q < 4 * i + 4
      · rw [if_pos e, if_pos (by omega), g4 (q + 4), if_neg (by omega)]
      · rw [if_neg e, g4 q]
        by_cases e6 : 4 * j ≤ q ∧ q < 4 * i
        · rw [if_pos e6, if_pos (by omega)]
        · rw [if_neg e6, if_neg (by omega)]
end DR
theorem ok_drop (x : Int32) : OK_ (fun h => m_X6_drop h 0 x) (fun h => m_X7_drop h 72 x) := by
  intro vi ar pr hh hI
  show ∃ vi1 ar1 pr1 vi2 ar2 r, m_X6_drop (wd_h vi ar pr hh) 0 x = _ ∧ m_X7_drop (wd_h vi1 ar1 pr1 hh) 72 x = _ ∧ _
  obtain ⟨n, m, pl, dr, an, s, nd, hP, hL, hN, hS, hC⟩ := id hI
  have hm := hL.1
  have n1 := hN.1
  rw [m_X6_drop, wd_ck w0_ (by decide), gr_6_2 w0_, Option.bind_some]
  rcases at_ (hh := hh) hL x with ⟨z1, z2⟩ | ⟨j, hj, rfl, z1, z2⟩
  · rw [z1, Option.bind_some, om_n]
    exact ⟨vi, ar, pr, vi, ar, _, rfl, by rw [m_X7_drop, wd_ck w72 (by decide), z2, Option.bind_some, if_pos rfl], hI⟩
  · rw [z1, Option.bind_some, om_s, gr_6_5 w0_, Option.bind_some, up_ hN.2.1 hN.1, Option.bind_some]
    by_cases hs : s = 0
    · have er : m_X3_remove (wd_h vi ar pr hh) 9 (nI j) = some (wd_h (up2 vi 9 1 (nI (m - 1))) ar (fun q => pr (sg_ j m q)) hh) := by
        rw [m_X3_remove, wd_ck w9_ (by decide), if_neg (nI_pos (by omega)), gi_3_1 w9_, hL.2.1, Option.bind_some, if_neg (nI_ge hj (by omega)), Option.bind_some, gr_3_0 w9_, Option.bind_some, show (9 + 1 : Nat) = 10 from rfl, wd_ln10, Option.bind_some, if_pos (show nI m ≤ 10 from nI_le (b := 10) hm (by omega)), Option.bind_some, wd_ar (by omega), Option.bind_some]
        exact rm_34 hj hm hL.2.1 hL.2.2.2.1 (m - 1 - j) j 64 pr (by omega) (by omega) (by omega) (fun q => by
          by_cases e : q < j
          · rw [if_pos e]
          · rw [if_neg e, if_neg e])
      rw [if_pos hs, if_pos rfl, Option.bind_some, er, Option.bind_some, gr_6_2 w0_, Option.bind_some, m_X3_size, wd_ck w9_ (by decide), gi_3_1 w9_, up2_s, Option.bind_some, Option.bind_some]
      have h75 : ∀ q, q < m → ar 75 q = 0 ∨ ar 75 q = 1 := fun q hq => by
        rw [(hL.2.2.2.2.2 q hq).2.2.1]
        exact (hL.2.2.2.2.2 q hq).1.2.2.2.1
      obtain ⟨a', e1, e2, e3, e4, e5⟩ := dp_35 (v := up2 (up2 vi 9 1 (nI (m - 1))) 72 2 (nI (m - 1))) (a := ar) (pr := fun q => pr (sg_ j m q)) (hh := hh) hj hm up2_s h75 (m - 1 - j) j 64 ar (by omega) (by omega) (by omega) (fun _ _ => rfl) (fun c q hc => by rw [if_neg (by omega)]) (fun q => by rw [if_neg (by omega)]) (fun q => by rw [if_neg (by omega)])
      refine ⟨_, ar, _, up2 (up2 vi 9 1 (nI (m - 1))) 72 2 (nI (m - 1)), a', _, rfl, ?_, ?_⟩
      · have ip : m_X7_isPattern (wd_h (up2 vi 9 1 (nI (m - 1))) ar (fun q => pr (sg_ j m q)) hh) 72 (nI j) = some 1 := by
          have e9 : nI m - 1 = nI (m - 1) := by rw [← pk_sub (by omega)]; rfl
          rw [m_X7_isPattern, wd_ck w72 (by decide), gi_7_2 w72, up2_n (by omega), hL.2.2.1, Option.bind_some, wi_, if_neg (nI_pos (by omega)), e9, if_neg (nI_nlt (by omega) (by omega)), Option.bind_some, dp_b, if_pos (Or.inr rfl)]
        rw [m_X7_drop, wd_ck w72 (by decide), ip, Option.bind_some, if_neg (show ¬ (1 : Int32) = 0 by decide), gi_7_27 w72, up2_n (by omega), hN.2.2.1, hs, Option.bind_some, if_pos (show nI 0 = 0 from rfl), gi_7_2 w72, up2_n (by omega), hL.2.2.1, Option.bind_some, pi_7_2 w72, Option.bind_some, show nI m - 1 = nI (m - 1) by rw [← pk_sub (by omega)]; rfl, e1]
      · refine ⟨n, m - 1, fun q => pl (sg_ j m q), fun q => dr (sg_ j m q), fun q => an (sg_ j m q), s, nd, hP.fr (fun a b q => by rw [up2_n (by omega), up2_n (by omega)]) (fun a b q => by rw [e2 a (by omega)]), ⟨by omega, by rw [up2_n (by omega), up2_s], up2_s, fun i => hL.2.2.2.1 _, fun i k hi hk e => sg_in hj (hL.2.2.2.2.1 _ _ (sg_lt hj hm hi) (sg_lt hj hm hk) e), fun i hi => ?_⟩, hN.fr (fun a b q => by rw [up2_n (by omega), up2_n (by omega)]) (fun a b q => by rw [e2 a (by omega)]), hS.fr (fun a b q => by rw [e2 a (by omega)]), hC.fr (fun a b q => by rw [up2_n (by omega), up2_n (by omega)])⟩
        have es : sg_ j m i = if i < j then i else i + 1 := by
          unfold sg_
          by_cases e : i < j
          · rw [if_pos e, if_pos e]
          · rw [if_neg e, if_neg e, if_pos (by omega)]
        have esm : sg_ j m i < m := by
          rw [es]
          split <;> omega
        obtain ⟨hw, hq⟩ := hL.2.2.2.2.2 _ esm
        obtain ⟨ji, hji, eji⟩ := hL.2.2.2.1 (sg_ j m i)
        have f0 : (up2 (up2 vi 9 1 (nI (m - 1))) 72 2 (nI (m - 1))) (pr (sg_ j m i)) = vi (pr (sg_ j m i)) := funext fun b => by rw [up2_n (by omega), up2_n (by omega)]
        have f3 : (up2 (up2 vi 9 1 (nI (m - 1))) 72 2 (nI (m - 1))) (pr (sg_ j m i) + 3) = vi (pr (sg_ j m i) + 3) := funext fun b => by rw [up2_n (by omega), up2_n (by omega)]
        have t : ∀ c, c = 74 ∨ c = 75 ∨ c = 77 ∨ c = 78 ∨ c = 79 → a' c i = ar c (sg_ j m i) := fun c hc => by
          rw [e3 c i hc, es]
          by_cases e : i < j
          · rw [if_pos e, if_neg (by omega)]
          · rw [if_neg e, if_pos (by omega)]
        refine ⟨?_, ?_⟩
        · unfold pw_
          rw [f0, f3, e2 (pr (sg_ j m i) + 1) (by omega), e2 (pr (sg_ j m i) + 2) (by omega), e2 (pr (sg_ j m i) + 4) (by omega)]
          exact hw
        · unfold pm_
          rw [f0, e2 (pr (sg_ j m i) + 1) (by omega), e2 (pr (sg_ j m i) + 4) (by omega), t 74 (by omega), t 75 (by omega), t 77 (by omega), t 78 (by omega), t 79 (by omega)]
          have h8 := hw.2.2.1
          have h4 := hw.2.2.2.2.2.2.2.2.1
          refine ⟨hq.1, hq.2.1, hq.2.2.1, hq.2.2.2.1, hq.2.2.2.2.1, fun k hk => ?_, fun k hk => ?_⟩
          · have hk : k < pl (sg_ j m i) := hk
            rw [← hq.2.2.2.2.2.1 k hk, e4, es]
            by_cases e : i < j
            · rw [if_pos e, if_neg (by omega)]
            · rw [if_neg e, if_pos (by omega), show 8 * i + k + 8 = 8 * (i + 1) + k by omega]
          · have hk : k < an (sg_ j m i) := hk
            rw [← hq.2.2.2.2.2.2 k hk, e5, es]
            by_cases e : i < j
            · rw [if_pos e, if_neg (by omega)]
            · rw [if_neg e, if_pos (by omega), show 4 * i + k + 4 = 4 * (i + 1) + k by omega]
    · rw [if_neg hs, if_neg (show ¬ (1 : Int32) = 0 by decide)]
      exact ⟨vi, ar, pr, vi, ar, _, rfl, by rw [m_X7_drop, wd_ck w72 (by decide), z2, Option.bind_some, if_neg (show ¬ (1 : Int32) = 0 by decide), gi_7_27 w72, hN.2.2.1, Option.bind_some, if_neg (nI_ne0 (by omega) (by omega))], hI⟩
