/-! digest -/
def fo_ (g : Nat → Int32) : Nat → Nat → Int64 → Int64
  | 0, _, h => h
  | r + 1, k, h => fo_ g r (k + 1) (31 * h + (g k).toInt64)
def lf_ : List Int32 → Int64 → Int64
  | [], h => h
  | x :: l, h => lf_ l (31 * h + x.toInt64)
theorem lf_app : ∀ (l k : List Int32) (h : Int64), lf_ (l ++ k) h = lf_ k (lf_ l h)
  | [], _, _ => rfl
  | x :: l, k, h => lf_app l k (31 * h + x.toInt64)
theorem fo_congr {g g' : Nat → Int32} : ∀ (r k : Nat) (h : Int64), (∀ q, k ≤ q → q < k + r → g q = g' q) → fo_ g r k h = fo_ g' r k h
  | 0, _, _, _ => rfl
  | r + 1, k, h, e => by
    unfold fo_
    rw [e k (by omega) (by omega)]
    exact fo_congr r (k + 1) _ (fun q h1 h2 => e q (by omega) (by omega))
def pv_ (vi ar : Nat → Nat → Int32) (pr : Nat → Nat) (pl dr an : Nat → Nat) (j y : Nat) : Int32 := if y = 0 then nI (pl j) else if y = 1 then vi (pr j) 4 else if y = 2 then vi (pr j) 5 else if y = 3 then nI (dr j) else if y = 4 then nI (an j) else an_ (ar (pr j + 4)) (an j) 0 0
def pf_ (vi ar : Nat → Nat → Int32) (pr : Nat → Nat) (pl dr an : Nat → Nat) : Nat → Nat → Int64 → Int64
  | 0, _, h => h
  | r + 1, j, h => pf_ vi ar pr pl dr an r (j + 1) (fo_ (ar (pr j + 1)) 10 0 (fo_ (pv_ vi ar pr pl dr an j) 6 0 h))
section DG
variable {vi ar v a : Nat → Nat → Int32} {pr : Nat → Nat} {hh : Int64} {m : Nat} {pl dr an : Nat → Nat}
theorem pv_fr (hL : PL_ vi ar pr m pl dr an) (F : PF_ vi ar v a) : pv_ v a pr pl dr an = pv_ vi ar pr pl dr an := by
  funext j y
  obtain ⟨l1, l2⟩ := hL.lo' j
  unfold pv_
  rw [F.v _ (by omega) (by omega), F.a (pr j + 4) (by omega) (by omega)]
theorem pf_fr (hL : PL_ vi ar pr m pl dr an) (F : PF_ vi ar v a) : ∀ r j h, pf_ v a pr pl dr an r j h = pf_ vi ar pr pl dr an r j h
  | 0, _, _ => rfl
  | r + 1, j, h => by
    obtain ⟨l1, l2⟩ := hL.lo' j
    unfold pf_
    rw [pf_fr hL F r, pv_fr hL F, F.a (pr j + 1) (by omega) (by omega)]
theorem pv_cm (hL : PL_ vi ar pr m pl dr an) {j y : Nat} (hj : j < m) (hy : y ≤ 5) : m_X6_pattern (wd_h vi ar pr hh) 0 (nI j) (nI y) = some (pv_ vi ar pr pl dr an j y) ∧ m_X7_patternNow (wd_h vi ar pr hh) 72 (nI j) (nI y) = some (pv_ vi ar pr pl dr an j y) := by
  have hm := hL.1
  obtain ⟨r, e1, -, e3⟩ := pt_all (hh := hh) hL hj (nI y)
  have e4 := e3 (nI_pos (by omega)) (nI_le (b := 5) hy (by omega))
  have hq := (hL.2.2.2.2.2 j hj).2
  have hw := (hL.2.2.2.2.2 j hj).1
  have key : m_X7_patternNow (wd_h vi ar pr hh) 72 (nI j) (nI y) = some (pv_ vi ar pr pl dr an j y) := by
    have j10 : j < 10 := by omega
    have c6 : y = 0 ∨ y = 1 ∨ y = 2 ∨ y = 3 ∨ y = 4 ∨ y = 5 := by omega
    rw [m_X7_patternNow, wd_ck w72 (by decide)]
    rcases c6 with rfl | rfl | rfl | rfl | rfl | rfl
    · rw [if_pos (show nI 0 = 0 from rfl), gr_7_3 w72, Option.bind_some, rd_74 j10, hq.1]; rfl
    · rw [if_neg (show ¬ nI 1 = 0 by decide), if_pos (show nI 1 = 1 from rfl), gr_7_4 w72, Option.bind_some, wd_az j10, Option.bind_some, hq.2.1]
      show _ = some (vi (pr j) 4)
      rcases hw.2.2.2.1 with z | z <;> rw [z] <;> rfl
    · rw [if_neg (show ¬ nI 2 = 0 by decide), if_neg (show ¬ nI 2 = 1 by decide), if_pos (show nI 2 = 2 from rfl), gr_7_6 w72, Option.bind_some, rd_77 j10, hq.2.2.1]; rfl
    · rw [if_neg (show ¬ nI 3 = 0 by decide), if_neg (show ¬ nI 3 = 1 by decide), if_neg (show ¬ nI 3 = 2 by decide), if_pos (show nI 3 = 3 from rfl), gr_7_7 w72, Option.bind_some, rd_78 j10, hq.2.2.2.1]; rfl
    · rw [if_neg (show ¬ nI 4 = 0 by decide), if_neg (show ¬ nI 4 = 1 by decide), if_neg (show ¬ nI 4 = 2 by decide), if_neg (show ¬ nI 4 = 3 by decide), if_pos (show nI 4 = 4 from rfl), gr_7_8 w72, Option.bind_some, rd_79 j10, hq.2.2.2.2.1]; rfl
    · rw [if_neg (show ¬ nI 5 = 0 by decide), if_neg (show ¬ nI 5 = 1 by decide), if_neg (show ¬ nI 5 = 2 by decide), if_neg (show ¬ nI 5 = 3 by decide), if_neg (show ¬ nI 5 = 4 by decide), ml_num hL hj]; rfl
  rw [key] at e4
  exact ⟨by rw [e1, ← e4], key⟩
/- the class -/
theorem dc_52 (hL : PL_ vi ar pr m pl dr an) {j : Nat} (hj : j < m) {k5 : Nat → Int64 → Int32 → Option Int64} : ∀ (r k f : Nat) (x : Int64), k + r = 10 → r < f → m_X6_digestOfPatterns_52 (wd_h vi ar pr hh) k5 f 0 x (nI j) (nI k) = k5 0 (fo_ (ar (pr j + 1)) r k x) (nI (j + 1)) := by
  intro r
  induction r with
  | zero =>
    intro k f x hk hf
    obtain ⟨f, rfl⟩ : ∃ g, f = g + 1 := ⟨f - 1, by omega⟩
    show b_X6_digestOfPatterns_52 _ _ _ _ _ _ _ = _
    unfold b_X6_digestOfPatterns_52
    rw [if_pos (show 10 ≤ nI k from nI_le (a := 10) (by omega) (by omega)), nI_1]
    rfl
  | succ r ih =>
    intro k f x hk hf
    obtain ⟨f, rfl⟩ : ∃ g, f = g + 1 := ⟨f - 1, by omega⟩
    show b_X6_digestOfPatterns_52 _ _ _ _ _ _ _ = _
    unfold b_X6_digestOfPatterns_52
    rw [if_neg (show ¬ 10 ≤ nI k from nI_ge (b := 10) (by omega) (by omega)), lt_all hL hj (by omega), Option.bind_some, nI_1]
    exact ih (k + 1) f _ (by omega) (by omega)
theorem dc_20 (hL : PL_ vi ar pr m pl dr an) {j : Nat} (hj : j < m) {k5 : Nat → Int64 → Int32 → Option Int64} : ∀ (r k f : Nat) (x : Int64), k + r = 6 → r < f → m_X6_digestOfPatterns_20 (wd_h vi ar pr hh) k5 f 0 x (nI j) (nI k) = k5 0 (fo_ (ar (pr j + 1)) 10 0 (fo_ (pv_ vi ar pr pl dr an j) r k x)) (nI (j + 1)) := by
  intro r
  induction r with
  | zero =>
    intro k f x hk hf
    obtain ⟨f, rfl⟩ : ∃ g, f = g + 1 := ⟨f - 1, by omega⟩
    show b_X6_digestOfPatterns_20 _ _ _ _ _ _ _ = _
    unfold b_X6_digestOfPatterns_20
    rw [if_pos (show 6 ≤ nI k from nI_le (a := 6) (by omega) (by omega))]
    exact dc_52 hL hj 10 0 64 x (by omega) (by omega)
  | succ r ih =>
    intro k f x hk hf
    obtain ⟨f, rfl⟩ : ∃ g, f = g + 1 := ⟨f - 1, by omega⟩
    show b_X6_digestOfPatterns_20 _ _ _ _ _ _ _ = _
    unfold b_X6_digestOfPatterns_20
    rw [if_neg (show ¬ 6 ≤ nI k from nI_ge (b := 6) (by omega) (by omega)), (pv_cm hL hj (by omega)).1, Option.bind_some, nI_1]
    exact ih (k + 1) f _ (by omega) (by omega)
theorem dc_5 (hL : PL_ vi ar pr m pl dr an) : ∀ (r j f : Nat) (x : Int64), j + r = m → r < f → m_X6_digestOfPatterns_5 (wd_h vi ar pr hh) f 0 x (nI j) = some (pf_ vi ar pr pl dr an r j x) := by
  have hm := hL.1
  intro r
  induction r with
  | zero =>
    intro j f x hj hf
    obtain ⟨f, rfl⟩ : ∃ g, f = g + 1 := ⟨f - 1, by omega⟩
    show b_X6_digestOfPatterns_5 _ _ _ _ _ = _
    unfold b_X6_digestOfPatterns_5
    rw [gr_6_2 w0_, Option.bind_some, pn_size hL, Option.bind_some, if_pos (nI_le (by omega) (by omega))]
    rfl
  | succ r ih =>
    intro j f x hj hf
    obtain ⟨f, rfl⟩ : ∃ g, f = g + 1 := ⟨f - 1, by omega⟩
    show b_X6_digestOfPatterns_5 _ _ _ _ _ = _
    unfold b_X6_digestOfPatterns_5
    rw [gr_6_2 w0_, Option.bind_some, pn_size hL, Option.bind_some, if_neg (nI_ge (by omega) (by omega)), show (0 : Int32) = nI 0 from rfl, dc_20 hL (by omega) 6 0 64 x (by omega) (by omega)]
    exact ih (j + 1) f _ (by omega) (by omega)
theorem dk_23 (hL : PL_ vi ar pr m pl dr an) {i : Nat} (hi : i < m) {k5 : Nat → Int64 → Int32 → Option Int64} : ∀ (r j f : Nat) (x : Int64), j + r = m → r < f → m_X6_digestOfClashes_23 (wd_h vi ar pr hh) k5 f 0 x (nI i) (nI j) = k5 0 (lf_ (ci_ (cc_ vi ar pr pl an) i r j) x) (nI (i + 1)) := by
  have hm := hL.1
  intro r
  induction r with
  | zero =>
    intro j f x hj hf
    obtain ⟨f, rfl⟩ : ∃ g, f = g + 1 := ⟨f - 1, by omega⟩
    show b_X6_digestOfClashes_23 _ _ _ _ _ _ _ = _
    unfold b_X6_digestOfClashes_23
    rw [gr_6_2 w0_, Option.bind_some, pn_size hL, Option.bind_some, if_pos (nI_le (by omega) (by omega)), nI_1]
    rfl
  | succ r ih =>
    intro j f x hj hf
    obtain ⟨f, rfl⟩ : ∃ g, f = g + 1 := ⟨f - 1, by omega⟩
    show b_X6_digestOfClashes_23 _ _ _ _ _ _ _ = _
    unfold b_X6_digestOfClashes_23
    rw [gr_6_2 w0_, Option.bind_some, pn_size hL, Option.bind_some, if_neg (nI_ge (by omega) (by omega)), Option.bind_some, pn_clash hL hi (by omega), Option.bind_some, nI_1]
    unfold ci_
    by_cases e : cc_ vi ar pr pl an i j = true
    · rw [if_pos e, if_pos e, if_neg (show ¬ (1 : Int32) = 0 by decide)]
      exact ih (j + 1) f _ (by omega) (by omega)
    · rw [if_neg e, if_neg e, if_pos rfl]
      exact ih (j + 1) f _ (by omega) (by omega)
theorem dk_5 (hL : PL_ vi ar pr m pl dr an) : ∀ (r i f : Nat) (x : Int64), i + r = m → r < f → m_X6_digestOfClashes_5 (wd_h vi ar pr hh) f 0 x (nI i) = some (lf_ (co_ (cc_ vi ar pr pl an) m r i) x) := by
  have hm := hL.1
  intro r
  induction r with
  | zero =>
    intro i f x hi hf
    obtain ⟨f, rfl⟩ : ∃ g, f = g + 1 := ⟨f - 1, by omega⟩
    show b_X6_digestOfClashes_5 _ _ _ _ _ = _
    unfold b_X6_digestOfClashes_5
    rw [gr_6_2 w0_, Option.bind_some, pn_size hL, Option.bind_some, if_pos (nI_le (by omega) (by omega))]
    rfl
  | succ r ih =>
    intro i f x hi hf
    obtain ⟨f, rfl⟩ : ∃ g, f = g + 1 := ⟨f - 1, by omega⟩
    show b_X6_digestOfClashes_5 _ _ _ _ _ = _
    unfold b_X6_digestOfClashes_5
    rw [gr_6_2 w0_, Option.bind_some, pn_size hL, Option.bind_some, if_neg (nI_ge (by omega) (by omega)), nI_1, dk_23 hL (by omega) (m - (i + 1)) (i + 1) 64 x (by omega) (by omega)]
    unfold co_
    rw [lf_app]
    exact ih (i + 1) f _ (by omega) (by omega)
theorem dl_108 {n : Nat} (hP : Pg_ vi ar n) (hL : PL_ vi ar pr m pl dr an) (S : SC_ vi ar v a) : ∀ (r k f : Nat) (x : Int64), k + r = 10 → r < f → m_X6_digest_108 f (wd_h v a pr hh) 0 x (nI k) = some (wd_h v a pr hh, fo_ (cv_ vi ar pr m n pl an) r k x) := by
  intro r
  induction r with
  | zero =>
    intro k f x hk hf
    obtain ⟨f, rfl⟩ : ∃ g, f = g + 1 := ⟨f - 1, by omega⟩
    show b_X6_digest_108 _ _ _ _ _ = _
    unfold b_X6_digest_108
    rw [if_pos (show 10 ≤ nI k from nI_le (a := 10) (by omega) (by omega))]
    rfl
  | succ r ih =>
    intro k f x hk hf
    obtain ⟨f, rfl⟩ : ∃ g, f = g + 1 := ⟨f - 1, by omega⟩
    show b_X6_digest_108 _ _ _ _ _ = _
    unfold b_X6_digest_108
    rw [if_neg (show ¬ 10 ≤ nI k from nI_ge (b := 10) (by omega) (by omega)), cn_c hP hL S (by omega), Option.bind_some, nI_1]
    exact ih (k + 1) f _ (by omega) (by omega)
theorem SC_.a2 (g : SC_ vi ar v a) : a 2 = ar 2 := funext fun b => g.2 2 b (by unfold ka_; omega)
theorem dl_73 {n : Nat} (hP : Pg_ vi ar n) (hL : PL_ vi ar pr m pl dr an) (S : SC_ vi ar v a) : ∀ (r k f : Nat) (x : Int64), k + r = n → r < f → m_X6_digest_73 f (wd_h v a pr hh) 0 x (nI k) = some (wd_h v a pr hh, fo_ (cv_ vi ar pr m n pl an) 10 0 (fo_ (ar 2) r k x)) := by
  have hn := hP.1
  have hR := (S.pg hP).rw
  intro r
  induction r with
  | zero =>
    intro k f x hk hf
    obtain ⟨f, rfl⟩ : ∃ g, f = g + 1 := ⟨f - 1, by omega⟩
    show b_X6_digest_73 _ _ _ _ _ = _
    unfold b_X6_digest_73
    rw [gr_6_0 w0_, Option.bind_some, ro_size hR, Option.bind_some, if_pos (nI_le (by omega) (by omega))]
    exact dl_108 hP hL S 10 0 64 x (by omega) (by omega)
  | succ r ih =>
    intro k f x hk hf
    obtain ⟨f, rfl⟩ : ∃ g, f = g + 1 := ⟨f - 1, by omega⟩
    show b_X6_digest_73 _ _ _ _ _ = _
    unfold b_X6_digest_73
    rw [gr_6_0 w0_, Option.bind_some, ro_size hR, Option.bind_some, if_neg (nI_ge (by omega) (by omega)), Option.bind_some, ro_at hR (by omega), if_pos (show k < n by omega), Option.bind_some, nI_1, show (1 + 1 : Nat) = 2 from rfl, S.a2]
    exact ih (k + 1) f _ (by omega) (by omega)
theorem dl_43 {n s nd : Nat} (hP : Pg_ vi ar n) (hL : PL_ vi ar pr m pl dr an) (hN : Ln_ vi ar s nd) : ∀ (r k f : Nat) (x : Int64) (v a : Nat → Nat → Int32), SC_ vi ar v a → k + r = 10 → r < f → ∃ v' a', m_X6_digest_43 f (wd_h v a pr hh) 0 x (nI k) = some (wd_h v' a' pr hh, fo_ (cv_ vi ar pr m n pl an) 10 0 (fo_ (ar 2) n 0 (fo_ (lv_ vi ar pr m pl dr an s nd) r (10 + k) x))) ∧ SC_ vi ar v' a' := by
  have hn := hP.1
  intro r
  induction r with
  | zero =>
    intro k f x v a S hk hf
    obtain ⟨f, rfl⟩ : ∃ g, f = g + 1 := ⟨f - 1, by omega⟩
    refine ⟨v, a, ?_, S⟩
    show b_X6_digest_43 _ _ _ _ _ = _
    unfold b_X6_digest_43
    rw [if_pos (show 10 ≤ nI k from nI_le (a := 10) (by omega) (by omega))]
    exact dl_73 hP hL S n 0 64 x (by omega) (by omega)
  | succ r ih =>
    intro k f x v a S hk hf
    obtain ⟨f, rfl⟩ : ∃ g, f = g + 1 := ⟨f - 1, by omega⟩
    obtain ⟨v1, a1, e1, S1⟩ := lc_ (hh := hh) (x := 10 + k) hL hN S (by omega)
    obtain ⟨v2, a2, e2, S2⟩ := ih (k + 1) f (31 * x + (lv_ vi ar pr m pl dr an s nd (10 + k)).toInt64) v1 a1 S1 (by omega) (by omega)
    refine ⟨v2, a2, ?_, S2⟩
    show b_X6_digest_43 _ _ _ _ _ = _
    unfold b_X6_digest_43
    rw [if_neg (show ¬ 10 ≤ nI k from nI_ge (b := 10) (by omega) (by omega)), show (10 : Int32) + nI k = nI (10 + k) from nI_add 10 k, e1, dp_b2_s, nI_1]
    exact e2
theorem dl_16 {n s nd : Nat} (hP : Pg_ vi ar n) (hL : PL_ vi ar pr m pl dr an) (hN : Ln_ vi ar s nd) : ∀ (r k f : Nat) (x : Int64) (v a : Nat → Nat → Int32), SC_ vi ar v a → k + r = 8 → r < f → ∃ v' a', m_X6_digest_16 f (wd_h v a pr hh) 0 x (nI k) = some (wd_h v' a' pr hh, fo_ (cv_ vi ar pr m n pl an) 10 0 (fo_ (ar 2) n 0 (fo_ (lv_ vi ar pr m pl dr an s nd) 10 10 (fo_ (lv_ vi ar pr m pl dr an s nd) r k x)))) ∧ SC_ vi ar v' a' := by
  intro r
  induction r with
  | zero =>
    intro k f x v a S hk hf
    obtain ⟨f, rfl⟩ : ∃ g, f = g + 1 := ⟨f - 1, by omega⟩
    obtain ⟨v2, a2, e2, S2⟩ := dl_43 (hh := hh) hP hL hN 10 0 64 x v a S (by omega) (by omega)
    refine ⟨v2, a2, ?_, S2⟩
    show b_X6_digest_16 _ _ _ _ _ = _
    unfold b_X6_digest_16
    rw [if_pos (show 8 ≤ nI k from nI_le (a := 8) (by omega) (by omega))]
    exact e2
  | succ r ih =>
    intro k f x v a S hk hf
    obtain ⟨f, rfl⟩ : ∃ g, f = g + 1 := ⟨f - 1, by omega⟩
    obtain ⟨v1, a1, e1, S1⟩ := lc_ (hh := hh) (x := k) hL hN S (by omega)
    obtain ⟨v2, a2, e2, S2⟩ := ih (k + 1) f (31 * x + (lv_ vi ar pr m pl dr an s nd k).toInt64) v1 a1 S1 (by omega) (by omega)
    refine ⟨v2, a2, ?_, S2⟩
    show b_X6_digest_16 _ _ _ _ _ = _
    unfold b_X6_digest_16
    rw [if_neg (show ¬ 8 ≤ nI k from nI_ge (b := 8) (by omega) (by omega)), e1, dp_b2_s, nI_1]
    exact e2
/- the reference -/
theorem mx_ {x : Int64} : m_X7_mix (wd_h v a pr hh) 72 x = some (wd_h v a pr (31 * hh + x)) := by
  rw [m_X7_mix, wd_ck w72 (by decide), gl_7_32 w72, Option.bind_some, pl_7_32, Option.bind_some]
theorem dm_44 (hL : PL_ v a pr m pl dr an) {j : Nat} (hj : j < m) {k9 : dp_H → Nat → Int32 → Option (dp_H × Int64)} : ∀ (r k f : Nat) (hh : Int64), k + r = 10 → r < f → m_X7_digest_44 k9 f (wd_h v a pr hh) 72 (nI j) (nI k) = k9 (wd_h v a pr (fo_ (a (pr j + 1)) r k hh)) 72 (nI (j + 1)) := by
  intro r
  induction r with
  | zero =>
    intro k f x hk hf
    obtain ⟨f, rfl⟩ : ∃ g, f = g + 1 := ⟨f - 1, by omega⟩
    show b_X7_digest_44 _ _ _ _ _ _ = _
    unfold b_X7_digest_44
    rw [if_pos (show 10 ≤ nI k from nI_le (a := 10) (by omega) (by omega)), nI_1]
    rfl
  | succ r ih =>
    intro k f x hk hf
    obtain ⟨f, rfl⟩ : ∃ g, f = g + 1 := ⟨f - 1, by omega⟩
    show b_X7_digest_44 _ _ _ _ _ _ = _
    unfold b_X7_digest_44
    rw [if_neg (show ¬ 10 ≤ nI k from nI_ge (b := 10) (by omega) (by omega)), ml_lets hL hj (by omega), Option.bind_some, mx_, Option.bind_some, nI_1]
    exact ih (k + 1) f _ (by omega) (by omega)
theorem dm_19 (hL : PL_ v a pr m pl dr an) {j : Nat} (hj : j < m) {k9 : dp_H → Nat → Int32 → Option (dp_H × Int64)} : ∀ (r k f : Nat) (hh : Int64), k + r = 6 → r < f → m_X7_digest_19 k9 f (wd_h v a pr hh) 72 (nI j) (nI k) = k9 (wd_h v a pr (fo_ (a (pr j + 1)) 10 0 (fo_ (pv_ v a pr pl dr an j) r k hh))) 72 (nI (j + 1)) := by
  intro r
  induction r with
  | zero =>
    intro k f x hk hf
    obtain ⟨f, rfl⟩ : ∃ g, f = g + 1 := ⟨f - 1, by omega⟩
    show b_X7_digest_19 _ _ _ _ _ _ = _
    unfold b_X7_digest_19
    rw [if_pos (show 6 ≤ nI k from nI_le (a := 6) (by omega) (by omega))]
    exact dm_44 hL hj 10 0 64 x (by omega) (by omega)
  | succ r ih =>
    intro k f x hk hf
    obtain ⟨f, rfl⟩ : ∃ g, f = g + 1 := ⟨f - 1, by omega⟩
    show b_X7_digest_19 _ _ _ _ _ _ = _
    unfold b_X7_digest_19
    rw [if_neg (show ¬ 6 ≤ nI k from nI_ge (b := 6) (by omega) (by omega)), (pv_cm hL hj (by omega)).2, Option.bind_some, mx_, Option.bind_some, nI_1]
    exact ih (k + 1) f _ (by omega) (by omega)
theorem dm_9 (hL : PL_ v a pr m pl dr an) : ∀ (r j f : Nat) (hh : Int64), j + r = m → r < f → m_X7_digest_9 f (wd_h v a pr hh) 72 (nI j) = m_X7_digest_75 64 (wd_h v a pr (pf_ v a pr pl dr an r j hh)) 72 0 := by
  have hm := hL.1
  intro r
  induction r with
  | zero =>
    intro j f x hj hf
    obtain ⟨f, rfl⟩ : ∃ g, f = g + 1 := ⟨f - 1, by omega⟩
    show b_X7_digest_9 _ _ _ _ = _
    unfold b_X7_digest_9
    rw [gi_7_2 w72, hL.2.2.1, Option.bind_some, if_pos (nI_le (by omega) (by omega))]
    rfl
  | succ r ih =>
    intro j f x hj hf
    obtain ⟨f, rfl⟩ : ∃ g, f = g + 1 := ⟨f - 1, by omega⟩
    have hb : m_X7_digest_9 (f + 1) (wd_h v a pr x) 72 (nI j) = m_X7_digest_9 f (wd_h v a pr (fo_ (a (pr j + 1)) 10 0 (fo_ (pv_ v a pr pl dr an j) 6 0 x))) 72 (nI (j + 1)) := by
      show b_X7_digest_9 _ _ _ _ = _
      unfold b_X7_digest_9
      rw [gi_7_2 w72, hL.2.2.1, Option.bind_some, if_neg (nI_ge (by omega) (by omega))]
      exact dm_19 hL (by omega) 6 0 64 x (by omega) (by omega)
    rw [hb, ih (j + 1) f _ (by omega) (by omega)]
    rfl
theorem dm_75 (hL : PL_ v a pr m pl dr an) : ∀ (r q f : Nat) (hh : Int64), q + r = (co_ (cc_ v a pr pl an) m m 0).length → r < f → m_X7_digest_75 f (wd_h v a pr hh) 72 (nI q) = m_X7_digest_102 64 (wd_h v a pr (lf_ ((co_ (cc_ v a pr pl an) m m 0).drop q) hh)) 72 0 := by
  have hm := hL.1
  have h45 := co_45 (c := cc_ v a pr pl an) hm
  intro r
  induction r with
  | zero =>
    intro q f x hq hf
    obtain ⟨f, rfl⟩ : ∃ g, f = g + 1 := ⟨f - 1, by omega⟩
    show b_X7_digest_75 _ _ _ _ = _
    unfold b_X7_digest_75
    rw [ml_cat hL (by omega), Option.bind_some, List.getElem?_eq_none (by omega), Option.getD_none, if_pos rfl, List.drop_eq_nil_of_le (by omega)]
    rfl
  | succ r ih =>
    intro q f x hq hf
    obtain ⟨f, rfl⟩ : ∃ g, f = g + 1 := ⟨f - 1, by omega⟩
    have hlt : q < (co_ (cc_ v a pr pl an) m m 0).length := by omega
    have hne : ¬ (co_ (cc_ v a pr pl an) m m 0)[q] = -1 := by
      obtain ⟨w, hw, e⟩ := co_ne hm m 0 (by omega) _ (List.getElem_mem hlt)
      rw [e]
      exact wo_ne (by omega)
    show b_X7_digest_75 _ _ _ _ = _
    unfold b_X7_digest_75
    rw [ml_cat hL (by omega), Option.bind_some, List.getElem?_eq_getElem hlt, Option.getD_some, if_neg hne, Option.bind_some, mx_, Option.bind_some, nI_1, ih (q + 1) f _ (by omega) (by omega), List.drop_eq_getElem_cons hlt]
    rfl
theorem dm_178 {n : Nat} (hP : Pg_ vi ar n) (hL : PL_ vi ar pr m pl dr an) (hS : St_ ar) (hC : Ct_ vi) (S : SC_ vi ar v a) : ∀ (r k f : Nat) (hh : Int64), k + r = 10 → r < f → m_X7_digest_178 f (wd_h v a pr hh) 72 (nI k) = some (wd_h v a pr (fo_ (cv_ vi ar pr m n pl an) r k hh), fo_ (cv_ vi ar pr m n pl an) r k hh) := by
  intro r
  induction r with
  | zero =>
    intro k f x hk hf
    obtain ⟨f, rfl⟩ : ∃ g, f = g + 1 := ⟨f - 1, by omega⟩
    show b_X7_digest_178 _ _ _ _ = _
    unfold b_X7_digest_178
    rw [if_pos (show 10 ≤ nI k from nI_le (a := 10) (by omega) (by omega)), gl_7_32 w72]
    rfl
  | succ r ih =>
    intro k f x hk hf
    obtain ⟨f, rfl⟩ : ∃ g, f = g + 1 := ⟨f - 1, by omega⟩
    show b_X7_digest_178 _ _ _ _ = _
    unfold b_X7_digest_178
    rw [if_neg (show ¬ 10 ≤ nI k from nI_ge (b := 10) (by omega) (by omega)), cn_m hP hL hS hC S (by omega), Option.bind_some, mx_, Option.bind_some, nI_1]
    exact ih (k + 1) f _ (by omega) (by omega)
theorem dm_151 {n : Nat} (hP : Pg_ vi ar n) (hL : PL_ vi ar pr m pl dr an) (hS : St_ ar) (hC : Ct_ vi) (S : SC_ vi ar v a) : ∀ (r k f : Nat) (hh : Int64), k + r = n → r < f → m_X7_digest_151 f (wd_h v a pr hh) 72 (nI k) = some (wd_h v a pr (fo_ (cv_ vi ar pr m n pl an) 10 0 (fo_ (ar 2) r k hh)), fo_ (cv_ vi ar pr m n pl an) 10 0 (fo_ (ar 2) r k hh)) := by
  have hn := hP.1
  have h0 := (S.pg hP).2.2.1
  intro r
  induction r with
  | zero =>
    intro k f x hk hf
    obtain ⟨f, rfl⟩ : ∃ g, f = g + 1 := ⟨f - 1, by omega⟩
    show b_X7_digest_151 _ _ _ _ = _
    unfold b_X7_digest_151
    rw [gi_7_0 w72, h0, Option.bind_some, if_pos (nI_le (by omega) (by omega))]
    exact dm_178 hP hL hS hC S 10 0 64 x (by omega) (by omega)
  | succ r ih =>
    intro k f x hk hf
    obtain ⟨f, rfl⟩ : ∃ g, f = g + 1 := ⟨f - 1, by omega⟩
    show b_X7_digest_151 _ _ _ _ = _
    unfold b_X7_digest_151
    rw [gi_7_0 w72, h0, Option.bind_some, if_neg (nI_ge (by omega) (by omega)), gr_7_1 w72, Option.bind_some, wd_ai (by decide) (by decide) (show k < 52 by omega), Option.bind_some, mx_, Option.bind_some, nI_1, (S.pg hP).2.2.2 k (by omega), S.a2]
    exact ih (k + 1) f _ (by omega) (by omega)
theorem dm_127 {n s nd : Nat} (hP : Pg_ vi ar n) (hL : PL_ vi ar pr m pl dr an) (hN : Ln_ vi ar s nd) (hS : St_ ar) (hC : Ct_ vi) : ∀ (r k f : Nat) (hh : Int64) (v a : Nat → Nat → Int32), SC_ vi ar v a → k + r = 20 → 10 ≤ k → r < f → ∃ v' a', m_X7_digest_127 f (wd_h v a pr hh) 72 (nI k) = some (wd_h v' a' pr (fo_ (cv_ vi ar pr m n pl an) 10 0 (fo_ (ar 2) n 0 (fo_ (lv_ vi ar pr m pl dr an s nd) r k hh))), fo_ (cv_ vi ar pr m n pl an) 10 0 (fo_ (ar 2) n 0 (fo_ (lv_ vi ar pr m pl dr an s nd) r k hh))) ∧ SC_ vi ar v' a' := by
  have hn := hP.1
  intro r
  induction r with
  | zero =>
    intro k f x v a S hk hk2 hf
    obtain ⟨f, rfl⟩ : ∃ g, f = g + 1 := ⟨f - 1, by omega⟩
    refine ⟨v, a, ?_, S⟩
    show b_X7_digest_127 _ _ _ _ = _
    unfold b_X7_digest_127
    rw [if_pos (show 20 ≤ nI k from nI_le (a := 20) (by omega) (by omega))]
    exact dm_151 hP hL hS hC S n 0 64 x (by omega) (by omega)
  | succ r ih =>
    intro k f x v a S hk hk2 hf
    obtain ⟨f, rfl⟩ : ∃ g, f = g + 1 := ⟨f - 1, by omega⟩
    obtain ⟨v1, a1, e1, S1⟩ := lm_ (hh := x) (x := k) hL hN S (by omega)
    obtain ⟨v2, a2, e2, S2⟩ := ih (k + 1) f (31 * x + (lv_ vi ar pr m pl dr an s nd k).toInt64) v1 a1 S1 (by omega) (by omega) (by omega)
    refine ⟨v2, a2, ?_, S2⟩
    show b_X7_digest_127 _ _ _ _ = _
    unfold b_X7_digest_127
    rw [if_neg (show ¬ 20 ≤ nI k from nI_ge (b := 20) (by omega) (by omega)), e1, dp_b2_s, mx_, Option.bind_some, nI_1]
    exact e2
theorem dm_102 {n s nd : Nat} (hP : Pg_ vi ar n) (hL : PL_ vi ar pr m pl dr an) (hN : Ln_ vi ar s nd) (hS : St_ ar) (hC : Ct_ vi) : ∀ (r k f : Nat) (hh : Int64) (v a : Nat → Nat → Int32), SC_ vi ar v a → k + r = 8 → r < f → ∃ v' a', m_X7_digest_102 f (wd_h v a pr hh) 72 (nI k) = some (wd_h v' a' pr (fo_ (cv_ vi ar pr m n pl an) 10 0 (fo_ (ar 2) n 0 (fo_ (lv_ vi ar pr m pl dr an s nd) 10 10 (fo_ (lv_ vi ar pr m pl dr an s nd) r k hh)))), fo_ (cv_ vi ar pr m n pl an) 10 0 (fo_ (ar 2) n 0 (fo_ (lv_ vi ar pr m pl dr an s nd) 10 10 (fo_ (lv_ vi ar pr m pl dr an s nd) r k hh)))) ∧ SC_ vi ar v' a' := by
  intro r
  induction r with
  | zero =>
    intro k f x v a S hk hf
    obtain ⟨f, rfl⟩ : ∃ g, f = g + 1 := ⟨f - 1, by omega⟩
    obtain ⟨v2, a2, e2, S2⟩ := dm_127 hP hL hN hS hC 10 10 64 x v a S (by omega) (by omega) (by omega)
    refine ⟨v2, a2, ?_, S2⟩
    show b_X7_digest_102 _ _ _ _ = _
    unfold b_X7_digest_102
    rw [if_pos (show 8 ≤ nI k from nI_le (a := 8) (by omega) (by omega))]
    exact e2
  | succ r ih =>
    intro k f x v a S hk hf
    obtain ⟨f, rfl⟩ : ∃ g, f = g + 1 := ⟨f - 1, by omega⟩
    obtain ⟨v1, a1, e1, S1⟩ := lm_ (hh := x) (x := k) hL hN S (by omega)
    obtain ⟨v2, a2, e2, S2⟩ := ih (k + 1) f (31 * x + (lv_ vi ar pr m pl dr an s nd k).toInt64) v1 a1 S1 (by omega) (by omega)
    refine ⟨v2, a2, ?_, S2⟩
    show b_X7_digest_102 _ _ _ _ = _
    unfold b_X7_digest_102
    rw [if_neg (show ¬ 8 ≤ nI k from nI_ge (b := 8) (by omega) (by omega)), e1, dp_b2_s, mx_, Option.bind_some, nI_1]
    exact e2
end DG
theorem ok_digest (vi ar : Nat → Nat → Int32) (pr : Nat → Nat) (hh : Int64) (hI : I_ vi ar pr) : ∃ vi1 ar1 vi2 ar2 r, m_X6_digest (wd_h vi ar pr hh) 0 = some (wd_h vi1 ar1 pr hh, r) ∧ m_X7_digest (wd_h vi1 ar1 pr hh) 72 = some (wd_h vi2 ar2 pr r, r) ∧ I_ vi2 ar2 pr := by
  obtain ⟨n, m, pl, dr, an, s, nd, hP, hL, hN, hS, hC⟩ := id hI
  have hm := hL.1
  obtain ⟨v1, a1, e1, S1⟩ := dl_16 (hh := hh) hP hL hN 8 0 64 (lf_ (co_ (cc_ vi ar pr pl an) m m 0) (pf_ vi ar pr pl dr an m 0 1669)) vi ar SC_.refl (by omega) (by omega)
  obtain ⟨v2, a2, e2, S2⟩ := dm_102 hP hL hN hS hC 8 0 64 (lf_ (co_ (cc_ vi ar pr pl an) m m 0) (pf_ vi ar pr pl dr an m 0 1669)) v1 a1 S1 (by omega) (by omega)
  refine ⟨v1, a1, v2, a2, fo_ (cv_ vi ar pr m n pl an) 10 0 (fo_ (ar 2) n 0 (fo_ (lv_ vi ar pr m pl dr an s nd) 10 10 (fo_ (lv_ vi ar pr m pl dr an s nd) 8 0 (lf_ (co_ (cc_ vi ar pr pl an) m m 0) (pf_ vi ar pr pl dr an m 0 1669))))), ?_, ?_, hI.sc S2⟩
  · rw [m_X6_digest, wd_ck w0_ (by decide), m_X6_digestOfPatterns, wd_ck w0_ (by decide), show (0 : Int32) = nI 0 from rfl, dc_5 hL m 0 64 1669 (by omega) (by omega), Option.bind_some, m_X6_digestOfClashes, wd_ck w0_ (by decide), show (0 : Int32) = nI 0 from rfl, dk_5 hL m 0 64 _ (by omega) (by omega), Option.bind_some]
    exact e1
  · have hL1 := S1.pn hL
    have c75 := dm_75 hL1 (co_ (cc_ v1 a1 pr pl an) m m 0).length 0 64 (pf_ v1 a1 pr pl dr an m 0 1669) (by omega) (by have := co_45 (c := cc_ v1 a1 pr pl an) hm; omega)
    rw [List.drop_zero, cc_fr hL S1.pf.v S1.pf.a, pf_fr hL S1.pf] at c75
    have c9 := dm_9 hL1 m 0 64 1669 (by omega) (by omega)
    rw [pf_fr hL S1.pf] at c9
    rw [m_X7_digest, wd_ck w72 (by decide), pl_7_32, Option.bind_some]
    exact (c9.trans c75).trans e2
