/-! numbers read again as they are rewritten -/
theorem in_1 (n a d : Nat) : nI n + (nI a - nI d) = nI (n + a) - nI d := by rw [← nI_add]; grind
theorem in_2 (a d k : Nat) : nI (a + k) - (nI a - nI d) = nI (d + k) := by rw [← nI_add, ← nI_add]; grind
theorem in_3 (a d k n w : Nat) (h : w + d = n + a) (hk : k + 1 ≤ n) : nI w - 1 - nI k - (nI a - nI d) = nI (n - 1 - k) := by
  have e1 : nI w + nI d = nI n + nI a := by rw [nI_add, nI_add, h]
  have e2 : nI (n - 1 - k) + nI k + 1 = nI n := by rw [nI_add, nI_1]; congr 1; omega
  grind
theorem in_4 (w k : Nat) (hk : k + 1 ≤ w) : nI w - 1 - nI k = nI (w - 1 - k) := by
  have e2 : nI (w - 1 - k) + nI k + 1 = nI w := by rw [nI_add, nI_1]; congr 1; omega
  grind
def rg_ (ar : Nat → Nat → Int32) (pr : Nat → Nat) (dr an : Nat → Nat) (j : Nat) (g : Nat → Int32) : Nat → Int32 := fun q => if q < an j then ar (pr j + 4) q else g (q - an j + dr j)
/-- the reading, with so many times left: the way (-1: it fails), the times left then, the row in the end -/
def rx_ (vi ar : Nat → Nat → Int32) (pr : Nat → Nat) (m : Nat) (pl dr an : Nat → Nat) : Nat → Nat → (Nat → Int32) → Int32 × Nat × Nat × (Nat → Int32)
  | 0, _, g => (-1, 0, 0, g)
  | k + 1, n, g => (wn_ (fi_ vi ar pr pl g n) (cx_ ar pr) m 0 none).elim (-1, k, 0, g) (fun j => if 10 < an j + (n - dr j) ∨ an j + (n - dr j) = 0 then (-1, k, 0, g) else if vi (pr j) 5 = 10 then rx_ vi ar pr m pl dr an k (an j + (n - dr j)) (rg_ ar pr dr an j g) else (vi (pr j) 5, k, an j + (n - dr j), rg_ ar pr dr an j g))
theorem dp_b2_s {α β : Type} {h : dp_H} {v : α} {f : dp_H → α → Option β} : dp_b2 (some (h, v)) f = f h v := rfl
section RD
variable {vi ar vi' ar' : Nat → Nat → Int32} {pr : Nat → Nat} {hh : Int64} {m : Nat} {pl dr an : Nat → Nat}
theorem fi_fr (h : PL_ vi ar pr m pl dr an) (hv : ∀ a, 11 ≤ a → a < 61 → vi' a = vi a) (ha : ∀ a, 11 ≤ a → a < 61 → ar' a = ar a) : fi_ vi' ar' pr pl = fi_ vi ar pr pl := by
  funext g n i
  have := h.lo' i
  unfold fi_
  rw [hv (pr i) (by omega) (by omega), ha (pr i + 1) (by omega) (by omega)]
theorem li_fr (h : PL_ vi ar pr m pl dr an) (hv : ∀ a, 11 ≤ a → a < 61 → vi' a = vi a) (ha : ∀ a, 11 ≤ a → a < 61 → ar' a = ar a) : li_ vi' ar' pr pl = li_ vi ar pr pl := by
  funext g n i
  have := h.lo' i
  unfold li_
  rw [hv (pr i) (by omega) (by omega), ha (pr i + 1) (by omega) (by omega)]
theorem cx_fr (h : PL_ vi ar pr m pl dr an) (ha : ∀ a, 11 ≤ a → a < 61 → ar' a = ar a) : cx_ ar' pr = cx_ ar pr := by
  funext i j
  have h1 := h.lo' i
  have h2 := h.lo' j
  unfold cx_
  rw [ha (pr i + 2) (by omega) (by omega), ha (pr j + 2) (by omega) (by omega)]
theorem he_fr (h : PL_ vi ar pr m pl dr an) (hv : ∀ a, 11 ≤ a → a < 61 → vi' a = vi a) : he_ vi' pr = he_ vi pr := by
  funext i
  have := h.lo' i
  unfold he_
  rw [hv (pr i) (by omega) (by omega)]
theorem lx_fr (h : PL_ vi ar pr m pl dr an) (hv : ∀ a, 11 ≤ a → a < 61 → vi' a = vi a) (ha : ∀ a, 11 ≤ a → a < 61 → ar' a = ar a) : lx_ vi' ar' pr an = lx_ vi ar pr an := by
  funext i j
  have h1 := h.lo' i
  have h2 := h.lo' j
  unfold lx_
  simp only [LK_]
  rw [hv (pr i) (by omega) (by omega), hv (pr j) (by omega) (by omega), ha (pr i + 4) (by omega) (by omega), ha (pr j + 4) (by omega) (by omega)]
theorem cc_fr (h : PL_ vi ar pr m pl dr an) (hv : ∀ a, 11 ≤ a → a < 61 → vi' a = vi a) (ha : ∀ a, 11 ≤ a → a < 61 → ar' a = ar a) : cc_ vi' ar' pr pl an = cc_ vi ar pr pl an := by
  funext i j
  have h1 := h.lo' i
  have h2 := h.lo' j
  unfold cc_ cb_
  simp only [LK_]
  rw [hv (pr i) (by omega) (by omega), hv (pr j) (by omega) (by omega), ha (pr i + 4) (by omega) (by omega), ha (pr j + 4) (by omega) (by omega), ha (pr i + 1) (by omega) (by omega), ha (pr j + 1) (by omega) (by omega), ha (pr i + 2) (by omega) (by omega), ha (pr j + 2) (by omega) (by omega)]
theorem sb_fr (h : PL_ vi ar pr m pl dr an) (hv : ∀ a, 11 ≤ a → a < 61 → vi' a = vi a) (ha : ∀ a, 11 ≤ a → a < 61 → ar' a = ar a) : sb_ vi' ar' pr m pl an = sb_ vi ar pr m pl an := by
  funext g n
  unfold sb_
  rw [fi_fr h hv ha, li_fr h hv ha, lx_fr h hv ha]
theorem rg_fr (h : PL_ vi ar pr m pl dr an) (ha : ∀ a, 11 ≤ a → a < 61 → ar' a = ar a) : rg_ ar' pr dr an = rg_ ar pr dr an := by
  funext j g q
  have := h.lo' j
  unfold rg_
  rw [ha (pr j + 4) (by omega) (by omega)]
theorem rx_fr (h : PL_ vi ar pr m pl dr an) (hv : ∀ a, 11 ≤ a → a < 61 → vi' a = vi a) (ha : ∀ a, 11 ≤ a → a < 61 → ar' a = ar a) : ∀ k n g, rx_ vi' ar' pr m pl dr an k n g = rx_ vi ar pr m pl dr an k n g := by
  intro k
  induction k with
  | zero => intro n g; rfl
  | succ k ih =>
    intro n g
    rw [rx_, rx_, fi_fr h hv ha, cx_fr h ha]
    congr 1
    funext j
    have := h.lo' j
    rw [hv (pr j) (by omega) (by omega), rg_fr h ha, ih]
/-- what is read depends on the row's digits alone -/
theorem rx_congr {g g' : Nat → Int32} {n : Nat} (h : PL_ vi ar pr m pl dr an) : ∀ k n (g g' : Nat → Int32), (∀ q, q < n → g q = g' q) → (rx_ vi ar pr m pl dr an k n g).1 = (rx_ vi ar pr m pl dr an k n g').1 ∧ (rx_ vi ar pr m pl dr an k n g).2.1 = (rx_ vi ar pr m pl dr an k n g').2.1 ∧ (rx_ vi ar pr m pl dr an k n g).2.2.1 = (rx_ vi ar pr m pl dr an k n g').2.2.1 ∧ ∀ q, q < (rx_ vi ar pr m pl dr an k n g).2.2.1 → (rx_ vi ar pr m pl dr an k n g).2.2.2 q = (rx_ vi ar pr m pl dr an k n g').2.2.2 q := by
  have hm10 := h.1
  intro k
  induction k with
  | zero => intro n g g' hg; exact ⟨rfl, rfl, rfl, fun q hq => absurd hq (Nat.not_lt_zero q)⟩
  | succ k ih =>
    intro n g g' hg
    rw [rx_, rx_]
    have e : wn_ (fi_ vi ar pr pl g n) (cx_ ar pr) m 0 none = wn_ (fi_ vi ar pr pl g' n) (cx_ ar pr) m 0 none := wn_congr m 0 none (fun q _ _ => fi_congr hg)
    rw [← e]
    cases hw : wn_ (fi_ vi ar pr pl g n) (cx_ ar pr) m 0 none with
    | none => exact ⟨rfl, rfl, rfl, fun q hq => absurd hq (Nat.not_lt_zero q)⟩
    | some j =>
      simp only [Option.elim_some]
      have hj := wn_lt (m := m) m 0 none (by omega) (fun q hq => by cases hq) j hw
      have hf := wn_in m 0 none (fun q hq => by cases hq) j hw
      have hn : dr j ≤ n := by
        obtain ⟨-, -, -, -, -, -, w7, -⟩ := (h.2.2.2.2.2 j hj).1
        unfold fi_ ft_ at hf
        rw [Bool.and_eq_true, decide_eq_true_eq] at hf
        rcases hf.2 with z | z <;> omega
      by_cases h1 : 10 < an j + (n - dr j) ∨ an j + (n - dr j) = 0
      · rw [if_pos h1, if_pos h1]
        exact ⟨rfl, rfl, rfl, fun q hq => absurd hq (Nat.not_lt_zero q)⟩
      · rw [if_neg h1, if_neg h1]
        have hg' : ∀ q, q < an j + (n - dr j) → rg_ ar pr dr an j g q = rg_ ar pr dr an j g' q := by
          intro q hq
          unfold rg_
          by_cases hqa : q < an j
          · rw [if_pos hqa, if_pos hqa]
          · rw [if_neg hqa, if_neg hqa, hg _ (by omega)]
        by_cases h2 : vi (pr j) 5 = 10
        · rw [if_pos h2, if_pos h2]
          exact ih _ _ _ hg'
        · rw [if_neg h2, if_neg h2]
          exact ⟨rfl, rfl, rfl, hg'⟩
/-! the class -/
theorem rw_64 {n : Nat} (h : vi 64 1 = nI n) (hn : n ≤ 10) : Rw_ vi 64 10 n := ⟨rfl, rfl, by decide, h, hn⟩
theorem rw_66 {n : Nat} (h : vi 66 1 = nI n) (hn : n ≤ 10) : Rw_ vi 66 10 n := ⟨rfl, rfl, by decide, h, hn⟩
theorem cr_l {n a d : Nat} {g : Nat → Int32} (hd : d ≤ n) (hn : n ≤ 10) (ha : a ≤ 4) : ∀ (f i : Nat) (vi ar : Nat → Nat → Int32), d ≤ i → i ≤ n → 10 < f + i → vi 64 1 = nI n → vi 66 1 = nI (min 10 (a + (i - d))) → (∀ q, q < min 10 (a + (i - d)) → ar 67 q = g q) → (∀ q, a ≤ q → q < min 10 (a + (n - d)) → g q = ar 65 (q - a + d)) →
    ∃ vi' ar', m_X4_rewrite_18 f (wd_h vi ar pr hh) 63 (if a + (i - d) ≤ 10 then 1 else 0) (nI i) = some (wd_h vi' ar' pr hh, if a + (n - d) ≤ 10 ∧ 0 < a + (n - d) then 1 else 0) ∧ (∀ b, b ≠ 64 → b ≠ 66 → vi' b = vi b) ∧ (∀ b, b ≠ 65 → b ≠ 67 → ar' b = ar b) ∧ vi' 64 1 = nI (min 10 (a + (n - d))) ∧ (∀ q, q < min 10 (a + (n - d)) → ar' 65 q = g q) := by
  intro f
  induction f with
  | zero => intro i vi ar h1 h2 h3; omega
  | succ f ih =>
    intro i vi ar h1 h2 h3 h64 h66 h67 hg
    show ∃ vi' ar', b_X4_rewrite_18 (m_X4_rewrite_18 f) (wd_h vi ar pr hh) 63 _ (nI i) = _ ∧ _
    unfold b_X4_rewrite_18
    have r64 := rw_64 h64 hn
    have r66 : Rw_ vi 66 10 (min 10 (a + (i - d))) := rw_66 h66 (by omega)
    rw [gr_4_0 rfl, Option.bind_some, ro_size r64, Option.bind_some]
    by_cases hin : i < n
    · rw [if_neg (by rw [nI_leI (by omega) (by omega)]; omega), gr_4_1 rfl, Option.bind_some, Option.bind_some, ro_at r64 (by omega), if_pos hin, Option.bind_some, ro_append r66]
      by_cases hr : a + (i - d) < 10
      · rw [if_pos (by omega)]
        have hx : ¬ (1 : Int32) = 0 := by decide
        have hx2 : ¬ (if a + (i - d) ≤ 10 then (1 : Int32) else 0) = 0 := by rw [if_pos (by omega)]; decide
        have e : min 10 (a + (i - d)) = a + (i - d) := by omega
        rw [e] at h66 h67
        obtain ⟨v2, a2, k1, k2, k3, k4, k5⟩ := ih (i + 1) (up2 vi 66 1 (nI (a + (i - d) + 1))) (up2 ar 67 (a + (i - d)) (ar 65 i)) (by omega) (by omega) (by omega) (by rw [up2_n (by omega)]; exact h64) (by rw [up2_s]; congr 1; omega) (fun q hq => by
          by_cases hqe : q = a + (i - d)
          · rw [hqe, up2_s, hg _ (by omega) (by omega)]; congr 1; omega
          · rw [up2_n (by omega)]; exact h67 q (by omega)) (fun q hq1 hq2 => by rw [up2_n (by omega)]; exact hg q hq1 hq2)
        rw [if_pos (by omega)] at k1
        refine ⟨v2, a2, ?_, fun b hb1 hb2 => by rw [k2 b hb1 hb2, up2_k hb2], fun b hb1 hb2 => by rw [k3 b hb1 hb2, up2_k hb2], k4, k5⟩
        rw [e, nI_1, dp_b2_s, if_neg hx, if_neg hx2]
        exact k1
      · rw [if_neg (by omega)]
        obtain ⟨v2, a2, k1, k2, k3, k4, k5⟩ := ih (i + 1) vi ar (by omega) (by omega) (by omega) h64 (by rw [h66]; congr 1; omega) (fun q hq => h67 q (by omega)) hg
        rw [if_neg (by omega)] at k1
        refine ⟨v2, a2, ?_, k2, k3, k4, k5⟩
        rw [nI_1, dp_b2_s, if_pos rfl]
        exact k1
    · have hi : i = n := by omega
      subst hi
      obtain ⟨v2, a2, k1, k2, k3, k4, k5, k6⟩ := ro_copy (ar := ar) (pr := pr) (hh := hh) (k := 64) (cap := 10) r66 (by decide) (by omega) rfl rfl (by decide)
      rw [if_pos (by rw [nI_leI (by omega) (by omega)]; omega), Option.bind_some, gr_4_1 rfl, Option.bind_some, k1, Option.bind_some, gr_4_0 rfl, Option.bind_some, ro_size (rw_64 k4 (by omega)), Option.bind_some]
      refine ⟨v2, a2, ?_, fun b hb1 hb2 => k2 b hb1, fun b hb1 hb2 => k5 b hb1, k4, fun q hq => by rw [k6 q hq, h67 q hq]⟩
      by_cases hr : a + (i - d) ≤ 10
      · rw [if_pos hr, if_neg (by decide)]
        by_cases h0 : 0 < a + (i - d)
        · rw [if_neg (by show ¬ nI (min 10 (a + (i - d))) ≤ nI 0; rw [nI_leI (by omega) (by omega)]; omega), if_pos ⟨hr, h0⟩]
        · rw [if_pos (by show nI (min 10 (a + (i - d))) ≤ nI 0; rw [nI_leI (by omega) (by omega)]; omega), if_neg (fun z => h0 z.2)]
      · rw [if_neg hr, if_pos rfl, if_neg (fun z => hr z.1)]
theorem cr_ (h : PL_ vi ar pr m pl dr an) {n j : Nat} (hj : j < m) (h64 : vi 64 1 = nI n) (hn : n ≤ 10) (hd : dr j ≤ n) : ∃ vi' ar', m_X4_rewrite (wd_h vi ar pr hh) 63 (pr j) = some (wd_h vi' ar' pr hh, if an j + (n - dr j) ≤ 10 ∧ 0 < an j + (n - dr j) then 1 else 0) ∧ (∀ b, b ≠ 64 → b ≠ 66 → vi' b = vi b) ∧ (∀ b, b ≠ 65 → b ≠ 67 → ar' b = ar b) ∧ vi' 64 1 = nI (min 10 (an j + (n - dr j))) ∧ (∀ q, q < min 10 (an j + (n - dr j)) → ar' 65 q = rg_ ar pr dr an j (ar 65) q) := by
  have hm10 := h.1
  have hp := h.pa (i := j) (by omega)
  have hlo := h.lo' j
  obtain ⟨-, -, -, -, -, w6, -, w8, w4, -⟩ := (h.2.2.2.2.2 j hj).1
  obtain ⟨v2, a2, k1, k2, k3, k4, k5, k6⟩ := ro_copy (ar := ar) (pr := pr) (hh := hh) (k := 66) (cap := 10) (hp.row w8 w4) (by omega) (by omega) rfl rfl (by decide)
  rw [m_X4_rewrite, wd_ck (c := 4) rfl (by decide), gr_4_1 rfl, Option.bind_some, pt_ahead hp, Option.bind_some, k1, Option.bind_some, pt_drop hp, k2 (pr j) (by omega), w6, Option.bind_some]
  obtain ⟨v3, a3, l1, l2, l3, l4, l5⟩ := cr_l (pr := pr) (hh := hh) (n := n) (a := an j) (d := dr j) (g := rg_ ar pr dr an j (ar 65)) hd hn w4 64 (dr j) v2 a2 (by omega) hd (by omega) (by rw [k2 64 (by decide)]; exact h64) (by rw [k4]; congr 1; omega) (fun q hq => by
    rw [show a2 67 q = a2 (66 + 1) q from rfl, k6 q (by omega)]
    unfold rg_
    rw [if_pos (by omega)]) (fun q hq1 hq2 => by
    unfold rg_
    rw [if_neg (by omega), k5 65 (by decide)])
  rw [if_pos (by omega)] at l1
  exact ⟨v3, a3, l1, fun b hb1 hb2 => by rw [l2 b hb1 hb2, k2 b hb2], fun b hb1 hb2 => by rw [l3 b hb1 hb2, k5 b hb2], l4, l5⟩
theorem pl_up (h : PL_ vi ar pr m pl dr an) (hv : ∀ a, a < 61 → vi' a = vi a) (h72 : vi' 72 2 = vi 72 2) (ha : ∀ a, a < 61 → ar' a = ar a) (hm : ∀ a, 74 ≤ a → a < 81 → ar' a = ar a) : PL_ vi' ar' pr m pl dr an := h.fr (by rw [hv 9 (by decide)]) h72 (fun a _ h2 => hv a h2) (fun a _ h2 => ha a h2) hm
theorem cd_l (h : PL_ vi ar pr m pl dr an) : ∀ (f k n : Nat) (vi1 ar1 : Nat → Nat → Int32), k ≤ 6 → k < f → n ≤ 10 → (∀ a, a ≠ 63 → a ≠ 64 → a ≠ 66 → vi1 a = vi a) → (∀ a, a ≠ 65 → a ≠ 67 → ar1 a = ar a) → vi1 64 1 = nI n → vi1 63 2 = -1 → vi1 63 3 = nI (6 - k) → sm_ 9 (ar1 65) n →
    ∃ vi' ar', m_X4_read_18 f (wd_h vi1 ar1 pr hh) 63 9 = some (wd_h vi' ar' pr hh) ∧ (∀ a, a ≠ 63 → a ≠ 64 → a ≠ 66 → vi' a = vi a) ∧ (∀ a, a ≠ 65 → a ≠ 67 → ar' a = ar a) ∧ vi' 63 2 = (rx_ vi ar pr m pl dr an k n (ar1 65)).1 ∧ vi' 63 3 = nI (6 - (rx_ vi ar pr m pl dr an k n (ar1 65)).2.1) ∧ (rx_ vi ar pr m pl dr an k n (ar1 65)).2.1 ≤ 6 ∧ (rx_ vi ar pr m pl dr an k n (ar1 65)).2.2.1 ≤ 10 ∧ vi' 64 1 = nI (rx_ vi ar pr m pl dr an k n (ar1 65)).2.2.1 ∧ (∀ q, q < (rx_ vi ar pr m pl dr an k n (ar1 65)).2.2.1 → ar' 65 q = (rx_ vi ar pr m pl dr an k n (ar1 65)).2.2.2 q) := by
  have hm10 := h.1
  intro f
  induction f with
  | zero => intro k n vi1 ar1 h1 h2; omega
  | succ f ih =>
    intro k n vi1 ar1 h1 h2 hn hv ha h64 h632 h633 hdg
    show ∃ vi' ar', b_X4_read_18 (m_X4_read_18 f) (wd_h vi1 ar1 pr hh) 63 9 = _ ∧ _
    unfold b_X4_read_18
    rw [gi_4_3 rfl, h633, Option.bind_some]
    have r64 := rw_64 h64 hn
    cases k with
    | zero =>
      rw [if_pos (by show nI 6 ≤ nI (6 - 0); exact nI_le (by omega) (by omega)), gr_4_0 rfl, Option.bind_some, ro_clear r64, Option.bind_some]
      exact ⟨_, _, rfl, fun a b1 b2 b3 => by rw [up2_k b2, hv a b1 b2 b3], ha, by rw [up2_n (by omega), h632]; rfl, by rw [up2_n (by omega), h633]; rfl, by show 0 ≤ 6; omega, by show 0 ≤ 10; omega, by rw [up2_s]; rfl, fun q hq => absurd hq (Nat.not_lt_zero q)⟩
    | succ k =>
      have hP : PL_ (up2 vi1 63 3 (nI (6 - k))) ar1 pr m pl dr an := pl_up h (fun a hx => by rw [up2_k (by omega), hv a (by omega) (by omega) (by omega)]) (by rw [up2_n (by omega), hv 72 (by decide) (by decide) (by decide)]) (fun a hx => ha a (by omega) (by omega)) (fun a _ _ => ha a (by omega) (by omega))
      have hv2 : ∀ a, 11 ≤ a → a < 61 → (up2 vi1 63 3 (nI (6 - k))) a = vi a := fun a _ hx => by rw [up2_k (by omega), hv a (by omega) (by omega) (by omega)]
      have ha2 : ∀ a, 11 ≤ a → a < 61 → ar1 a = ar a := fun a _ hx => ha a (by omega) (by omega)
      have r64' : Rw_ (up2 vi1 63 3 (nI (6 - k))) 64 10 n := rw_64 (by rw [up2_n (by omega)]; exact h64) hn
      have e6 : nI (6 - (k + 1)) + 1 = nI (6 - k) := by rw [nI_1]; congr 1; omega
      rw [if_neg (by show ¬ nI 6 ≤ nI (6 - (k + 1)); rw [nI_leI (by omega) (by omega)]; omega), Option.bind_some, pi_4_3 rfl, Option.bind_some, gr_4_0 rfl, Option.bind_some, e6, pn_wn hP r64' hdg, Option.bind_some, rx_, fi_fr h hv2 ha2, cx_fr h ha2]
      cases hw : wn_ (fi_ vi ar pr pl (ar1 (64 + 1)) n) (cx_ ar pr) m 0 none with
      | none =>
        have hw' : wn_ (fi_ vi ar pr pl (ar1 65) n) (cx_ ar pr) m 0 none = none := hw
        rw [show wo_ none = -1 from rfl, pn_neg (by decide), Option.bind_some]
        simp only [dp_om, Option.elim_none]
        rw [Option.bind_some, ro_clear r64', Option.bind_some]
        exact ⟨_, _, rfl, fun a b1 b2 b3 => by rw [up2_k b2, up2_k b1, hv a b1 b2 b3], ha, by rw [up2_n (by omega), up2_n (by omega), h632], by rw [up2_n (by omega), up2_s], by omega, by omega, by rw [up2_s]; rfl, fun q hq => absurd hq (Nat.not_lt_zero q)⟩
      | some j =>
        have hw' : wn_ (fi_ vi ar pr pl (ar1 65) n) (cx_ ar pr) m 0 none = some j := hw
        have hj := wn_lt (m := m) m 0 none (by omega) (fun q hq => by cases hq) j hw
        have hf := wn_in m 0 none (fun q hq => by cases hq) j hw
        have hpj := h.pa (i := j) (by omega)
        have hlo := h.lo' j
        have hnd : dr j ≤ n := by
          obtain ⟨-, -, -, -, -, -, w7, -⟩ := (h.2.2.2.2.2 j hj).1
          unfold fi_ ft_ at hf
          rw [Bool.and_eq_true, decide_eq_true_eq] at hf
          rcases hf.2 with z | z <;> omega
        obtain ⟨-, -, -, -, -, -, -, -, w4, w9, -⟩ := (h.2.2.2.2.2 j hj).1
        obtain ⟨v3, a3, l1, l2, l3, l4, l5⟩ := cr_ (hh := hh) hP hj (by rw [up2_n (by omega)]; exact h64) hn hnd
        rw [show wo_ (some j) = nI j from rfl, pn_at hP (by omega), if_pos hj, Option.bind_some]
        simp only [dp_om, Option.elim_some]
        rw [l1]
        have l2' : ∀ a, a ≠ 63 → a ≠ 64 → a ≠ 66 → v3 a = vi a := fun a b1 b2 b3 => by rw [l2 a b2 b3, up2_k b1, hv a b1 b2 b3]
        have l3' : ∀ a, a ≠ 65 → a ≠ 67 → a3 a = ar a := fun a b1 b2 => by rw [l3 a b1 b2, ha a b1 b2]
        have hr64 : Rw_ v3 64 10 (min 10 (an j + (n - dr j))) := rw_64 l4 (by omega)
        have e3 : v3 63 = (up2 vi1 63 3 (nI (6 - k))) 63 := l2 63 (by decide) (by decide)
        rw [rg_fr h ha2] at l5
        by_cases h1 : 10 < an j + (n - dr j) ∨ an j + (n - dr j) = 0
        · rw [if_neg (by omega), if_pos h1]
          rw [dp_b2_s, if_pos rfl, gr_4_0 rfl, Option.bind_some, ro_clear hr64, Option.bind_some]
          exact ⟨_, _, rfl, fun a b1 b2 b3 => by rw [up2_k b2, l2' a b1 b2 b3], l3', by rw [up2_n (by omega), e3, up2_n (by omega), h632], by rw [up2_n (by omega), e3, up2_s], by show k ≤ 6; omega, by show 0 ≤ 10; omega, by rw [up2_s]; rfl, fun q hq => absurd hq (Nat.not_lt_zero q)⟩
        · rw [if_pos (by omega), if_neg h1]
          have hmin : min 10 (an j + (n - dr j)) = an j + (n - dr j) := by omega
          rw [hmin] at l4 l5
          rw [dp_b2_s, if_neg (by decide), pt_way hpj, Option.bind_some, l2' (pr j) (by omega) (by omega) (by omega)]
          by_cases h5 : vi (pr j) 5 = 10
          · rw [if_pos h5, if_pos h5]
            have hdg' : sm_ 9 (a3 65) (an j + (n - dr j)) := by
              intro q hq
              rw [l5 q hq]
              unfold rg_
              by_cases hqa : q < an j
              · rw [if_pos hqa]; exact w9 q hqa
              · rw [if_neg hqa]; exact hdg _ (by omega)
            obtain ⟨v4, a4, t1, t2, t3, t4, t5, t6, t7, t8, t9⟩ := ih k (an j + (n - dr j)) v3 a3 (by omega) (by omega) (by omega) l2' l3' l4 (by rw [e3, up2_n (by omega), h632]) (by rw [e3, up2_s]) hdg'
            obtain ⟨c1, c2, c3, c4⟩ := rx_congr (g := a3 65) (g' := a3 65) (n := 0) h k (an j + (n - dr j)) (a3 65) (rg_ ar pr dr an j (ar1 65)) (fun q hq => l5 q hq)
            refine ⟨v4, a4, t1, t2, t3, by rw [t4, c1], by rw [t5, c2], by rw [← c2]; exact t6, by rw [← c3]; exact t7, by rw [t8, c3], fun q hq => ?_⟩
            rw [← c3] at hq
            rw [t9 q hq, c4 q hq]
          · rw [if_neg h5, if_neg h5, Option.bind_some, pi_4_2 rfl, Option.bind_some]
            exact ⟨_, _, rfl, fun a b1 b2 b3 => by rw [up2_k b1, l2' a b1 b2 b3], l3', by rw [up2_s], by rw [up2_n (by omega), e3, up2_s], by show k ≤ 6; omega, by show an j + (n - dr j) ≤ 10; omega, by rw [up2_n (by omega), l4], l5⟩
theorem cd_ (h : PL_ vi ar pr m pl dr an) {rk n : Nat} (hk : Rw_ vi rk 10 n) (hd : sm_ 9 (ar (rk + 1)) n) (hrk : rk ≠ 64) (hr1 : rk + 1 ≠ 65) : ∃ vi' ar', m_X4_read (wd_h vi ar pr hh) 63 9 rk = some (wd_h vi' ar' pr hh) ∧ (∀ a, a ≠ 63 → a ≠ 64 → a ≠ 66 → vi' a = vi a) ∧ (∀ a, a ≠ 65 → a ≠ 67 → ar' a = ar a) ∧ vi' 63 2 = (rx_ vi ar pr m pl dr an 6 n (ar (rk + 1))).1 ∧ vi' 63 3 = nI (6 - (rx_ vi ar pr m pl dr an 6 n (ar (rk + 1))).2.1) ∧ (rx_ vi ar pr m pl dr an 6 n (ar (rk + 1))).2.1 ≤ 6 ∧ (rx_ vi ar pr m pl dr an 6 n (ar (rk + 1))).2.2.1 ≤ 10 ∧ vi' 64 1 = nI (rx_ vi ar pr m pl dr an 6 n (ar (rk + 1))).2.2.1 ∧ (∀ q, q < (rx_ vi ar pr m pl dr an 6 n (ar (rk + 1))).2.2.1 → ar' 65 q = (rx_ vi ar pr m pl dr an 6 n (ar (rk + 1))).2.2.2 q) := by
  have hn := hk.2.2.2.2
  obtain ⟨v2, a2, k1, k2, k3, k4, k5, k6⟩ := ro_copy (ar := ar) (pr := pr) (hh := hh) (k := 64) (cap := 10) hk (by omega) hn rfl rfl (by decide)
  rw [m_X4_read, wd_ck (c := 4) rfl (by decide), gr_4_0 rfl, Option.bind_some, k1, Option.bind_some, pi_4_2 rfl, Option.bind_some, pi_4_3 rfl, Option.bind_some]
  obtain ⟨v4, a4, t1, t2, t3, t4, t5, t6, t7, t8, t9⟩ := cd_l (hh := hh) h 64 6 n (up2 (up2 v2 63 2 (-1)) 63 3 0) a2 (by omega) (by omega) hn (fun a b1 b2 b3 => by rw [up2_k b1, up2_k b1, k2 a b2]) (fun a b1 b2 => k5 a b1) (by rw [up2_n (by omega), up2_n (by omega), k4]) (by rw [up2_n (by omega), up2_s]) (by rw [up2_s]; rfl) (fun q hq => by rw [show a2 65 q = a2 (64 + 1) q from rfl, k6 q hq]; exact hd q hq)
  obtain ⟨c1, c2, c3, c4⟩ := rx_congr (g := a2 65) (g' := a2 65) (n := 0) h 6 n (a2 65) (ar (rk + 1)) (fun q hq => k6 q hq)
  refine ⟨v4, a4, t1, t2, t3, by rw [t4, c1], by rw [t5, c2], by rw [← c2]; exact t6, by rw [← c3]; exact t7, by rw [t8, c3], fun q hq => ?_⟩
  rw [← c3] at hq
  rw [t9 q hq, c4 q hq]
end RD
