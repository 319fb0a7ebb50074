/-! Row: k is its cell, k + 1 its array -/
def Rw_ (vi : Nat → Nat → Int32) (k cap n : Nat) : Prop := wd_k k = 5 ∧ wd_k (k + 1) = 100 + cap ∧ cap < 100 ∧ vi k 1 = nI n ∧ n ≤ cap
section RW
variable {vi ar : Nat → Nat → Int32} {pr : Nat → Nat} {hh : Int64}
theorem Rw_.len {k cap n : Nat} (h : Rw_ vi k cap n) : dp_ln (wd_h vi ar pr hh) (k + 1) = some (nI cap) := by
  obtain ⟨h1, h2, h3, -⟩ := h
  rw [wd_ln (by omega) (by omega), h2, Nat.add_sub_cancel_left]
theorem Rw_.ld {k cap n i : Nat} (h : Rw_ vi k cap n) (hi : i < cap) : dp_ai false (wd_h vi ar pr hh) (k + 1) (nI i) = some (ar (k + 1) i) := by
  obtain ⟨h1, h2, h3, -⟩ := h
  exact wd_ai (by omega) (by omega) (by omega)
theorem Rw_.st {k cap n i : Nat} {x : Int32} (h : Rw_ vi k cap n) (hi : i < cap) : dp_si false (wd_h vi ar pr hh) (k + 1) (nI i) x = some (wd_h vi (up2 ar (k + 1) i x) pr hh) := by
  obtain ⟨h1, h2, h3, -⟩ := h
  exact wd_si (by omega) (by omega) (by omega)
theorem Rw_.up {vi' : Nat → Nat → Int32} {k cap n n' : Nat} (h : Rw_ vi k cap n) (hv : vi' k 1 = nI n') (hn : n' ≤ cap) : Rw_ vi' k cap n' := ⟨h.1, h.2.1, h.2.2.1, hv, hn⟩
theorem ro_size {k cap n : Nat} (h : Rw_ vi k cap n) : m_X5_size (wd_h vi ar pr hh) k = some (nI n) := by
  rw [m_X5_size, wd_ck h.1 (by decide), gi_5_1 h.1, h.2.2.2.1]; rfl
theorem ro_at {k cap n i : Nat} (h : Rw_ vi k cap n) (hi : i < 100) : m_X5_at (wd_h vi ar pr hh) k (nI i) = some (if i < n then ar (k + 1) i else -1) := by
  have hn := h.2.2.2.2
  have hc := h.2.2.1
  rw [m_X5_at, wd_ck h.1 (by decide), if_neg (nI_pos (by omega)), gi_5_1 h.1, h.2.2.2.1, Option.bind_some]
  by_cases hin : i < n
  · rw [if_neg (by rw [nI_leI (by omega) (by omega)]; omega), gr_5_0 h.1, Option.bind_some, h.len, Option.bind_some, if_neg (by rw [nI_leI (by omega) (by omega)]; omega), Option.bind_some, h.ld (by omega), if_pos hin]; rfl
  · rw [if_pos (by rw [nI_leI (by omega) (by omega)]; omega), if_neg hin]
theorem ro_clear {k cap n : Nat} (h : Rw_ vi k cap n) : m_X5_clear (wd_h vi ar pr hh) k = some (wd_h (up2 vi k 1 0) ar pr hh) := by
  rw [m_X5_clear, wd_ck h.1 (by decide), pi_5_1 h.1]; rfl
theorem ro_append {k cap n : Nat} {x : Int32} (h : Rw_ vi k cap n) : m_X5_append (wd_h vi ar pr hh) k x = some (if n < cap then (wd_h (up2 vi k 1 (nI (n + 1))) (up2 ar (k + 1) n x) pr hh, 1) else (wd_h vi ar pr hh, 0)) := by
  have hn := h.2.2.2.2
  have hc := h.2.2.1
  rw [m_X5_append, wd_ck h.1 (by decide), gi_5_1 h.1, h.2.2.2.1, Option.bind_some, if_neg (nI_pos (by omega)), Option.bind_some, gr_5_0 h.1, Option.bind_some, h.len, Option.bind_some]
  by_cases hin : n < cap
  · rw [if_pos ((nI_ltI (by omega) (by omega)).mpr hin), Option.bind_some, Option.bind_some, h.st hin, Option.bind_some, gi_5_1 h.1, h.2.2.2.1, Option.bind_some, pi_5_1 h.1, Option.bind_some, if_pos hin, nI_1]
  · rw [if_neg (fun q => hin ((nI_ltI (by omega) (by omega)).mp q)), if_neg hin]
/-- behind copyFrom: the row k holds what the row j holds -/
theorem ro_copy_l {k cap j cj nj : Nat} (hj : Rw_ vi j cj nj) (hkj : k ≠ j) (hcc : nj ≤ cap) (h1 : wd_k k = 5) (h2 : wd_k (k + 1) = 100 + cap) (h3 : cap < 64) : ∀ (f i : Nat) (vi' ar' : Nat → Nat → Int32), i ≤ nj → nj < f + i → vi' j = vi j → vi' k 1 = nI i → ∃ vi'' ar'', m_X5_copyFrom_6 f (wd_h vi' ar' pr hh) k j (nI i) = some (wd_h vi'' ar'' pr hh) ∧ (∀ a, a ≠ k → vi'' a = vi' a) ∧ (∀ b, b ≠ 1 → vi'' k b = vi' k b) ∧ vi'' k 1 = nI nj ∧ (∀ a, a ≠ k + 1 → ar'' a = ar' a) ∧ (∀ q, q < i → ar'' (k + 1) q = ar' (k + 1) q) ∧ (∀ q, i ≤ q → q < nj → ar'' (k + 1) q = ar' (j + 1) q) := by
  intro f
  induction f with
  | zero => intro i vi' ar' h4 h5; omega
  | succ f ih =>
    intro i vi' ar' h4 h5 h6 h7
    have hR : Rw_ vi' j cj nj := hj.up (by rw [h6]; exact hj.2.2.2.1) hj.2.2.2.2
    have hj5 := hj.2.2.1
    have hj6 := hj.2.2.2.2
    show ∃ vi'' ar'', b_X5_copyFrom_6 (m_X5_copyFrom_6 f) (wd_h vi' ar' pr hh) k j (nI i) = _ ∧ _
    unfold b_X5_copyFrom_6
    rw [ro_size hR, Option.bind_some]
    by_cases hin : i < nj
    · rw [if_neg (by rw [nI_leI (by omega) (by omega)]; omega), ro_at hR (by omega), if_pos hin, Option.bind_some, ro_append (k := k) (cap := cap) (n := i) ⟨h1, h2, by omega, h7, by omega⟩, if_pos (by omega)]
      obtain ⟨v2, a2, e1, e2, e3, e4, e5, e6, e7⟩ := ih (i + 1) (up2 vi' k 1 (nI (i + 1))) (up2 ar' (k + 1) i (ar' (j + 1) i)) (by omega) (by omega) (by rw [up2_k (Ne.symm hkj)]; exact h6) up2_s
      refine ⟨v2, a2, by rw [← e1, ← nI_1]; rfl, fun a ha => by rw [e2 a ha, up2_k ha], fun b hb => by rw [e3 b hb, up2_n (by omega)], e4, fun a ha => by rw [e5 a ha, up2_k ha], fun q hq => by rw [e6 q (by omega), up2_n (by omega)], fun q hq1 hq2 => ?_⟩
      by_cases hqi : q = i
      · subst hqi
        rw [e6 q (by omega), up2_s]
      · rw [e7 q (by omega) hq2, up2_n (by omega)]
    · rw [if_pos (by rw [nI_leI (by omega) (by omega)]; omega)]
      exact ⟨vi', ar', rfl, fun _ _ => rfl, fun _ _ => rfl, by rw [h7]; congr 1; omega, fun _ _ => rfl, fun _ _ => rfl, fun q _ _ => absurd hin (by omega)⟩
theorem ro_copy {k cap j cj nj : Nat} (hj : Rw_ vi j cj nj) (hkj : k ≠ j) (hcc : nj ≤ cap) (h1 : wd_k k = 5) (h2 : wd_k (k + 1) = 100 + cap) (h3 : cap < 64) : ∃ vi'' ar'', m_X5_copyFrom (wd_h vi ar pr hh) k j = some (wd_h vi'' ar'' pr hh) ∧ (∀ a, a ≠ k → vi'' a = vi a) ∧ (∀ b, b ≠ 1 → vi'' k b = vi k b) ∧ vi'' k 1 = nI nj ∧ (∀ a, a ≠ k + 1 → ar'' a = ar a) ∧ (∀ q, q < nj → ar'' (k + 1) q = ar (j + 1) q) := by
  rw [m_X5_copyFrom, wd_ck h1 (by decide), m_X5_clear, wd_ck h1 (by decide), pi_5_1 h1]
  obtain ⟨v2, a2, e1, e2, e3, e4, e5, -, e7⟩ := ro_copy_l (vi := vi) (pr := pr) (hh := hh) hj hkj hcc h1 h2 h3 64 0 (up2 vi k 1 0) ar (by omega) (by omega) (by rw [up2_k (Ne.symm hkj)]) (by rw [up2_s]; rfl)
  exact ⟨v2, a2, e1, fun a ha => by rw [e2 a ha, up2_k ha], fun b hb => by rw [e3 b hb, up2_n (by omega)], e4, e5, fun q hq => e7 q (by omega) hq⟩
/-- two rows are like: so many places, the same at each -/
def lk_ (f g : Nat → Int32) : Nat → Nat → Bool
  | 0, _ => true
  | n + 1, i => if f i = g i then lk_ f g n (i + 1) else false
theorem lk_iff {f g : Nat → Int32} : ∀ (n i : Nat), lk_ f g n i = true ↔ ∀ q, i ≤ q → q < i + n → f q = g q
  | 0, i => ⟨fun _ q h1 h2 => absurd h1 (by omega), fun _ => rfl⟩
  | n + 1, i => by
    unfold lk_
    by_cases h : f i = g i
    · rw [if_pos h, lk_iff n (i + 1)]
      exact ⟨fun k q h1 h2 => if e : q = i then e ▸ h else k q (by omega) (by omega), fun k q h1 h2 => k q (by omega) (by omega)⟩
    · rw [if_neg h]
      exact ⟨fun k => (by cases k), fun k => absurd (k i (by omega) (by omega)) h⟩
theorem ro_like_l {k ck n j cj : Nat} (hk : Rw_ vi k ck n) (hj : Rw_ vi j cj n) : ∀ (f i : Nat), i ≤ n → n < f + i → m_X5_isLike_15 (wd_h vi ar pr hh) f k j (nI i) = some (if lk_ (ar (k + 1)) (ar (j + 1)) (n - i) i = true then 1 else 0) := by
  intro f
  have hk3 := hk.2.2.1
  have hk5 := hk.2.2.2.2
  have hj3 := hj.2.2.1
  have hj5 := hj.2.2.2.2
  induction f with
  | zero => intro i h1 h2; omega
  | succ f ih =>
    intro i h1 h2
    show b_X5_isLike_15 (wd_h vi ar pr hh) (m_X5_isLike_15 (wd_h vi ar pr hh) f) k j (nI i) = _
    unfold b_X5_isLike_15
    rw [gi_5_1 hk.1, hk.2.2.2.1, Option.bind_some]
    by_cases hin : i < n
    · rw [if_neg (by rw [nI_leI (by omega) (by omega)]; omega), gr_5_0 hk.1, Option.bind_some, hk.len, Option.bind_some, if_neg (by rw [nI_leI (by omega) (by omega)]; omega), gr_5_0 hj.1, Option.bind_some, hj.len, Option.bind_some, if_neg (by rw [nI_leI (by omega) (by omega)]; omega), Option.bind_some, hk.ld (by omega), Option.bind_some, Option.bind_some, hj.ld (by omega), Option.bind_some, show n - i = (n - (i + 1)) + 1 by omega, lk_]
      by_cases he : ar (k + 1) i = ar (j + 1) i
      · rw [if_pos he, if_pos he, nI_1, ih (i + 1) (by omega) (by omega)]
      · rw [if_neg he, if_neg he]; rfl
    · rw [if_pos (by rw [nI_leI (by omega) (by omega)]; omega), show n - i = 0 by omega]; rfl
theorem ro_like {k ck n j cj nj : Nat} (hk : Rw_ vi k ck n) (hj : Rw_ vi j cj nj) (hc : ck < 60) (hcj : cj < 60) : m_X5_isLike (wd_h vi ar pr hh) k j = some (if n = nj ∧ lk_ (ar (k + 1)) (ar (j + 1)) n 0 = true then 1 else 0) := by
  have hk5 := hk.2.2.2.2
  have hj5 := hj.2.2.2.2
  rw [m_X5_isLike, wd_ck hk.1 (by decide), gi_5_1 hk.1, hk.2.2.2.1, Option.bind_some, gi_5_1 hj.1, hj.2.2.2.1, Option.bind_some]
  by_cases he : n = nj
  · subst he
    rw [if_pos rfl]
    have := ro_like_l (ar := ar) (pr := pr) (hh := hh) hk hj 64 0 (by omega) (by omega)
    simp only [true_and]
    exact this
  · rw [if_neg (by rw [nI_eq (by omega) (by omega)]; exact he), if_neg (fun q => he q.1)]
def an_ (f : Nat → Int32) : Nat → Nat → Int32 → Int32
  | 0, _, x => x
  | n + 1, i, x => an_ f n (i + 1) (10 * x + f i)
theorem ro_num_l {k ck n : Nat} (hk : Rw_ vi k ck n) : ∀ (f i : Nat) (x : Int32), i ≤ n → n < f + i → m_X5_asNumber_4 (wd_h vi ar pr hh) f k x (nI i) = some (an_ (ar (k + 1)) (n - i) i x) := by
  intro f
  have hk3 := hk.2.2.1
  have hk5 := hk.2.2.2.2
  induction f with
  | zero => intro i x h1 h2; omega
  | succ f ih =>
    intro i x h1 h2
    show b_X5_asNumber_4 (wd_h vi ar pr hh) (m_X5_asNumber_4 (wd_h vi ar pr hh) f) k x (nI i) = _
    unfold b_X5_asNumber_4
    rw [gi_5_1 hk.1, hk.2.2.2.1, Option.bind_some]
    by_cases hin : i < n
    · rw [if_neg (by rw [nI_leI (by omega) (by omega)]; omega), ro_at hk (by omega), if_pos hin, Option.bind_some, show n - i = (n - (i + 1)) + 1 by omega, an_, nI_1, ih (i + 1) _ (by omega) (by omega)]
    · rw [if_pos (by rw [nI_leI (by omega) (by omega)]; omega), show n - i = 0 by omega]; rfl
theorem ro_num {k ck n : Nat} (hk : Rw_ vi k ck n) (hc : ck < 60) : m_X5_asNumber (wd_h vi ar pr hh) k = some (an_ (ar (k + 1)) n 0 0) := by
  have hk5 := hk.2.2.2.2
  rw [m_X5_asNumber, wd_ck hk.1 (by decide)]
  exact ro_num_l hk 64 0 0 (by omega) (by omega)
end RW
