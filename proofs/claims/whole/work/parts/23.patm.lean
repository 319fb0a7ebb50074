/-! Pattern: what it writes -/
/-- the digits from lo to hi, as bits -/
def mk_ (lo hi : Nat) : Int32 := nI (2 ^ (hi + 1) - 2 ^ lo)
theorem mk_step : ∀ i, i < 10 → ∀ lo, lo < 10 → lo ≤ i → nI (2 ^ i - 2 ^ lo) ||| ((1 : Int32) <<< (nI i &&& 31)) = nI (2 ^ (i + 1) - 2 ^ lo) := by decide +kernel
theorem bc_0 : ∀ hi, hi < 10 → ∀ lo, lo < 10 → lo ≤ hi → m_J6_bitCount_0f7a4 [] (mk_ lo hi) = some (nI (hi - lo + 1)) := by decide +kernel
theorem bc_ {h : dp_H} {lo hi : Nat} (h1 : hi < 10) (h2 : lo ≤ hi) : m_J6_bitCount_0f7a4 h (mk_ lo hi) = some (nI (hi - lo + 1)) := bc_0 hi h1 lo (by omega) h2
section PM
variable {vi ar : Nat → Nat → Int32} {pr : Nat → Nat} {hh : Int64}
theorem pt_from_l {p : Nat} {mk wt : Int32} (hp : Pa_ p) : ∀ (f i : Nat) (ar : Nat → Nat → Int32), i ≤ 10 → 10 < f + i → ∃ ar', m_X1_setFrom_7 f (wd_h vi ar pr hh) p mk wt (nI i) = some (wd_h vi ar' pr hh) ∧ (∀ a, a ≠ p + 1 → a ≠ p + 2 → ar' a = ar a) ∧ (∀ q, q < i → ar' (p + 1) q = ar (p + 1) q ∧ ar' (p + 2) q = ar (p + 2) q) ∧ (∀ q, i ≤ q → q < 10 → ar' (p + 1) q = mk ∧ ar' (p + 2) q = wt) := by
  intro f
  induction f with
  | zero => intro i ar h1 h2; omega
  | succ f ih =>
    intro i ar h1 h2
    show ∃ ar', b_X1_setFrom_7 (m_X1_setFrom_7 f) (wd_h vi ar pr hh) p mk wt (nI i) = _ ∧ _
    unfold b_X1_setFrom_7
    rw [gr_1_0 hp.1, Option.bind_some, hp.ln1, Option.bind_some]
    by_cases hin : i < 10
    · have hle : ¬ nI 10 ≤ nI i := by rw [nI_leI (by omega) (by omega)]; omega
      rw [if_neg hle, gr_1_1 hp.1, Option.bind_some, hp.ln2, Option.bind_some, if_neg hle, Option.bind_some, hp.st1 hin, Option.bind_some, gr_1_1 hp.1, Option.bind_some, hp.st2 hin, Option.bind_some, nI_1]
      obtain ⟨a2, e1, e2, e3, e4⟩ := ih (i + 1) (up2 (up2 ar (p + 1) i mk) (p + 2) i wt) (by omega) (by omega)
      refine ⟨a2, e1, fun a h1 h2 => by rw [e2 a h1 h2, up2_k h2, up2_k h1], fun q hq => ?_, fun q hq1 hq2 => ?_⟩
      · rw [(e3 q (by omega)).1, (e3 q (by omega)).2, up2_n (by omega), up2_n (by omega), up2_n (by omega), up2_n (by omega)]
        exact ⟨rfl, rfl⟩
      · by_cases hqi : q = i
        · subst hqi
          rw [(e3 q (by omega)).1, (e3 q (by omega)).2, up2_n (by omega), up2_s, up2_s]
          exact ⟨rfl, rfl⟩
        · exact e4 q (by omega) hq2
    · rw [if_pos (by rw [nI_leI (by omega) (by omega)]; omega)]
      exact ⟨ar, rfl, fun _ _ _ => rfl, fun _ _ => ⟨rfl, rfl⟩, fun q _ _ => absurd hin (by omega)⟩
theorem pt_from {p i : Nat} {mk wt : Int32} (hp : Pa_ p) (hi : i ≤ 10) : ∃ ar', m_X1_setFrom (wd_h vi ar pr hh) p (nI i) mk wt = some (wd_h vi ar' pr hh) ∧ (∀ a, a ≠ p + 1 → a ≠ p + 2 → ar' a = ar a) ∧ (∀ q, q < i → ar' (p + 1) q = ar (p + 1) q ∧ ar' (p + 2) q = ar (p + 2) q) ∧ (∀ q, i ≤ q → q < 10 → ar' (p + 1) q = mk ∧ ar' (p + 2) q = wt) := by
  rw [m_X1_setFrom, wd_ck hp.1 (by decide), if_neg (nI_pos (by omega))]
  exact pt_from_l hp 64 i ar hi (by omega)
theorem pt_clear {p : Nat} (hp : Pa_ p) : ∃ vi' ar', m_X1_clear (wd_h vi ar pr hh) p = some (wd_h vi' ar' pr hh) ∧ (∀ a, a ≠ p → a ≠ p + 3 → vi' a = vi a) ∧ (∀ a, a ≠ p + 1 → a ≠ p + 2 → ar' a = ar a) ∧ vi' p 3 = nI 0 ∧ vi' p 4 = 0 ∧ vi' (p + 3) 1 = nI 0 ∧ (∀ q, q < 10 → ar' (p + 1) q = 0 ∧ ar' (p + 2) q = 0) := by
  obtain ⟨a2, e1, e2, -, e4⟩ := pt_from (vi := vi) (ar := ar) (pr := pr) (hh := hh) (i := 0) (mk := 0) (wt := 0) hp (by omega)
  have e1 : m_X1_setFrom (wd_h vi ar pr hh) p 0 0 0 = some (wd_h vi a2 pr hh) := e1
  rw [m_X1_clear, wd_ck hp.1 (by decide), e1, Option.bind_some, gr_1_2 hp.1, Option.bind_some, m_X5_clear, wd_ck hp.2.2.2.1 (by decide), pi_5_1 hp.2.2.2.1, Option.bind_some, Option.bind_some, pi_1_3 hp.1, Option.bind_some, pi_1_4 hp.1, Option.bind_some, pi_1_5 hp.1, Option.bind_some, pi_1_6 hp.1, Option.bind_some]
  refine ⟨_, _, rfl, fun a h1 h2 => ?_, e2, ?_, ?_, ?_, fun q hq => e4 q (by omega) hq⟩
  · rw [up2_k h1, up2_k h1, up2_k h1, up2_k h1, up2_k h2]
  · rw [up2_n (by omega), up2_n (by omega), up2_n (by omega), up2_s]; rfl
  · rw [up2_n (by omega), up2_n (by omega), up2_s]
  · rw [up2_n (by omega), up2_n (by omega), up2_n (by omega), up2_n (by omega), up2_s]; rfl
theorem pt_room {p pl : Nat} (hp : Pa_ p) (hl : vi p 3 = nI pl) (h8 : pl ≤ 8) : m_X1_hasRoom (wd_h vi ar pr hh) p = some (if pl < 8 then 1 else 0) := by
  rw [m_X1_hasRoom, wd_ck hp.1 (by decide), gi_1_3 hp.1, hl, Option.bind_some, if_neg (nI_pos (by omega)), Option.bind_some]
  by_cases h : pl < 8
  · rw [if_pos h, if_neg (by show ¬ nI 8 ≤ nI pl; rw [nI_leI (by omega) (by omega)]; omega)]
  · rw [if_neg h, if_pos (by show nI 8 ≤ nI pl; rw [nI_leI (by omega) (by omega)]; omega)]
theorem pt_place_l {p lo hi : Nat} {h : dp_H} (h9 : hi < 10) (hlo : lo ≤ hi) : ∀ (f i : Nat), lo ≤ i → i ≤ hi + 1 → 11 < f + i → m_X1_appendPlace_50 f h p (nI hi) (nI (2 ^ i - 2 ^ lo)) (nI i) = b_X1_appendPlace_76 h p (mk_ lo hi) := by
  intro f
  induction f with
  | zero => intro i h1 h2 h3; omega
  | succ f ih =>
    intro i h1 h2 h3
    show b_X1_appendPlace_50 (m_X1_appendPlace_50 f) h p (nI hi) (nI (2 ^ i - 2 ^ lo)) (nI i) = _
    unfold b_X1_appendPlace_50
    by_cases hin : i ≤ hi
    · rw [if_neg (by rw [nI_ltI (by omega) (by omega)]; omega), if_neg (by show ¬ nI 9 < nI i; rw [nI_ltI (by omega) (by omega)]; omega), mk_step i (by omega) lo (by omega) h1, nI_1]
      exact ih (i + 1) (by omega) (by omega) (by omega)
    · rw [if_pos (by rw [nI_ltI (by omega) (by omega)]; omega), show i = hi + 1 by omega]; rfl
theorem pt_place {p pl lo hi : Nat} (hp : Pa_ p) (hl : vi p 3 = nI pl) (h8 : pl < 8) (h9 : hi < 10) (hlo : lo ≤ hi) : m_X1_appendPlace (wd_h vi ar pr hh) p (nI lo) (nI hi) = some (wd_h (up2 vi p 3 (nI (pl + 1))) (up2 (up2 ar (p + 1) pl (mk_ lo hi)) (p + 2) pl (nI (hi - lo + 1))) pr hh) := by
  have h10 : ¬ nI 10 ≤ nI pl := by rw [nI_leI (by omega) (by omega)]; omega
  have e := pt_place_l (p := p) (h := wd_h vi ar pr hh) h9 hlo 64 lo (by omega) (by omega) (by omega)
  rw [Nat.sub_self] at e
  have e : m_X1_appendPlace_50 64 (wd_h vi ar pr hh) p (nI hi) 0 (nI lo) = _ := e
  rw [m_X1_appendPlace, wd_ck hp.1 (by decide), gi_1_3 hp.1, hl, Option.bind_some, if_neg (nI_pos (by omega)), Option.bind_some, if_neg (by show ¬ nI 8 ≤ nI pl; rw [nI_leI (by omega) (by omega)]; omega), Option.bind_some, gr_1_0 hp.1, Option.bind_some, hp.ln1, Option.bind_some, if_neg h10, Option.bind_some, gr_1_1 hp.1, Option.bind_some, hp.ln2, Option.bind_some, if_pos (by rw [nI_ltI (by omega) (by omega)]; omega), if_neg (nI_pos (by omega)), e]
  unfold b_X1_appendPlace_76
  rw [gr_1_0 hp.1, Option.bind_some, gi_1_3 hp.1, hl, Option.bind_some, hp.st1 (by omega), Option.bind_some, gr_1_1 hp.1, Option.bind_some, gi_1_3 hp.1, hl, Option.bind_some, bc_ h9 hlo, Option.bind_some, hp.st2 (by omega), Option.bind_some, gi_1_3 hp.1, hl, Option.bind_some, pi_1_3 hp.1, Option.bind_some, nI_1]
theorem pt_mkopen {p pl : Nat} (hp : Pa_ p) (hl : vi p 3 = nI pl) (h8 : pl ≤ 8) : ∃ ar', m_X1_makeOpen (wd_h vi ar pr hh) p = some (wd_h (up2 vi p 4 1) ar' pr hh) ∧ (∀ a, a ≠ p + 1 → a ≠ p + 2 → ar' a = ar a) ∧ (∀ q, q < pl → ar' (p + 1) q = ar (p + 1) q ∧ ar' (p + 2) q = ar (p + 2) q) ∧ (∀ q, pl ≤ q → q < 10 → ar' (p + 1) q = 1023 ∧ ar' (p + 2) q = 11) := by
  obtain ⟨a2, e1, e2, e3, e4⟩ := pt_from (vi := up2 vi p 4 1) (ar := ar) (pr := pr) (hh := hh) (i := pl) (mk := 1023) (wt := 11) hp (by omega)
  rw [m_X1_makeOpen, wd_ck hp.1 (by decide), pi_1_4 hp.1, Option.bind_some, gi_1_3 hp.1, up2_n (by omega), hl, Option.bind_some, e1, Option.bind_some]
  exact ⟨a2, rfl, e2, e3, e4⟩
theorem pt_setway {p : Nat} {x : Int32} (hp : Pa_ p) : m_X1_setWay (wd_h vi ar pr hh) p x = some (wd_h (up2 vi p 5 x) ar pr hh) := by
  rw [m_X1_setWay, wd_ck hp.1 (by decide), pi_1_5 hp.1]; rfl
theorem pt_setdrop {p : Nat} {x : Int32} (hp : Pa_ p) : m_X1_setDropped (wd_h vi ar pr hh) p x = some (wd_h (up2 vi p 6 x) ar pr hh) := by
  rw [m_X1_setDropped, wd_ck hp.1 (by decide), pi_1_6 hp.1]; rfl
theorem pt_copy_2 {p q : Nat} (hp : Pa_ p) (hq : Pa_ q) (hpq : p + 2 < q ∨ q + 2 < p) : ∀ (f i : Nat) (ar : Nat → Nat → Int32), i ≤ 10 → 10 < f + i → ∃ ar', m_X1_copyFrom_40 f (wd_h vi ar pr hh) p q (nI i) = b_X1_copyFrom_76 (wd_h vi ar' pr hh) p q ∧ (∀ a, a ≠ p + 2 → ar' a = ar a) ∧ (∀ j, j < i → ar' (p + 2) j = ar (p + 2) j) ∧ (∀ j, i ≤ j → j < 10 → ar' (p + 2) j = ar (q + 2) j) := by
  intro f
  induction f with
  | zero => intro i ar h1 h2; omega
  | succ f ih =>
    intro i ar h1 h2
    show ∃ ar', b_X1_copyFrom_40 (m_X1_copyFrom_40 f) (wd_h vi ar pr hh) p q (nI i) = _ ∧ _
    unfold b_X1_copyFrom_40
    rw [gr_1_1 hp.1, Option.bind_some, hp.ln2, Option.bind_some]
    by_cases hin : i < 10
    · have hle : ¬ nI 10 ≤ nI i := by rw [nI_leI (by omega) (by omega)]; omega
      rw [if_neg hle, gr_1_1 hq.1, Option.bind_some, hq.ln2, Option.bind_some, if_neg hle, Option.bind_some, Option.bind_some, hq.ld2 hin, Option.bind_some, hp.st2 hin, Option.bind_some, nI_1]
      obtain ⟨a2, e1, e2, e3, e4⟩ := ih (i + 1) (up2 ar (p + 2) i (ar (q + 2) i)) (by omega) (by omega)
      refine ⟨a2, e1, fun a h1 => by rw [e2 a h1, up2_k h1], fun j hj => by rw [e3 j (by omega), up2_n (by omega)], fun j hj1 hj2 => ?_⟩
      by_cases hji : j = i
      · subst hji
        rw [e3 j (by omega), up2_s]
      · rw [e4 j (by omega) hj2, up2_n (by omega)]
    · rw [if_pos (by rw [nI_leI (by omega) (by omega)]; omega)]
      exact ⟨ar, rfl, fun _ _ => rfl, fun _ _ => rfl, fun j _ _ => absurd hin (by omega)⟩
theorem pt_copy_1 {p q : Nat} (hp : Pa_ p) (hq : Pa_ q) (hpq : p + 2 < q ∨ q + 2 < p) : ∀ (f i : Nat) (ar : Nat → Nat → Int32), i ≤ 10 → 10 < f + i → ∃ ar', m_X1_copyFrom_2 f (wd_h vi ar pr hh) p q (nI i) = m_X1_copyFrom_40 64 (wd_h vi ar' pr hh) p q 0 ∧ (∀ a, a ≠ p + 1 → ar' a = ar a) ∧ (∀ j, j < i → ar' (p + 1) j = ar (p + 1) j) ∧ (∀ j, i ≤ j → j < 10 → ar' (p + 1) j = ar (q + 1) j) := by
  intro f
  induction f with
  | zero => intro i ar h1 h2; omega
  | succ f ih =>
    intro i ar h1 h2
    show ∃ ar', b_X1_copyFrom_2 (m_X1_copyFrom_2 f) (wd_h vi ar pr hh) p q (nI i) = _ ∧ _
    unfold b_X1_copyFrom_2
    rw [gr_1_0 hp.1, Option.bind_some, hp.ln1, Option.bind_some]
    by_cases hin : i < 10
    · have hle : ¬ nI 10 ≤ nI i := by rw [nI_leI (by omega) (by omega)]; omega
      rw [if_neg hle, gr_1_0 hq.1, Option.bind_some, hq.ln1, Option.bind_some, if_neg hle, Option.bind_some, Option.bind_some, hq.ld1 hin, Option.bind_some, hp.st1 hin, Option.bind_some, nI_1]
      obtain ⟨a2, e1, e2, e3, e4⟩ := ih (i + 1) (up2 ar (p + 1) i (ar (q + 1) i)) (by omega) (by omega)
      refine ⟨a2, e1, fun a h1 => by rw [e2 a h1, up2_k h1], fun j hj => by rw [e3 j (by omega), up2_n (by omega)], fun j hj1 hj2 => ?_⟩
      by_cases hji : j = i
      · subst hji
        rw [e3 j (by omega), up2_s]
      · rw [e4 j (by omega) hj2, up2_n (by omega)]
    · rw [if_pos (by rw [nI_leI (by omega) (by omega)]; omega)]
      exact ⟨ar, rfl, fun _ _ => rfl, fun _ _ => rfl, fun j _ _ => absurd hin (by omega)⟩
theorem pt_copy {p q n : Nat} (hp : Pa_ p) (hq : Pa_ q) (hpq : p + 4 < q ∨ q + 4 < p) (hn : vi (q + 3) 1 = nI n) (h4 : n ≤ 4) (ho : vi q 4 = 0 ∨ vi q 4 = 1) : ∃ vi' ar', m_X1_copyFrom (wd_h vi ar pr hh) p q = some (wd_h vi' ar' pr hh) ∧ (∀ a, a ≠ p → a ≠ p + 3 → vi' a = vi a) ∧ (∀ a, a ≠ p + 1 → a ≠ p + 2 → a ≠ p + 4 → ar' a = ar a) ∧ vi' p 3 = vi q 3 ∧ vi' p 4 = vi q 4 ∧ vi' p 5 = vi q 5 ∧ vi' p 6 = vi q 6 ∧ vi' (p + 3) 1 = nI n ∧ (∀ j, j < 10 → ar' (p + 1) j = ar (q + 1) j ∧ ar' (p + 2) j = ar (q + 2) j) ∧ (∀ j, j < n → ar' (p + 4) j = ar (q + 4) j) := by
  obtain ⟨a1, e1, e2, -, e4⟩ := pt_copy_1 (vi := vi) (pr := pr) (hh := hh) hp hq (by omega) 64 0 ar (by omega) (by omega)
  obtain ⟨a2, g1, g2, -, g4⟩ := pt_copy_2 (vi := vi) (pr := pr) (hh := hh) hp hq (by omega) 64 0 a1 (by omega) (by omega)
  obtain ⟨v3, a3, k1, k2, k3, k4, k5, k6⟩ := ro_copy (ar := a2) (pr := pr) (hh := hh) (k := p + 3) (cap := 4) (hq.row hn h4) (by omega) h4 hp.2.2.2.1 hp.2.2.2.2 (by omega)
  have e1 : m_X1_copyFrom_2 64 (wd_h vi ar pr hh) p q 0 = _ := e1
  have g1 : m_X1_copyFrom_40 64 (wd_h vi a1 pr hh) p q 0 = _ := g1
  rw [m_X1_copyFrom, wd_ck hp.1 (by decide), e1, g1]
  unfold b_X1_copyFrom_76
  have hq3 : ∀ b, v3 q b = vi q b := fun b => by rw [k2 q (by omega)]
  rw [gr_1_2 hp.1, Option.bind_some, gr_1_2 hq.1, Option.bind_some, k1, Option.bind_some, gi_1_3 hq.1, Option.bind_some, pi_1_3 hp.1, Option.bind_some, gi_1_4 hq.1, Option.bind_some, up2_n (by omega), dp_b, if_pos (by rw [hq3]; exact ho), pi_1_4 hp.1, Option.bind_some, gi_1_5 hq.1, Option.bind_some, pi_1_5 hp.1, Option.bind_some, gi_1_6 hq.1, Option.bind_some, pi_1_6 hp.1, Option.bind_some]
  refine ⟨_, _, rfl, fun a h1 h2 => ?_, fun a h1 h2 h3 => ?_, ?_, ?_, ?_, ?_, ?_, fun j hj => ⟨?_, ?_⟩, fun j hj => ?_⟩
  · rw [up2_k h1, up2_k h1, up2_k h1, up2_k h1, k2 a h2]
  · rw [k5 a (by omega), g2 a h2, e2 a h1]
  · rw [up2_n (by omega), up2_n (by omega), up2_n (by omega), up2_s, hq3]
  · rw [up2_n (by omega), up2_n (by omega), up2_s, hq3]
  · rw [up2_n (by omega), up2_s, up2_n (by omega), up2_n (by omega), hq3]
  · rw [up2_s, up2_n (by omega), up2_n (by omega), up2_n (by omega), hq3]
  · rw [up2_n (by omega), up2_n (by omega), up2_n (by omega), up2_n (by omega), k4]
  · rw [k5 _ (by omega), g2 _ (by omega), e4 j (by omega) hj]
  · rw [k5 _ (by omega), g4 j (by omega) hj, e2 _ (by omega)]
  · have := k6 j hj
    rw [g2 _ (by omega), e2 _ (by omega)] at this
    exact this
end PM
