/-! patterns as texts: one letter after the other -/
abbrev ps_ : Type := Nat × Nat × (Nat → Nat × Nat) × Nat × Nat × Nat × Nat × Nat × Nat × (Nat → Nat)
def dg_ (c : Int32) : Option Nat := if c < 48 then none else if 57 < c then none else some (c - 48).toNatClampNeg
theorem dg_s {c : Int32} {d : Nat} (h : dg_ c = some d) : ¬ c < 48 ∧ ¬ 57 < c ∧ d ≤ 9 ∧ c - 48 = nI d := by
  unfold dg_ at h
  by_cases h1 : c < 48
  · rw [if_pos h1] at h; cases h
  · rw [if_neg h1] at h
    by_cases h2 : 57 < c
    · rw [if_pos h2] at h; cases h
    · rw [if_neg h2] at h
      have h0 : ¬ c < 0 := fun z => h1 (Int32.lt_trans z (by decide))
      obtain ⟨j, hj, e⟩ := nI_of2 (M := 57) (n := 57) (by decide) h0 (Int32.not_lt.mp h2)
      subst e
      have hj2 : 48 ≤ j := by
        rcases Nat.lt_or_ge j 48 with z | z
        · exact absurd ((nI_ltI (by omega) (by omega)).mpr z) h1
        · exact z
      have e2 : nI j - 48 = nI (j - 48) := by rw [show (48 : Int32) = nI 48 from rfl, pk_sub hj2]
      rw [e2, nI_clamp (by omega)] at h
      cases h
      exact ⟨h1, h2, by omega, e2⟩
theorem dg_n {c : Int32} (h : dg_ c = none) : c < 48 ∨ 57 < c := by
  unfold dg_ at h
  by_cases h1 : c < 48
  · exact Or.inl h1
  · rw [if_neg h1] at h
    by_cases h2 : 57 < c
    · exact Or.inr h2
    · rw [if_neg h2] at h; cases h
theorem dg_m {c : Int32} (h : dg_ c = none) {j : Nat} (hj : j ≤ 9) : ¬ c - 48 = nI j := by
  intro z
  have e : c = nI (j + 48) := by
    rw [← nI_add, ← z, show nI 48 = (48 : Int32) from rfl]
    grind
  rcases dg_n h with q | q
  · rw [e, show (48 : Int32) = nI 48 from rfl, nI_ltI (by omega) (by omega)] at q
    omega
  · rw [e, show (57 : Int32) = nI 57 from rfl, nI_ltI (by omega) (by omega)] at q
    omega
theorem fg_ {h : dp_H} {c : Int32} : m_X6_isFigure h c = some (if (dg_ c).isSome = true then 1 else 0) := by
  unfold m_X6_isFigure dg_
  by_cases h1 : c < 48
  · rw [if_pos h1, if_pos h1]; rfl
  · rw [if_neg h1, if_neg h1]
    by_cases h2 : 57 < c
    · rw [if_pos h2, if_pos h2]; rfl
    · rw [if_neg h2, if_neg h2]; rfl
/-- within, of a digit -/
theorem wd_s {d lo hi : Nat} (hd : d ≤ 9) (h1 : lo ≤ 100) (h2 : hi ≤ 100) : (if nI d < nI lo then (0 : Int32) else if nI hi < nI d then 0 else 1) = if lo ≤ d ∧ d ≤ hi then 1 else 0 := by
  by_cases h3 : d < lo
  · rw [if_pos ((nI_ltI (by omega) (by omega)).mpr h3), if_neg (by omega)]
  · rw [if_neg (by rw [nI_ltI (by omega) (by omega)]; exact h3)]
    by_cases h4 : hi < d
    · rw [if_pos ((nI_ltI (by omega) (by omega)).mpr h4), if_neg (by omega)]
    · rw [if_neg (by rw [nI_ltI (by omega) (by omega)]; exact h4), if_pos (by omega)]
theorem wd_n {c : Int32} {lo hi : Nat} (h : dg_ c = none) (h1 : lo ≤ 100) (h2 : hi ≤ 9) : (if c - 48 < nI lo then (0 : Int32) else if nI hi < c - 48 then 0 else 1) = 0 := by
  by_cases h3 : c - 48 < nI lo
  · rw [if_pos h3]
  · rw [if_neg h3]
    by_cases h4 : nI hi < c - 48
    · rw [if_pos h4]
    · exfalso
      have h0 : ¬ c - 48 < 0 := fun z => h3 (by
        rcases Nat.eq_zero_or_pos lo with q | q
        · subst q; exact z
        · exact Int32.lt_trans z (by show nI 0 < nI lo; exact (nI_ltI (by omega) (by omega)).mpr q))
      obtain ⟨j, hj, e⟩ := nI_of2 (M := nI hi) (n := hi) (nI_toInt (by omega)) h0 (Int32.not_lt.mp h4)
      exact dg_m h (by omega) e
def way_ (c : Int32) : Option Nat := if c < 97 then (if c = 33 then some 9 else if c = 42 then some 10 else if c = 45 then some 8 else none) else if 104 < c then (if c = 33 then some 9 else if c = 42 then some 10 else if c = 45 then some 8 else none) else some (c - 97).toNatClampNeg
def tk_ (s : ps_) (c : Int32) : Option ps_ := match s with
  | (st, pl, lh, op, lo, hi, w, dr, an, af) =>
    if st = 0 then (if c = 46 ∧ 0 < pl then some (5, pl, lh, 1, lo, hi, w, dr, an, af) else if c = 61 ∧ 0 < pl then some (6, pl, lh, op, lo, hi, w, dr, an, af) else if pl = 8 then none else if c = 91 then some (1, pl, lh, op, lo, hi, w, dr, an, af) else if c = 78 then some (0, pl + 1, va_up lh pl (2, 9), op, lo, hi, w, dr, an, af) else if c = 88 then some (0, pl + 1, va_up lh pl (0, 9), op, lo, hi, w, dr, an, af) else (dg_ c).elim none (fun d => some (0, pl + 1, va_up lh pl (d, d), op, lo, hi, w, dr, an, af)))
    else if st = 1 then (dg_ c).elim none (fun d => if d ≤ 8 then some (2, pl, lh, op, d, hi, w, dr, an, af) else none)
    else if st = 2 then (if c = 45 then some (3, pl, lh, op, lo, hi, w, dr, an, af) else none)
    else if st = 3 then (dg_ c).elim none (fun d => if lo < d then some (4, pl, lh, op, lo, d, w, dr, an, af) else none)
    else if st = 4 then (if c = 93 then some (0, pl + 1, va_up lh pl (lo, hi), op, lo, hi, w, dr, an, af) else none)
    else if st = 5 then (if c = 61 then some (6, pl, lh, op, lo, hi, w, dr, an, af) else none)
    else if st = 6 then (way_ c).elim none (fun x => some (7, pl, lh, op, lo, hi, x, dr, an, af))
    else if st = 7 then (if c = 58 then some (8, pl, lh, op, lo, hi, w, dr, an, af) else none)
    else if st = 8 then (dg_ c).elim none (fun d => if d ≤ pl then some (9, pl, lh, op, lo, hi, w, d, an, af) else none)
    else (dg_ c).elim none (fun d => if an < 4 then some (9, pl, lh, op, lo, hi, w, dr, an + 1, va_up af an d) else none)
/-- what is true of the letters read so far -/
def V_ (s : ps_) : Prop := match s with
  | (st, pl, lh, op, lo, hi, w, dr, an, af) => st ≤ 9 ∧ pl ≤ 8 ∧ op ≤ 1 ∧ (st ≤ 4 → op = 0) ∧ (1 ≤ st → st ≤ 4 → pl < 8) ∧ (5 ≤ st → 1 ≤ pl) ∧ (∀ k, k < pl → (lh k).1 ≤ (lh k).2 ∧ (lh k).2 < 10) ∧ (2 ≤ st → st ≤ 4 → lo ≤ 8) ∧ (st = 4 → lo < hi ∧ hi ≤ 9) ∧ (7 ≤ st → w ≤ 10) ∧ (st = 9 → dr ≤ pl) ∧ an ≤ 4 ∧ (∀ k, k < an → af k ≤ 9)
def B_ (vi ar : Nat → Nat → Int32) (pl : Nat) (lh : Nat → Nat × Nat) (op an : Nat) (af : Nat → Nat) : Prop := vi 4 3 = nI pl ∧ vi 4 4 = nI op ∧ (∀ k, k < pl → ar 5 k = mk_ (lh k).1 (lh k).2 ∧ ar 6 k = nI ((lh k).2 - (lh k).1 + 1)) ∧ (∀ k, pl ≤ k → k < 10 → ar 5 k = (if op = 0 then 0 else 1023) ∧ ar 6 k = (if op = 0 then 0 else 11)) ∧ vi 7 1 = nI an ∧ (∀ k, k < an → ar 8 k = nI (af k))
def D_ (vi : Nat → Nat → Int32) (st lo hi w dr : Nat) : Prop := vi 3 1 = nI st ∧ (2 ≤ st → st ≤ 4 → vi 3 2 = nI lo) ∧ (st = 4 → vi 3 3 = nI hi) ∧ (7 ≤ st → vi 4 5 = nI w) ∧ (st = 9 → vi 4 6 = nI dr)
def CS_ (vi ar : Nat → Nat → Int32) (s : ps_) : Prop := match s with
  | (st, pl, lh, op, lo, hi, w, dr, an, af) => B_ vi ar pl lh op an af ∧ D_ vi st lo hi w dr
def MB_ (vi ar : Nat → Nat → Int32) (pl : Nat) (lh : Nat → Nat × Nat) (op an : Nat) (af : Nat → Nat) : Prop := vi 72 16 = nI pl ∧ vi 72 17 = nI op ∧ (∀ k, k < pl → ar 82 k = mk_ (lh k).1 (lh k).2) ∧ vi 72 22 = nI an ∧ (∀ k, k < an → ar 83 k = nI (af k))
def MD_ (vi : Nat → Nat → Int32) (st lo hi w dr : Nat) : Prop := vi 72 15 = nI st ∧ (2 ≤ st → st ≤ 4 → vi 72 19 = nI lo) ∧ (st = 4 → vi 72 21 = nI hi) ∧ (7 ≤ st → vi 72 20 = nI w) ∧ (st = 9 → vi 72 21 = nI dr)
def MS_ (vi ar : Nat → Nat → Int32) (s : ps_) : Prop := match s with
  | (st, pl, lh, op, lo, hi, w, dr, an, af) => MB_ vi ar pl lh op an af ∧ MD_ vi st lo hi w dr
theorem way_s {c : Int32} {x : Nat} (h : way_ c = some x) : x ≤ 10 := by
  unfold way_ at h
  by_cases h1 : c < 97
  · rw [if_pos h1] at h
    split at h
    · cases h; omega
    · split at h
      · cases h; omega
      · split at h
        · cases h; omega
        · cases h
  · rw [if_neg h1] at h
    by_cases h2 : 104 < c
    · rw [if_pos h2] at h
      split at h
      · cases h; omega
      · split at h
        · cases h; omega
        · split at h
          · cases h; omega
          · cases h
    · rw [if_neg h2] at h
      have h0 : ¬ c < 0 := fun z => h1 (Int32.lt_trans z (by decide))
      obtain ⟨j, hj, e⟩ := nI_of2 (M := 104) (n := 104) (by decide) h0 (Int32.not_lt.mp h2)
      subst e
      have hj2 : 97 ≤ j := by
        rcases Nat.lt_or_ge j 97 with z | z
        · exact absurd ((nI_ltI (by omega) (by omega)).mpr z) h1
        · exact z
      rw [show (97 : Int32) = nI 97 from rfl, pk_sub hj2, nI_clamp (by omega)] at h
      cases h
      omega
theorem va_lh {lh : Nat → Nat × Nat} {pl a b : Nat} (h : ∀ k, k < pl → (lh k).1 ≤ (lh k).2 ∧ (lh k).2 < 10) (ha : a ≤ b) (hb : b < 10) : ∀ k, k < pl + 1 → (va_up lh pl (a, b) k).1 ≤ (va_up lh pl (a, b) k).2 ∧ (va_up lh pl (a, b) k).2 < 10 := by
  intro k hk
  unfold va_up
  by_cases e : k = pl
  · rw [if_pos e]; exact ⟨ha, hb⟩
  · rw [if_neg e]; exact h k (by omega)
theorem V_tk {s s' : ps_} {c : Int32} (hV : V_ s) (h : tk_ s c = some s') : V_ s' := by
  obtain ⟨st, pl, lh, op, lo, hi, w, dr, an, af⟩ := s
  obtain ⟨v1, v2, v3, v4, v5, v6, v7, v8, v9, v10, v11, v12, v13⟩ := hV
  unfold tk_ at h
  dsimp only at h
  have c10 : st = 0 ∨ st = 1 ∨ st = 2 ∨ st = 3 ∨ st = 4 ∨ st = 5 ∨ st = 6 ∨ st = 7 ∨ st = 8 ∨ st = 9 := by omega
  rcases c10 with rfl | rfl | rfl | rfl | rfl | rfl | rfl | rfl | rfl | rfl
  · simp only [if_true] at h
    by_cases h1 : c = 46 ∧ 0 < pl
    · rw [if_pos h1] at h; cases h
      exact ⟨by omega, v2, by omega, by omega, by omega, by omega, v7, by omega, by omega, by omega, by omega, v12, v13⟩
    · rw [if_neg h1] at h
      by_cases h2 : c = 61 ∧ 0 < pl
      · rw [if_pos h2] at h; cases h
        exact ⟨by omega, v2, v3, by omega, by omega, by omega, v7, by omega, by omega, by omega, by omega, v12, v13⟩
      · rw [if_neg h2] at h
        by_cases h3 : pl = 8
        · rw [if_pos h3] at h; cases h
        · rw [if_neg h3] at h
          by_cases h4 : c = 91
          · rw [if_pos h4] at h; cases h
            exact ⟨by omega, v2, v3, fun _ => v4 (by omega), by omega, by omega, v7, by omega, by omega, by omega, by omega, v12, v13⟩
          · rw [if_neg h4] at h
            by_cases h5 : c = 78
            · rw [if_pos h5] at h; cases h
              exact ⟨by omega, by omega, v3, v4, by omega, by omega, va_lh v7 (by omega) (by omega), by omega, by omega, by omega, by omega, v12, v13⟩
            · rw [if_neg h5] at h
              by_cases h6 : c = 88
              · rw [if_pos h6] at h; cases h
                exact ⟨by omega, by omega, v3, v4, by omega, by omega, va_lh v7 (by omega) (by omega), by omega, by omega, by omega, by omega, v12, v13⟩
              · rw [if_neg h6] at h
                cases hd : dg_ c with
                | none => rw [hd] at h; cases h
                | some d =>
                  rw [hd] at h; cases h
                  have := (dg_s hd).2.2.1
                  exact ⟨by omega, by omega, v3, v4, by omega, by omega, va_lh v7 (by omega) (by omega), by omega, by omega, by omega, by omega, v12, v13⟩
  · simp only [show ¬ (1 : Nat) = 0 by decide, if_false, if_true] at h
    cases hd : dg_ c with
    | none => rw [hd] at h; cases h
    | some d =>
      rw [hd] at h
      simp only [Option.elim_some] at h
      by_cases h1 : d ≤ 8
      · rw [if_pos h1] at h; cases h
        exact ⟨by omega, v2, v3, fun _ => v4 (by omega), fun _ _ => v5 (by omega) (by omega), by omega, v7, by omega, by omega, by omega, by omega, v12, v13⟩
      · rw [if_neg h1] at h; cases h
  · simp only [show ¬ (2 : Nat) = 0 by decide, show ¬ (2 : Nat) = 1 by decide, if_false, if_true] at h
    by_cases h1 : c = 45
    · rw [if_pos h1] at h; cases h
      exact ⟨by omega, v2, v3, fun _ => v4 (by omega), fun _ _ => v5 (by omega) (by omega), by omega, v7, fun _ _ => v8 (by omega) (by omega), by omega, by omega, by omega, v12, v13⟩
    · rw [if_neg h1] at h; cases h
  · simp only [show ¬ (3 : Nat) = 0 by decide, show ¬ (3 : Nat) = 1 by decide, show ¬ (3 : Nat) = 2 by decide, if_false, if_true] at h
    cases hd : dg_ c with
    | none => rw [hd] at h; cases h
    | some d =>
      rw [hd] at h
      simp only [Option.elim_some] at h
      have := (dg_s hd).2.2.1
      by_cases h1 : lo < d
      · rw [if_pos h1] at h; cases h
        exact ⟨by omega, v2, v3, fun _ => v4 (by omega), fun _ _ => v5 (by omega) (by omega), by omega, v7, fun _ _ => v8 (by omega) (by omega), fun _ => ⟨h1, this⟩, by omega, by omega, v12, v13⟩
      · rw [if_neg h1] at h; cases h
  · simp only [show ¬ (4 : Nat) = 0 by decide, show ¬ (4 : Nat) = 1 by decide, show ¬ (4 : Nat) = 2 by decide, show ¬ (4 : Nat) = 3 by decide, if_false, if_true] at h
    by_cases h1 : c = 93
    · rw [if_pos h1] at h; cases h
      have := v9 rfl
      have := v5 (by omega) (by omega)
      exact ⟨by omega, by omega, v3, fun _ => v4 (by omega), by omega, by omega, va_lh v7 (by omega) (by omega), by omega, by omega, by omega, by omega, v12, v13⟩
    · rw [if_neg h1] at h; cases h
  · simp only [show ¬ (5 : Nat) = 0 by decide, show ¬ (5 : Nat) = 1 by decide, show ¬ (5 : Nat) = 2 by decide, show ¬ (5 : Nat) = 3 by decide, show ¬ (5 : Nat) = 4 by decide, if_false, if_true] at h
    by_cases h1 : c = 61
    · rw [if_pos h1] at h; cases h
      exact ⟨by omega, v2, v3, by omega, by omega, fun _ => v6 (by omega), v7, by omega, by omega, by omega, by omega, v12, v13⟩
    · rw [if_neg h1] at h; cases h
  · simp only [show ¬ (6 : Nat) = 0 by decide, show ¬ (6 : Nat) = 1 by decide, show ¬ (6 : Nat) = 2 by decide, show ¬ (6 : Nat) = 3 by decide, show ¬ (6 : Nat) = 4 by decide, show ¬ (6 : Nat) = 5 by decide, if_false, if_true] at h
    cases hd : way_ c with
    | none => rw [hd] at h; cases h
    | some x =>
      rw [hd] at h; cases h
      have := way_s hd
      exact ⟨by omega, v2, v3, by omega, by omega, fun _ => v6 (by omega), v7, by omega, by omega, fun _ => this, by omega, v12, v13⟩
  · simp only [show ¬ (7 : Nat) = 0 by decide, show ¬ (7 : Nat) = 1 by decide, show ¬ (7 : Nat) = 2 by decide, show ¬ (7 : Nat) = 3 by decide, show ¬ (7 : Nat) = 4 by decide, show ¬ (7 : Nat) = 5 by decide, show ¬ (7 : Nat) = 6 by decide, if_false, if_true] at h
    by_cases h1 : c = 58
    · rw [if_pos h1] at h; cases h
      exact ⟨by omega, v2, v3, by omega, by omega, fun _ => v6 (by omega), v7, by omega, by omega, fun _ => v10 (by omega), by omega, v12, v13⟩
    · rw [if_neg h1] at h; cases h
  · simp only [show ¬ (8 : Nat) = 0 by decide, show ¬ (8 : Nat) = 1 by decide, show ¬ (8 : Nat) = 2 by decide, show ¬ (8 : Nat) = 3 by decide, show ¬ (8 : Nat) = 4 by decide, show ¬ (8 : Nat) = 5 by decide, show ¬ (8 : Nat) = 6 by decide, show ¬ (8 : Nat) = 7 by decide, if_false, if_true] at h
    cases hd : dg_ c with
    | none => rw [hd] at h; cases h
    | some d =>
      rw [hd] at h
      simp only [Option.elim_some] at h
      by_cases h1 : d ≤ pl
      · rw [if_pos h1] at h; cases h
        exact ⟨by omega, v2, v3, by omega, by omega, fun _ => v6 (by omega), v7, by omega, by omega, fun _ => v10 (by omega), fun _ => h1, v12, v13⟩
      · rw [if_neg h1] at h; cases h
  · simp only [show ¬ (9 : Nat) = 0 by decide, show ¬ (9 : Nat) = 1 by decide, show ¬ (9 : Nat) = 2 by decide, show ¬ (9 : Nat) = 3 by decide, show ¬ (9 : Nat) = 4 by decide, show ¬ (9 : Nat) = 5 by decide, show ¬ (9 : Nat) = 6 by decide, show ¬ (9 : Nat) = 7 by decide, show ¬ (9 : Nat) = 8 by decide, if_false] at h
    cases hd : dg_ c with
    | none => rw [hd] at h; cases h
    | some d =>
      rw [hd] at h
      simp only [Option.elim_some] at h
      have := (dg_s hd).2.2.1
      by_cases h1 : an < 4
      · rw [if_pos h1] at h; cases h
        refine ⟨by omega, v2, v3, by omega, by omega, fun _ => v6 (by omega), v7, by omega, by omega, fun _ => v10 (by omega), fun _ => v11 rfl, by omega, fun k hk => ?_⟩
        unfold va_up
        by_cases e : k = an
        · rw [if_pos e]; exact this
        · rw [if_neg e]; exact v13 k (by omega)
      · rw [if_neg h1] at h; cases h
