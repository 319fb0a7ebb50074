/-! the reference reads a text -/
section MP
variable {vi ar : Nat → Nat → Int32} {pr : Nat → Nat} {hh : Int64}
def RM_ (vi ar : Nat → Nat → Int32) (pr : Nat → Nat) (hh : Int64) (R : Option (dp_H × Int32)) (o : Option ps_) : Prop := ∃ vi' ar', R = some (wd_h vi' ar' pr hh, if o.isSome = true then 1 else 0) ∧ (∀ a, a ≠ 72 → vi' a = vi a) ∧ (∀ b, b < 15 ∨ 22 < b → vi' 72 b = vi 72 b) ∧ (∀ a, a ≠ 82 → a ≠ 83 → ar' a = ar a) ∧ ∀ s', o = some s' → MS_ vi' ar' s'
theorem RM_b {R : Option (dp_H × Int32)} {o : Option ps_} (h : RM_ vi ar pr hh R o) : RM_ vi ar pr hh (dp_b2 R fun h v => dp_b v (some (h, v))) o := by
  obtain ⟨v2, a2, e, r⟩ := h
  refine ⟨v2, a2, ?_, r⟩
  rw [e, dp_b2_s, dp_b]
  cases o <;> rfl
theorem RM_w {R : Option (dp_H × Int32)} {o : Option ps_} (h : RM_ vi ar pr hh R o) : RM_ vi ar pr hh (dp_b2 R fun h v => if v = 0 then some (h, 0) else some (h, 1)) o := by
  obtain ⟨v2, a2, e, r⟩ := h
  refine ⟨v2, a2, ?_, r⟩
  rw [e, dp_b2_s]
  cases o <;> rfl
theorem RM_n {R : Option (dp_H × Int32)} (h : R = some (wd_h vi ar pr hh, 0)) : RM_ vi ar pr hh R none := ⟨vi, ar, h, fun _ _ => rfl, fun _ _ => rfl, fun _ _ _ => rfl, fun s' h => by cases h⟩
theorem MB_.fr {vi' : Nat → Nat → Int32} {pl op an : Nat} {lh : Nat → Nat × Nat} {af : Nat → Nat} (h : MB_ vi ar pl lh op an af) (h1 : vi' 72 16 = vi 72 16) (h2 : vi' 72 17 = vi 72 17) (h3 : vi' 72 22 = vi 72 22) : MB_ vi' ar pl lh op an af := ⟨h1.trans h.1, h2.trans h.2.1, h.2.2.1, h3.trans h.2.2.2.1, h.2.2.2.2⟩
theorem mk_dd : ∀ d, d < 10 → (1 : Int32) <<< (nI d &&& 31) = mk_ d d := by decide +kernel
theorem mk_lh : ∀ hi, hi < 10 → ∀ lo, lo < 10 → ((1 : Int32) <<< ((nI hi + 1) &&& 31)) - ((1 : Int32) <<< (nI lo &&& 31)) = mk_ lo hi ∨ hi < lo := by decide +kernel
theorem mp_pl {pl an lo hi : Nat} {lh : Nat → Nat × Nat} {af : Nat → Nat} {l2 h2 w2 d2 : Nat} {x : Int32} (hB : MB_ vi ar pl lh 0 an af) (h8 : pl < 8) (hx : x = mk_ lo hi) : RM_ vi ar pr hh (m_X7_letsNext (wd_h vi ar pr hh) 72 x) (some (0, pl + 1, va_up lh pl (lo, hi), 0, l2, h2, w2, d2, an, af)) := by
  have e : m_X7_letsNext (wd_h vi ar pr hh) 72 x = some (wd_h (up2 (up2 vi 72 16 (nI (pl + 1))) 72 15 0) (up2 ar 82 pl x) pr hh, 1) := by
    rw [m_X7_letsNext, wd_ck w72 (by decide), gr_7_18 w72, Option.bind_some, gi_7_16 w72, hB.1, Option.bind_some, wd_si (by decide) (by decide) (show pl < 8 from h8), Option.bind_some, gi_7_16 w72, hB.1, Option.bind_some, pi_7_16 w72, Option.bind_some, pi_7_15 w72, Option.bind_some, nI_1]
  rw [e]
  refine ⟨_, _, rfl, fun a h => by rw [up2_k h, up2_k h], fun b h => by rw [up2_n (by omega), up2_n (by omega)], fun a h1 h2 => up2_k h1, fun s' h => ?_⟩
  cases h
  refine ⟨⟨by rw [up2_n (by omega), up2_s], by rw [up2_n (by omega), up2_n (by omega)]; exact hB.2.1, fun k hk => ?_, by rw [up2_n (by omega), up2_n (by omega)]; exact hB.2.2.2.1, fun k hk => by rw [up2_n (by omega)]; exact hB.2.2.2.2 k hk⟩, up2_s, by omega, by omega, by omega, by omega⟩
  unfold va_up
  by_cases e : k = pl
  · rw [if_pos e, e, up2_s, hx]
  · rw [if_neg e, up2_n (by omega)]
    exact hB.2.2.1 k (by omega)
theorem wf_ {h : dp_H} {c : Int32} : m_X7_within h c 48 57 = some (if (dg_ c).isSome = true then 1 else 0) := by
  unfold m_X7_within dg_
  by_cases h1 : c < 48
  · rw [if_pos h1, if_pos h1]; rfl
  · rw [if_neg h1, if_neg h1]
    by_cases h2 : 57 < c
    · rw [if_pos h2, if_pos h2]; rfl
    · rw [if_neg h2, if_neg h2]; rfl
theorem mp_0 {pl op lo hi w dr an : Nat} {lh : Nat → Nat × Nat} {af : Nat → Nat} {c : Int32} (hV : V_ (0, pl, lh, op, lo, hi, w, dr, an, af)) (hB : MB_ vi ar pl lh op an af) : RM_ vi ar pr hh (m_X7_takesPlace (wd_h vi ar pr hh) 72 c) (tk_ (0, pl, lh, op, lo, hi, w, dr, an, af) c) := by
  obtain ⟨v1, v2, v3, v4, v5, v6, v7, v8, v9, v10, v11, v12, v13⟩ := hV
  have hop : op = 0 := v4 (by omega)
  subst hop
  have e46 : RM_ vi ar pr hh (b_X7_takesPlace_46 (wd_h vi ar pr hh) 72 c) (if pl = 8 then none else if c = 91 then some (1, pl, lh, 0, lo, hi, w, dr, an, af) else if c = 78 then some (0, pl + 1, va_up lh pl (2, 9), 0, lo, hi, w, dr, an, af) else if c = 88 then some (0, pl + 1, va_up lh pl (0, 9), 0, lo, hi, w, dr, an, af) else (dg_ c).elim none (fun d => some (0, pl + 1, va_up lh pl (d, d), 0, lo, hi, w, dr, an, af))) := by
    unfold b_X7_takesPlace_46
    rw [gi_7_16 w72, hB.1, Option.bind_some]
    by_cases h3 : pl = 8
    · rw [if_pos (show nI pl = 8 by rw [h3]; rfl), if_pos h3]
      exact RM_n rfl
    · have h8 : pl < 8 := by omega
      rw [if_neg (show ¬ nI pl = 8 by rw [show (8 : Int32) = nI 8 from rfl, nI_eq (by omega) (by omega)]; exact h3), if_neg h3]
      by_cases h4 : c = 91
      · rw [if_pos h4, if_pos h4, pi_7_15 w72, Option.bind_some]
        refine ⟨_, ar, rfl, fun a h => up2_k h, fun b h => up2_n (by omega), fun _ _ _ => rfl, fun s' h => ?_⟩
        cases h
        exact ⟨hB.fr (up2_n (by omega)) (up2_n (by omega)) (up2_n (by omega)), up2_s, by omega, by omega, by omega, by omega⟩
      · rw [if_neg h4, if_neg h4, wf_, Option.bind_some]
        have dn : dg_ c = none ∨ ∃ d, dg_ c = some d := by
          cases hd : dg_ c with
          | none => exact Or.inl rfl
          | some d => exact Or.inr ⟨d, rfl⟩
        by_cases h5 : c = 78
        · have e98 : RM_ vi ar pr hh (b_X7_takesPlace_98 (wd_h vi ar pr hh) 72 c 1) (some (0, pl + 1, va_up lh pl (2, 9), 0, lo, hi, w, dr, an, af)) := by
            unfold b_X7_takesPlace_98
            rw [if_neg (show ¬ (1 : Int32) = 0 by decide), if_pos h5]
            exact RM_w (mp_pl hB h8 rfl)
          rw [if_pos h5, if_pos h5, ite_self]
          exact e98
        · rw [if_neg h5, if_neg h5]
          by_cases h6 : c = 88
          · have e98 : RM_ vi ar pr hh (b_X7_takesPlace_98 (wd_h vi ar pr hh) 72 c 1) (some (0, pl + 1, va_up lh pl (0, 9), 0, lo, hi, w, dr, an, af)) := by
              unfold b_X7_takesPlace_98
              rw [if_neg (show ¬ (1 : Int32) = 0 by decide), if_neg h5, if_pos h6]
              exact RM_w (mp_pl hB h8 rfl)
            rw [if_pos h6, if_pos h6, ite_self]
            exact e98
          · rw [if_neg h6, if_neg h6]
            rcases dn with hd | ⟨d, hd⟩
            · rw [hd, if_pos (show (if (none : Option Nat).isSome = true then (1 : Int32) else 0) = 0 from rfl)]
              exact RM_n rfl
            · obtain ⟨-, -, d9, ed⟩ := dg_s hd
              rw [hd, if_neg (show ¬ (if (some d : Option Nat).isSome = true then (1 : Int32) else 0) = 0 by rw [Option.isSome_some, if_pos rfl]; decide)]
              unfold b_X7_takesPlace_98
              rw [if_neg (show ¬ (1 : Int32) = 0 by decide), if_neg h5, if_neg h6]
              exact RM_w (mp_pl hB h8 (by rw [ed]; exact mk_dd d (by omega)))
  have e21 : b_X7_takesPlace_21 (wd_h vi ar pr hh) 72 c = if c = 46 ∧ 0 < pl then some (wd_h (up2 (up2 vi 72 17 1) 72 15 5) ar pr hh, 1) else b_X7_takesPlace_46 (wd_h vi ar pr hh) 72 c := by
    unfold b_X7_takesPlace_21
    rw [gi_7_16 w72, hB.1, Option.bind_some]
    by_cases h1 : c = 46
    · rw [if_pos h1]
      by_cases h0 : 0 < pl
      · rw [if_neg (nI_nle h0 (by omega)), if_pos ⟨h1, h0⟩, pi_7_17 w72, Option.bind_some, pi_7_15 w72, Option.bind_some]
      · rw [if_pos (show nI pl ≤ 0 from nI_le (a := pl) (b := 0) (by omega) (by omega)), if_neg (fun z => h0 z.2)]
    · rw [if_neg h1, if_neg (fun z => h1 z.1)]
  have e0 : m_X7_takesPlace (wd_h vi ar pr hh) 72 c = if c = 61 ∧ 0 < pl then some (wd_h (up2 vi 72 15 6) ar pr hh, 1) else b_X7_takesPlace_21 (wd_h vi ar pr hh) 72 c := by
    rw [m_X7_takesPlace, wd_ck w72 (by decide), gi_7_16 w72, hB.1, Option.bind_some]
    by_cases h1 : c = 61
    · rw [if_pos h1]
      by_cases h0 : 0 < pl
      · rw [if_neg (nI_nle h0 (by omega)), if_pos ⟨h1, h0⟩, pi_7_15 w72, Option.bind_some]
      · rw [if_pos (show nI pl ≤ 0 from nI_le (a := pl) (b := 0) (by omega) (by omega)), if_neg (fun z => h0 z.2)]
    · rw [if_neg h1, if_neg (fun z => h1 z.1)]
  rw [e0, e21]
  unfold tk_
  dsimp only
  rw [if_pos rfl]
  by_cases h1 : c = 46 ∧ 0 < pl
  · rw [if_neg (show ¬ (c = 61 ∧ 0 < pl) from fun z => absurd (h1.1.symm.trans z.1) (by decide)), if_pos h1, if_pos h1]
    refine ⟨_, ar, rfl, fun a h => by rw [up2_k h, up2_k h], fun b h => by rw [up2_n (by omega), up2_n (by omega)], fun _ _ _ => rfl, fun s' h => ?_⟩
    cases h
    exact ⟨⟨by rw [up2_n (by omega), up2_n (by omega)]; exact hB.1, by rw [up2_n (by omega), up2_s]; rfl, hB.2.2.1, by rw [up2_n (by omega), up2_n (by omega)]; exact hB.2.2.2.1, hB.2.2.2.2⟩, up2_s, by omega, by omega, by omega, by omega⟩
  · rw [if_neg h1, if_neg h1]
    by_cases h2 : c = 61 ∧ 0 < pl
    · rw [if_pos h2, if_pos h2]
      refine ⟨_, ar, rfl, fun a h => up2_k h, fun b h => up2_n (by omega), fun _ _ _ => rfl, fun s' h => ?_⟩
      cases h
      exact ⟨hB.fr (up2_n (by omega)) (up2_n (by omega)) (up2_n (by omega)), up2_s, by omega, by omega, by omega, by omega⟩
    · rw [if_neg h2, if_neg h2]
      exact e46
theorem sp_149 {x y : Int32} (hx : x = 0 ∨ x = 1) : b_X7_takesSpan_149 (wd_h vi ar pr hh) 72 x y 72 = some (wd_h (up2 (up2 vi 72 21 y) 72 15 (vi 72 15 + x)) ar pr hh, x) := by
  unfold b_X7_takesSpan_149
  rw [pi_7_21 w72, Option.bind_some, gi_7_15 w72, Option.bind_some, up2_n (by omega)]
  rcases hx with rfl | rfl
  · rw [if_pos rfl, pi_7_15 w72]; rfl
  · rw [if_neg (show ¬ (1 : Int32) = 0 by decide), pi_7_15 w72]; rfl
theorem sp_112 {x y : Int32} (hx : x = 0 ∨ x = 1) : ∃ vi', b_X7_takesSpan_112 (wd_h vi ar pr hh) 72 y x = some (wd_h vi' ar pr hh, x) ∧ (∀ a, a ≠ 72 → vi' a = vi a) ∧ (∀ b, b ≠ 15 → b ≠ 19 → b ≠ 21 → vi' 72 b = vi 72 b) ∧ vi' 72 15 = vi 72 15 + x ∧ vi' 72 19 = (if vi 72 15 = 1 then y else vi 72 19) ∧ vi' 72 21 = if vi 72 15 = 3 then y else vi 72 21 := by
  unfold b_X7_takesSpan_112
  rw [gi_7_15 w72, Option.bind_some]
  by_cases h1 : vi 72 15 = 1
  · have h3 : ¬ vi 72 15 = 3 := fun z => absurd (h1.symm.trans z) (by decide)
    rw [if_pos h1, if_pos h1, pi_7_19 w72, Option.bind_some, gi_7_15 w72, Option.bind_some, up2_n (by omega), if_neg h3, gi_7_21 w72, Option.bind_some, up2_n (by omega), sp_149 hx, up2_n (a := 72) (b := 15) (by omega), if_neg h3]
    exact ⟨_, rfl, fun a h => by rw [up2_k h, up2_k h, up2_k h], fun b b1 b2 b3 => by rw [up2_n (by omega), up2_n (by omega), up2_n (by omega)], up2_s, by rw [up2_n (by omega), up2_n (by omega), up2_s], by rw [up2_n (by omega), up2_s]⟩
  · rw [if_neg h1, if_neg h1, gi_7_19 w72, Option.bind_some, pi_7_19 w72, Option.bind_some, gi_7_15 w72, Option.bind_some, up2_n (by omega)]
    by_cases h3 : vi 72 15 = 3
    · rw [if_pos h3, sp_149 hx, up2_n (a := 72) (b := 15) (by omega), if_pos h3]
      exact ⟨_, rfl, fun a h => by rw [up2_k h, up2_k h, up2_k h], fun b b1 b2 b3 => by rw [up2_n (by omega), up2_n (by omega), up2_n (by omega)], up2_s, by rw [up2_n (by omega), up2_n (by omega), up2_s], by rw [up2_n (by omega), up2_s]⟩
    · rw [if_neg h3, gi_7_21 w72, Option.bind_some, up2_n (by omega), sp_149 hx, up2_n (a := 72) (b := 15) (by omega), if_neg h3]
      exact ⟨_, rfl, fun a h => by rw [up2_k h, up2_k h, up2_k h], fun b b1 b2 b3 => by rw [up2_n (by omega), up2_n (by omega), up2_n (by omega)], up2_s, by rw [up2_n (by omega), up2_n (by omega), up2_s], by rw [up2_n (by omega), up2_s]⟩
/-- a span's letter that is not taken -/
theorem sp_no {y : Int32} : RM_ vi ar pr hh (b_X7_takesSpan_79 (wd_h vi ar pr hh) 72 y 0) none := by
  obtain ⟨v, e1, e2, e3, -⟩ := sp_112 (vi := vi) (ar := ar) (pr := pr) (hh := hh) (y := y) (Or.inl rfl)
  unfold b_X7_takesSpan_79
  rw [if_pos rfl, e1]
  exact ⟨v, ar, rfl, e2, fun b hb => e3 b (by omega) (by omega) (by omega), fun _ _ _ => rfl, fun s' h => by cases h⟩
/-- one that is taken, within the brackets -/
theorem sp_yes {st pl op w dr an lo2 hi2 : Nat} {lh : Nat → Nat × Nat} {af : Nat → Nat} {y : Int32} (hB : MB_ vi ar pl lh op an af) (h15 : vi 72 15 = nI st) (h1 : 1 ≤ st) (h3 : st ≤ 3) (hlo : (if vi 72 15 = 1 then y else vi 72 19) = nI lo2) (hhi : st = 3 → y = nI hi2) : RM_ vi ar pr hh (b_X7_takesSpan_79 (wd_h vi ar pr hh) 72 y 1) (some (st + 1, pl, lh, op, lo2, hi2, w, dr, an, af)) := by
  obtain ⟨v, e1, e2, e3, e4, e5, e6⟩ := sp_112 (vi := vi) (ar := ar) (pr := pr) (hh := hh) (y := y) (Or.inr rfl)
  unfold b_X7_takesSpan_79
  rw [if_neg (show ¬ (1 : Int32) = 0 by decide), gi_7_15 w72, Option.bind_some, if_neg (show ¬ vi 72 15 = 4 by rw [h15, show (4 : Int32) = nI 4 from rfl, nI_eq (by omega) (by omega)]; omega), e1]
  refine ⟨v, ar, rfl, e2, fun b hb => e3 b (by omega) (by omega) (by omega), fun _ _ _ => rfl, fun s' h => ?_⟩
  cases h
  refine ⟨hB.fr (e3 16 (by omega) (by omega) (by omega)) (e3 17 (by omega) (by omega) (by omega)) (e3 22 (by omega) (by omega) (by omega)), by rw [e4, h15, nI_1], fun _ _ => e5.trans hlo, fun h => ?_, by omega, by omega⟩
  have h4 : st = 3 := by omega
  rw [e6, if_pos (show vi 72 15 = 3 by rw [h15, h4]; rfl)]
  exact hhi h4
theorem tw_ {w : Int32} : ((dp_p (wd_h vi ar pr hh) 72 7 20 (.inl w)).bind fun h2 => (dp_p h2 72 7 15 (.inl 7)).bind fun h3 => (dp_gi h3 72 7 20).bind fun v4 => if v4 = (-1) then (some (h3, (0 : Int32))) else (some (h3, 1))) = some (wd_h (up2 (up2 vi 72 20 w) 72 15 7) ar pr hh, if w = -1 then 0 else 1) := by
  rw [pi_7_20 w72, Option.bind_some, pi_7_15 w72, Option.bind_some, gi_7_20 w72, Option.bind_some, up2_n (by omega), up2_s]
  by_cases h : w = -1
  · rw [if_pos h, if_pos h]
  · rw [if_neg h, if_neg h]
theorem mp_w {c : Int32} : m_X7_takesWay (wd_h vi ar pr hh) 72 c = some (wd_h (up2 (up2 vi 72 20 ((way_ c).elim (-1) nI)) 72 15 7) ar pr hh, if (way_ c).elim (-1) nI = -1 then 0 else 1) := by
  have key := wy_ (h := []) (c := c)
  unfold m_X2_wayOf at key
  have low : (if c = 33 then some (9 : Int32) else if c = 42 then some 10 else if c = 45 then some 8 else some (-1)) = some ((way_ c).elim (-1) nI) → (if c = 45 then ((dp_p (wd_h vi ar pr hh) 72 7 20 (.inl 8)).bind fun h11 => (dp_p h11 72 7 15 (.inl 7)).bind fun h12 => (dp_gi h12 72 7 20).bind fun v13 => if v13 = (-1) then (some (h12, (0 : Int32))) else (some (h12, 1))) else (if c = 33 then ((dp_p (wd_h vi ar pr hh) 72 7 20 (.inl 9)).bind fun h8 => (dp_p h8 72 7 15 (.inl 7)).bind fun h9 => (dp_gi h9 72 7 20).bind fun v10 => if v10 = (-1) then (some (h9, 0)) else (some (h9, 1))) else (if c = 42 then ((dp_p (wd_h vi ar pr hh) 72 7 20 (.inl 10)).bind fun h5 => (dp_p h5 72 7 15 (.inl 7)).bind fun h6 => (dp_gi h6 72 7 20).bind fun v7 => if v7 = (-1) then (some (h6, 0)) else (some (h6, 1))) else ((dp_p (wd_h vi ar pr hh) 72 7 20 (.inl (-1))).bind fun h2 => (dp_p h2 72 7 15 (.inl 7)).bind fun h3 => (dp_gi h3 72 7 20).bind fun v4 => if v4 = (-1) then (some (h3, 0)) else (some (h3, 1)))))) = some (wd_h (up2 (up2 vi 72 20 ((way_ c).elim (-1) nI)) 72 15 7) ar pr hh, if (way_ c).elim (-1) nI = -1 then 0 else 1) := by
    intro k
    by_cases h45 : c = 45
    · rw [if_neg (show ¬ c = 33 by rw [h45]; decide), if_neg (show ¬ c = 42 by rw [h45]; decide), if_pos h45] at k
      rw [if_pos h45, tw_, ← Option.some.inj k]
    · by_cases h33 : c = 33
      · rw [if_pos h33] at k
        rw [if_neg h45, if_pos h33, tw_, ← Option.some.inj k]
      · by_cases h42 : c = 42
        · rw [if_neg h33, if_pos h42] at k
          rw [if_neg h45, if_neg h33, if_pos h42, tw_, ← Option.some.inj k]
        · rw [if_neg h33, if_neg h42, if_neg h45] at k
          rw [if_neg h45, if_neg h33, if_neg h42, tw_, ← Option.some.inj k]
  rw [m_X7_takesWay, wd_ck w72 (by decide), wi_, Option.bind_some]
  by_cases h1 : c < 97
  · rw [if_pos h1] at key
    rw [if_pos (show (if c < 97 then (0 : Int32) else if 104 < c then 0 else 1) = 0 by rw [if_pos h1])]
    exact low key
  · rw [if_neg h1] at key
    by_cases h2 : 104 < c
    · rw [if_pos h2] at key
      rw [if_pos (show (if c < 97 then (0 : Int32) else if 104 < c then 0 else 1) = 0 by rw [if_neg h1, if_pos h2])]
      exact low key
    · rw [if_neg h2] at key
      rw [if_neg (show ¬ (if c < 97 then (0 : Int32) else if 104 < c then 0 else 1) = 0 by rw [if_neg h1, if_neg h2]; decide), tw_, ← Option.some.inj key]
theorem mp_ {s : ps_} {c : Int32} (hV : V_ s) (hC : MS_ vi ar s) : RM_ vi ar pr hh (m_X7_takes (wd_h vi ar pr hh) 72 c) (tk_ s c) := by
  obtain ⟨st, pl, lh, op, lo, hi, w, dr, an, af⟩ := s
  obtain ⟨hB, d1, d2, d3, d4, d5⟩ := hC
  have hV0 := hV
  obtain ⟨v1, v2, v3, v4, v5, v6, v7, v8, v9, v10, v11, v12, v13⟩ := hV
  rw [m_X7_takes, wd_ck w72 (by decide), gi_7_15 w72, d1, Option.bind_some, Option.bind_some, Option.bind_some]
  have c10 : st = 0 ∨ st = 1 ∨ st = 2 ∨ st = 3 ∨ st = 4 ∨ st = 5 ∨ st = 6 ∨ st = 7 ∨ st = 8 ∨ st = 9 := by omega
  rcases c10 with rfl | rfl | rfl | rfl | rfl | rfl | rfl | rfl | rfl | rfl
  · rw [if_pos (show nI 0 = 0 from rfl)]
    exact RM_b (mp_0 hV0 hB)
  · rw [if_neg (show ¬ nI 1 = 0 by decide), if_neg (show ¬ (5 : Int32) ≤ nI 1 by decide)]
    refine RM_b ?_
    rw [m_X7_takesSpan, wd_ck w72 (by decide), gi_7_15 w72, d1, Option.bind_some, if_pos (show nI 1 = 1 from rfl), wi_, Option.bind_some]
    unfold tk_
    simp only [show ¬ (1 : Nat) = 0 by decide, if_false, if_true]
    cases hd : dg_ c with
    | none =>
      rw [show (if c - 48 < 0 then (0 : Int32) else if 8 < c - 48 then 0 else 1) = 0 from wd_n (lo := 0) (hi := 8) hd (by omega) (by omega)]
      exact sp_no
    | some d =>
      obtain ⟨-, -, d9, ed⟩ := dg_s hd
      rw [ed, show (if nI d < 0 then (0 : Int32) else if 8 < nI d then 0 else 1) = if 0 ≤ d ∧ d ≤ 8 then 1 else 0 from wd_s (lo := 0) (hi := 8) d9 (by omega) (by omega), Option.elim_some]
      by_cases h9 : d ≤ 8
      · rw [if_pos (show 0 ≤ d ∧ d ≤ 8 by omega), if_pos h9]
        exact sp_yes (st := 1) hB d1 (by omega) (by omega) (if_pos d1) (by omega)
      · rw [if_neg (show ¬ (0 ≤ d ∧ d ≤ 8) by omega), if_neg h9]
        exact sp_no
  · rw [if_neg (show ¬ nI 2 = 0 by decide), if_neg (show ¬ (5 : Int32) ≤ nI 2 by decide)]
    refine RM_b ?_
    rw [m_X7_takesSpan, wd_ck w72 (by decide), gi_7_15 w72, d1, Option.bind_some, if_neg (show ¬ nI 2 = 1 by decide), Option.bind_some, if_pos (show nI 2 = 2 from rfl)]
    unfold tk_
    simp only [show ¬ (2 : Nat) = 0 by decide, show ¬ (2 : Nat) = 1 by decide, if_false, if_true]
    by_cases h : c = 45
    · rw [if_pos h, if_pos h]
      exact sp_yes (st := 2) hB d1 (by omega) (by omega) (by rw [if_neg (show ¬ vi 72 15 = 1 by rw [d1]; decide)]; exact d2 (by omega) (by omega)) (by omega)
    · rw [if_neg h, if_neg h]
      exact sp_no
  · rw [if_neg (show ¬ nI 3 = 0 by decide), if_neg (show ¬ (5 : Int32) ≤ nI 3 by decide)]
    refine RM_b ?_
    have h8 := v8 (by omega) (by omega)
    rw [m_X7_takesSpan, wd_ck w72 (by decide), gi_7_15 w72, d1, Option.bind_some, if_neg (show ¬ nI 3 = 1 by decide), Option.bind_some, if_neg (show ¬ nI 3 = 2 by decide), Option.bind_some, if_pos (show nI 3 = 3 from rfl), gi_7_19 w72, d2 (by omega) (by omega), Option.bind_some, wi_, Option.bind_some, nI_1]
    unfold tk_
    simp only [show ¬ (3 : Nat) = 0 by decide, show ¬ (3 : Nat) = 1 by decide, show ¬ (3 : Nat) = 2 by decide, if_false, if_true]
    cases hd : dg_ c with
    | none =>
      rw [show (if c - 48 < nI (lo + 1) then (0 : Int32) else if 9 < c - 48 then 0 else 1) = 0 from wd_n (lo := lo + 1) (hi := 9) hd (by omega) (by omega)]
      exact sp_no
    | some d =>
      obtain ⟨-, -, d9, ed⟩ := dg_s hd
      rw [ed, show (if nI d < nI (lo + 1) then (0 : Int32) else if 9 < nI d then 0 else 1) = if lo + 1 ≤ d ∧ d ≤ 9 then 1 else 0 from wd_s (lo := lo + 1) (hi := 9) d9 (by omega) (by omega), Option.elim_some]
      by_cases hl : lo < d
      · rw [if_pos (show lo + 1 ≤ d ∧ d ≤ 9 by omega), if_pos hl]
        exact sp_yes (st := 3) hB d1 (by omega) (by omega) (by rw [if_neg (show ¬ vi 72 15 = 1 by rw [d1]; decide)]; exact d2 (by omega) (by omega)) (fun _ => rfl)
      · rw [if_neg (show ¬ (lo + 1 ≤ d ∧ d ≤ 9) by omega), if_neg hl]
        exact sp_no
  · rw [if_neg (show ¬ nI 4 = 0 by decide), if_neg (show ¬ (5 : Int32) ≤ nI 4 by decide)]
    refine RM_b ?_
    have hop : op = 0 := v4 (by omega)
    subst hop
    rw [m_X7_takesSpan, wd_ck w72 (by decide), gi_7_15 w72, d1, Option.bind_some, if_neg (show ¬ nI 4 = 1 by decide), Option.bind_some, if_neg (show ¬ nI 4 = 2 by decide), Option.bind_some, if_neg (show ¬ nI 4 = 3 by decide)]
    unfold tk_
    simp only [show ¬ (4 : Nat) = 0 by decide, show ¬ (4 : Nat) = 1 by decide, show ¬ (4 : Nat) = 2 by decide, show ¬ (4 : Nat) = 3 by decide, if_false, if_true]
    by_cases h : c = 93
    · have h9 := v9 rfl
      rw [if_pos h, if_pos h]
      unfold b_X7_takesSpan_79
      rw [if_neg (show ¬ (1 : Int32) = 0 by decide), gi_7_15 w72, d1, Option.bind_some, if_pos (show nI 4 = 4 from rfl), gi_7_21 w72, d3 rfl, Option.bind_some, gi_7_19 w72, d2 (by omega) (by omega), Option.bind_some]
      exact RM_b (mp_pl hB (v5 (by omega) (by omega)) ((mk_lh hi (by omega) lo (by omega)).resolve_right (by omega)))
    · rw [if_neg h, if_neg h]
      exact sp_no
  · rw [if_neg (show ¬ nI 5 = 0 by decide), if_pos (show (5 : Int32) ≤ nI 5 by decide), if_pos (show nI 5 = 5 from rfl), pi_7_15 w72, Option.bind_some]
    unfold tk_
    simp only [show ¬ (5 : Nat) = 0 by decide, show ¬ (5 : Nat) = 1 by decide, show ¬ (5 : Nat) = 2 by decide, show ¬ (5 : Nat) = 3 by decide, show ¬ (5 : Nat) = 4 by decide, if_false, if_true]
    by_cases h : c = 61
    · rw [if_pos h, if_pos h]
      refine ⟨_, ar, rfl, fun a h => up2_k h, fun b h => up2_n (by omega), fun _ _ _ => rfl, fun s' h => ?_⟩
      cases h
      exact ⟨hB.fr (up2_n (by omega)) (up2_n (by omega)) (up2_n (by omega)), up2_s, by omega, by omega, by omega, by omega⟩
    · rw [if_neg h, if_neg h]
      exact ⟨_, ar, rfl, fun a h => up2_k h, fun b h => up2_n (by omega), fun _ _ _ => rfl, fun s' h => by cases h⟩
  · rw [if_neg (show ¬ nI 6 = 0 by decide), if_pos (show (5 : Int32) ≤ nI 6 by decide), if_neg (show ¬ nI 6 = 5 by decide), if_pos (show nI 6 = 6 from rfl)]
    refine RM_b ?_
    rw [mp_w]
    unfold tk_
    simp only [show ¬ (6 : Nat) = 0 by decide, show ¬ (6 : Nat) = 1 by decide, show ¬ (6 : Nat) = 2 by decide, show ¬ (6 : Nat) = 3 by decide, show ¬ (6 : Nat) = 4 by decide, show ¬ (6 : Nat) = 5 by decide, if_false, if_true]
    cases hw : way_ c with
    | none => exact ⟨_, ar, rfl, fun a h => by rw [up2_k h, up2_k h], fun b h => by rw [up2_n (by omega), up2_n (by omega)], fun _ _ _ => rfl, fun s' h => by cases h⟩
    | some x =>
      have := way_s hw
      rw [if_neg (show ¬ (some x).elim (-1) nI = -1 from wo_ne (by omega))]
      refine ⟨_, ar, rfl, fun a h => by rw [up2_k h, up2_k h], fun b h => by rw [up2_n (by omega), up2_n (by omega)], fun _ _ _ => rfl, fun s' h => ?_⟩
      cases h
      exact ⟨hB.fr (by rw [up2_n (by omega), up2_n (by omega)]) (by rw [up2_n (by omega), up2_n (by omega)]) (by rw [up2_n (by omega), up2_n (by omega)]), up2_s, by omega, by omega, fun _ => by rw [up2_n (by omega), up2_s]; rfl, by omega⟩
  · rw [if_neg (show ¬ nI 7 = 0 by decide), if_pos (show (5 : Int32) ≤ nI 7 by decide), if_neg (show ¬ nI 7 = 5 by decide), if_neg (show ¬ nI 7 = 6 by decide), if_pos (show nI 7 = 7 from rfl), pi_7_15 w72, Option.bind_some]
    unfold tk_
    simp only [show ¬ (7 : Nat) = 0 by decide, show ¬ (7 : Nat) = 1 by decide, show ¬ (7 : Nat) = 2 by decide, show ¬ (7 : Nat) = 3 by decide, show ¬ (7 : Nat) = 4 by decide, show ¬ (7 : Nat) = 5 by decide, show ¬ (7 : Nat) = 6 by decide, if_false, if_true]
    by_cases h : c = 58
    · rw [if_pos h, if_pos h]
      refine ⟨_, ar, rfl, fun a h => up2_k h, fun b h => up2_n (by omega), fun _ _ _ => rfl, fun s' h => ?_⟩
      cases h
      exact ⟨hB.fr (up2_n (by omega)) (up2_n (by omega)) (up2_n (by omega)), up2_s, by omega, by omega, fun _ => by rw [up2_n (by omega)]; exact d4 (by omega), by omega⟩
    · rw [if_neg h, if_neg h]
      exact ⟨_, ar, rfl, fun a h => up2_k h, fun b h => up2_n (by omega), fun _ _ _ => rfl, fun s' h => by cases h⟩
  · rw [if_neg (show ¬ nI 8 = 0 by decide), if_pos (show (5 : Int32) ≤ nI 8 by decide), if_neg (show ¬ nI 8 = 5 by decide), if_neg (show ¬ nI 8 = 6 by decide), if_neg (show ¬ nI 8 = 7 by decide), if_pos (show nI 8 = 8 from rfl)]
    refine RM_b ?_
    rw [m_X7_takesDrop, wd_ck w72 (by decide), pi_7_21 w72, Option.bind_some, pi_7_15 w72, Option.bind_some, gi_7_16 w72, up2_n (by omega), up2_n (by omega), hB.1, Option.bind_some, wi_, Option.bind_some]
    unfold tk_
    simp only [show ¬ (8 : Nat) = 0 by decide, show ¬ (8 : Nat) = 1 by decide, show ¬ (8 : Nat) = 2 by decide, show ¬ (8 : Nat) = 3 by decide, show ¬ (8 : Nat) = 4 by decide, show ¬ (8 : Nat) = 5 by decide, show ¬ (8 : Nat) = 6 by decide, show ¬ (8 : Nat) = 7 by decide, if_false, if_true]
    have no : ∀ {R : Option (dp_H × Int32)}, R = some (wd_h (up2 (up2 vi 72 21 (c - 48)) 72 15 9) ar pr hh, 0) → RM_ vi ar pr hh R none := fun e => ⟨_, ar, e, fun a h => by rw [up2_k h, up2_k h], fun b h => by rw [up2_n (by omega), up2_n (by omega)], fun _ _ _ => rfl, fun s' h => by cases h⟩
    cases hd : dg_ c with
    | none =>
      rw [show (if c - 48 < 0 then (0 : Int32) else if nI pl < c - 48 then 0 else 1) = 0 from wd_n (lo := 0) (hi := pl) hd (by omega) (by omega), dp_b, if_pos (Or.inl rfl)]
      exact no rfl
    | some d =>
      obtain ⟨-, -, d9, ed⟩ := dg_s hd
      rw [ed] at no ⊢
      rw [show (if nI d < 0 then (0 : Int32) else if nI pl < nI d then 0 else 1) = if 0 ≤ d ∧ d ≤ pl then 1 else 0 from wd_s (lo := 0) (hi := pl) d9 (by omega) (by omega), Option.elim_some]
      by_cases hl : d ≤ pl
      · rw [if_pos (show 0 ≤ d ∧ d ≤ pl by omega), if_pos hl, dp_b, if_pos (Or.inr rfl)]
        refine ⟨_, ar, rfl, fun a h => by rw [up2_k h, up2_k h], fun b h => by rw [up2_n (by omega), up2_n (by omega)], fun _ _ _ => rfl, fun s' h => ?_⟩
        cases h
        exact ⟨hB.fr (by rw [up2_n (by omega), up2_n (by omega)]) (by rw [up2_n (by omega), up2_n (by omega)]) (by rw [up2_n (by omega), up2_n (by omega)]), up2_s, by omega, by omega, fun _ => by rw [up2_n (by omega), up2_n (by omega)]; exact d4 (by omega), fun _ => by rw [up2_n (by omega), up2_s]⟩
      · rw [if_neg (show ¬ (0 ≤ d ∧ d ≤ pl) by omega), if_neg hl, dp_b, if_pos (Or.inl rfl)]
        exact no rfl
  · rw [if_neg (show ¬ nI 9 = 0 by decide), if_pos (show (5 : Int32) ≤ nI 9 by decide), if_neg (show ¬ nI 9 = 5 by decide), if_neg (show ¬ nI 9 = 6 by decide), if_neg (show ¬ nI 9 = 7 by decide), if_neg (show ¬ nI 9 = 8 by decide)]
    refine RM_b ?_
    have no : RM_ vi ar pr hh (b_X7_takesAhead_23 (wd_h vi ar pr hh) 72 (c - 48) 0) none := by
      unfold b_X7_takesAhead_23
      rw [if_pos rfl, dp_b, if_pos (Or.inl rfl)]
      exact RM_n rfl
    rw [m_X7_takesAhead, wd_ck w72 (by decide), wi_, Option.bind_some]
    unfold tk_
    simp only [show ¬ (9 : Nat) = 0 by decide, show ¬ (9 : Nat) = 1 by decide, show ¬ (9 : Nat) = 2 by decide, show ¬ (9 : Nat) = 3 by decide, show ¬ (9 : Nat) = 4 by decide, show ¬ (9 : Nat) = 5 by decide, show ¬ (9 : Nat) = 6 by decide, show ¬ (9 : Nat) = 7 by decide, show ¬ (9 : Nat) = 8 by decide, if_false]
    cases hd : dg_ c with
    | none =>
      rw [show (if c - 48 < 0 then (0 : Int32) else if 9 < c - 48 then 0 else 1) = 0 from wd_n (lo := 0) (hi := 9) hd (by omega) (by omega), if_pos rfl]
      exact no
    | some d =>
      obtain ⟨-, -, d9, ed⟩ := dg_s hd
      rw [ed] at no ⊢
      rw [show (if nI d < 0 then (0 : Int32) else if 9 < nI d then 0 else 1) = if 0 ≤ d ∧ d ≤ 9 then 1 else 0 from wd_s (lo := 0) (hi := 9) d9 (by omega) (by omega), if_pos (show 0 ≤ d ∧ d ≤ 9 by omega), if_neg (show ¬ (1 : Int32) = 0 by decide), gi_7_22 w72, hB.2.2.2.1, Option.bind_some, Option.elim_some]
      by_cases hl : an < 4
      · rw [if_neg (show ¬ (4 : Int32) ≤ nI an from nI_ge (a := an) (b := 4) hl (by omega)), if_pos hl]
        unfold b_X7_takesAhead_23
        rw [if_neg (show ¬ (1 : Int32) = 0 by decide), gr_7_23 w72, Option.bind_some, gi_7_22 w72, hB.2.2.2.1, Option.bind_some, wd_si (by decide) (by decide) (show an < 4 from hl), Option.bind_some, gi_7_22 w72, hB.2.2.2.1, Option.bind_some, pi_7_22 w72, Option.bind_some, dp_b, if_pos (Or.inr rfl), nI_1]
        refine ⟨_, _, rfl, fun a h => up2_k h, fun b h => up2_n (by omega), fun a h1 h2 => up2_k h2, fun s' h => ?_⟩
        cases h
        refine ⟨⟨by rw [up2_n (by omega)]; exact hB.1, by rw [up2_n (by omega)]; exact hB.2.1, fun k hk => by rw [up2_n (by omega)]; exact hB.2.2.1 k hk, up2_s, fun k hk => ?_⟩, by rw [up2_n (by omega)]; exact d1, by omega, by omega, fun _ => by rw [up2_n (by omega)]; exact d4 (by omega), fun _ => by rw [up2_n (by omega)]; exact d5 rfl⟩
        unfold va_up
        by_cases e : k = an
        · rw [if_pos e, e]; exact up2_s
        · rw [if_neg e, up2_n (by omega)]; exact hB.2.2.2.2 k (by omega)
      · rw [if_pos (show (4 : Int32) ≤ nI an from nI_le (a := 4) (b := an) (by omega) (by omega)), if_neg hl]
        exact no
theorem ms_l {cs : Nat → Int32} {n : Nat} (hn : n ≤ 52) : ∀ (r i : Nat) (s : ps_) (vi ar : Nat → Nat → Int32) (f : Nat), i + r = n → r < f → V_ s → MS_ vi ar s → vi 72 0 = nI n → (∀ k, k < n → ar 73 k = cs k) → ∃ vi' ar', m_X7_goAlong_22 f (wd_h vi ar pr hh) 72 (nI i) = some (wd_h vi' ar' pr hh, nI (sc_ cs r i s).1) ∧ (∀ a, a ≠ 72 → vi' a = vi a) ∧ (∀ b, b < 15 ∨ 22 < b → vi' 72 b = vi 72 b) ∧ (∀ a, a ≠ 82 → a ≠ 83 → ar' a = ar a) ∧ ∀ s', (sc_ cs r i s).2 = some s' → MS_ vi' ar' s' := by
  intro r
  induction r with
  | zero =>
    intro i s vi ar f hi hf hV hC h1 h2
    obtain ⟨f, rfl⟩ : ∃ g, f = g + 1 := ⟨f - 1, by omega⟩
    refine ⟨vi, ar, ?_, fun _ _ => rfl, fun _ _ => rfl, fun _ _ _ => rfl, fun s' e => by cases e; exact hC⟩
    show b_X7_goAlong_22 _ _ _ _ = _
    unfold b_X7_goAlong_22
    rw [gi_7_0 w72, h1, Option.bind_some, if_pos (nI_le (by omega) (by omega))]
    rfl
  | succ r ih =>
    intro i s vi ar f hi hf hV hC h1 h2
    obtain ⟨f, rfl⟩ : ∃ g, f = g + 1 := ⟨f - 1, by omega⟩
    obtain ⟨v1, a1, e1, e2, e3, e4, e5⟩ := mp_ (pr := pr) (hh := hh) (c := cs i) hV hC
    have hb : m_X7_goAlong_22 (f + 1) (wd_h vi ar pr hh) 72 (nI i) = if (if (tk_ s (cs i)).isSome = true then (1 : Int32) else 0) = 0 then some (wd_h v1 a1 pr hh, nI i) else m_X7_goAlong_22 f (wd_h v1 a1 pr hh) 72 (nI (i + 1)) := by
      show b_X7_goAlong_22 _ _ _ _ = _
      unfold b_X7_goAlong_22
      rw [gi_7_0 w72, h1, Option.bind_some, if_neg (nI_ge (by omega) (by omega)), gr_7_1 w72, Option.bind_some, wd_ai (by decide) (by decide) (show i < 52 by omega), Option.bind_some, h2 i (by omega), e1, dp_b2_s, nI_1]
    rw [hb]
    unfold sc_
    cases ht : tk_ s (cs i) with
    | none => exact ⟨v1, a1, by rw [if_pos (show (if (none : Option ps_).isSome = true then (1 : Int32) else 0) = 0 from rfl)]; rfl, e2, e3, e4, fun s' e => by cases e⟩
    | some s2 =>
      rw [if_neg (show ¬ (if (some s2 : Option ps_).isSome = true then (1 : Int32) else 0) = 0 by rw [Option.isSome_some, if_pos rfl]; decide)]
      obtain ⟨v2, a2, g1, g2, g3, g4, g5⟩ := ih (i + 1) s2 v1 a1 f (by omega) (by omega) (V_tk hV ht) (e5 s2 ht) (by rw [e3 0 (by omega)]; exact h1) (fun k hk => by rw [e4 73 (by decide) (by decide)]; exact h2 k hk)
      exact ⟨v2, a2, g1, fun a q => (g2 a q).trans (e2 a q), fun b q => (g3 b q).trans (e3 b q), fun a q1 q2 => (g4 a q1 q2).trans (e4 a q1 q2), g5⟩
theorem ms_ {cs : Nat → Int32} {n : Nat} (hn : n ≤ 52) (h1 : vi 72 0 = nI n) (h2 : ∀ k, k < n → ar 73 k = cs k) : ∃ vi' ar', m_X7_goAlong (wd_h vi ar pr hh) 72 = some (wd_h vi' ar' pr hh, nI (sc_ cs n 0 s0_).1) ∧ (∀ a, a ≠ 72 → vi' a = vi a) ∧ (∀ b, b < 15 ∨ 22 < b → vi' 72 b = vi 72 b) ∧ (∀ a, a ≠ 82 → a ≠ 83 → ar' a = ar a) ∧ ∀ s', (sc_ cs n 0 s0_).2 = some s' → MS_ vi' ar' s' := by
  rw [m_X7_goAlong, wd_ck w72 (by decide), pi_7_15 w72, Option.bind_some, pi_7_16 w72, Option.bind_some, pi_7_17 w72, Option.bind_some, pi_7_22 w72, Option.bind_some]
  obtain ⟨v2, a2, g1, g2, g3, g4, g5⟩ := ms_l (pr := pr) (hh := hh) (cs := cs) hn n 0 s0_ (up2 (up2 (up2 (up2 vi 72 15 0) 72 16 0) 72 17 0) 72 22 0) ar 64 (by omega) (by omega) V_0 ⟨⟨by rw [up2_n (by omega), up2_n (by omega), up2_s]; rfl, by rw [up2_n (by omega), up2_s]; rfl, fun k h => absurd h (Nat.not_lt_zero k), up2_s, fun k h => absurd h (Nat.not_lt_zero k)⟩, by rw [up2_n (by omega), up2_n (by omega), up2_n (by omega), up2_s]; rfl, fun h => absurd h (by decide), fun h => absurd h (by decide), fun h => absurd h (by decide), fun h => absurd h (by decide)⟩ (by rw [up2_n (by omega), up2_n (by omega), up2_n (by omega), up2_n (by omega)]; exact h1) h2
  exact ⟨v2, a2, g1, fun a q => by rw [g2 a q, up2_k q, up2_k q, up2_k q, up2_k q], fun b q => by rw [g3 b q, up2_n (by omega), up2_n (by omega), up2_n (by omega), up2_n (by omega)], g4, g5⟩
end MP
