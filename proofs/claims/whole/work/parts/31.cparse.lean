/-! the class reads a text -/
section CP
variable {vi ar : Nat → Nat → Int32} {pr : Nat → Nat} {hh : Int64}
def RC_ (vi ar : Nat → Nat → Int32) (pr : Nat → Nat) (hh : Int64) (R : Option (dp_H × Int32)) (o : Option ps_) : Prop := ∃ vi' ar', R = some (wd_h vi' ar' pr hh, if o.isSome = true then 1 else 0) ∧ (∀ a, a ≠ 3 → a ≠ 4 → a ≠ 7 → vi' a = vi a) ∧ (∀ a, a ≠ 5 → a ≠ 6 → a ≠ 8 → ar' a = ar a) ∧ ∀ s', o = some s' → CS_ vi' ar' s'
theorem RC_b {R : Option (dp_H × Int32)} {o : Option ps_} (h : RC_ vi ar pr hh R o) : RC_ vi ar pr hh (dp_b2 R fun h v => dp_b v (some (h, v))) o := by
  obtain ⟨v2, a2, e, r⟩ := h
  refine ⟨v2, a2, ?_, r⟩
  rw [e, dp_b2_s, dp_b]
  cases o <;> rfl
theorem RC_n {R : Option (dp_H × Int32)} (h : R = some (wd_h vi ar pr hh, 0)) : RC_ vi ar pr hh R none := ⟨vi, ar, h, fun _ _ _ _ => rfl, fun _ _ _ _ => rfl, fun s' h => by cases h⟩
theorem B_.fr {vi' : Nat → Nat → Int32} {pl op an : Nat} {lh : Nat → Nat × Nat} {af : Nat → Nat} (h : B_ vi ar pl lh op an af) (h1 : vi' 4 3 = vi 4 3) (h2 : vi' 4 4 = vi 4 4) (h3 : vi' 7 1 = vi 7 1) : B_ vi' ar pl lh op an af := ⟨h1.trans h.1, h2.trans h.2.1, h.2.2.1, h.2.2.2.1, h3.trans h.2.2.2.2.1, h.2.2.2.2.2⟩
theorem B_.pl {pl an lo hi : Nat} {lh : Nat → Nat × Nat} {af : Nat → Nat} (h : B_ vi ar pl lh 0 an af) : B_ (up2 vi 4 3 (nI (pl + 1))) (up2 (up2 ar 5 pl (mk_ lo hi)) 6 pl (nI (hi - lo + 1))) (pl + 1) (va_up lh pl (lo, hi)) 0 an af := by
  refine ⟨up2_s, by rw [up2_n (by omega)]; exact h.2.1, fun k hk => ?_, fun k h1 h2 => ?_, by rw [up2_n (by omega)]; exact h.2.2.2.2.1, fun k hk => by rw [up2_n (by omega), up2_n (by omega)]; exact h.2.2.2.2.2 k hk⟩
  · unfold va_up
    by_cases e : k = pl
    · rw [if_pos e, e, up2_n (by omega), up2_s, up2_s]
      exact ⟨rfl, rfl⟩
    · rw [if_neg e, up2_n (by omega), up2_n (by omega), up2_n (by omega), up2_n (by omega)]
      exact h.2.2.1 k (by omega)
  · rw [up2_n (by omega), up2_n (by omega), up2_n (by omega), up2_n (by omega)]
    exact h.2.2.2.1 k (by omega) h2
theorem t3_ : wd_k 3 = 2 := rfl
/-- one place more -/
theorem cp_pl {pl an lo hi : Nat} {lh : Nat → Nat × Nat} {af : Nat → Nat} {l2 h2 w2 d2 : Nat} {x y : Int32} (hB : B_ vi ar pl lh 0 an af) (h8 : pl < 8) (h9 : hi < 10) (hlo : lo ≤ hi) (hx : x = nI lo) (hy : y = nI hi) (h31 : vi 3 1 = nI 0) : RC_ vi ar pr hh ((dp_gr (wd_h vi ar pr hh) 3 2 0).bind fun v => (m_X1_appendPlace (wd_h vi ar pr hh) v x y).bind fun h => some (h, 1)) (some (0, pl + 1, va_up lh pl (lo, hi), 0, l2, h2, w2, d2, an, af)) := by
  rw [gr_2_0 t3_, Option.bind_some, hx, hy, pt_place Pa_4 hB.1 h8 h9 hlo, Option.bind_some]
  refine ⟨_, _, rfl, fun a h1 h2 h3 => by rw [up2_k h2], fun a h1 h2 h3 => by rw [up2_k h2, up2_k h1], fun s' h => ?_⟩
  cases h
  exact ⟨hB.pl, by rw [up2_n (by omega)]; exact h31, by omega, by omega, by omega, by omega⟩
/-- nothing but the step, and what stands in the text's own cells -/
theorem cp_0 {pl op lo hi w dr an : Nat} {lh : Nat → Nat × Nat} {af : Nat → Nat} {c : Int32} (hV : V_ (0, pl, lh, op, lo, hi, w, dr, an, af)) (hB : B_ vi ar pl lh op an af) (h31 : vi 3 1 = nI 0) : RC_ vi ar pr hh (m_X2_takePlaceOrTail (wd_h vi ar pr hh) 3 c) (tk_ (0, pl, lh, op, lo, hi, w, dr, an, af) c) := by
  obtain ⟨v1, v2, v3, v4, v5, v6, v7, v8, v9, v10, v11, v12, v13⟩ := hV
  have hop : op = 0 := v4 (by omega)
  subst hop
  have e54 : RC_ vi ar pr hh (b_X2_takePlaceOrTail_54 (wd_h vi ar pr hh) 3 c) (if pl = 8 then none else if c = 91 then some (1, pl, lh, 0, lo, hi, w, dr, an, af) else if c = 78 then some (0, pl + 1, va_up lh pl (2, 9), 0, lo, hi, w, dr, an, af) else if c = 88 then some (0, pl + 1, va_up lh pl (0, 9), 0, lo, hi, w, dr, an, af) else (dg_ c).elim none (fun d => some (0, pl + 1, va_up lh pl (d, d), 0, lo, hi, w, dr, an, af))) := by
    unfold b_X2_takePlaceOrTail_54
    rw [gr_2_0 t3_, Option.bind_some, pt_room Pa_4 hB.1 v2, Option.bind_some]
    by_cases h3 : pl = 8
    · rw [if_neg (show ¬ pl < 8 by omega), if_pos rfl, if_pos h3]
      exact RC_n rfl
    · rw [if_pos (show pl < 8 by omega), if_neg (show ¬ (1 : Int32) = 0 by decide), if_neg h3]
      have wrap : ∀ {R : Option (dp_H × Int32)} {o : Option ps_}, RC_ vi ar pr hh R o → RC_ vi ar pr hh (dp_b2 R fun h3 v4 => if v4 = 0 then some (h3, 0) else some (h3, 1)) o := by
        intro R o h
        obtain ⟨v2, a2, e, r⟩ := h
        refine ⟨v2, a2, ?_, r⟩
        rw [e, dp_b2_s]
        cases o <;> rfl
      refine wrap ?_
      rw [m_X2_takePlace, wd_ck t3_ (by decide)]
      by_cases h4 : c = 91
      · rw [if_pos h4, if_pos h4, pi_2_1 t3_, Option.bind_some]
        refine ⟨_, ar, rfl, fun a h1 h2 h3 => up2_k h1, fun _ _ _ _ => rfl, fun s' h => ?_⟩
        cases h
        exact ⟨hB.fr (up2_n (by omega)) (up2_n (by omega)) (up2_n (by omega)), up2_s, by omega, by omega, by omega, by omega⟩
      · rw [if_neg h4, if_neg h4]
        by_cases h5 : c = 78
        · rw [if_pos h5, if_pos h5]
          exact cp_pl hB (by omega) (by omega) (by omega) rfl rfl h31
        · rw [if_neg h5, if_neg h5]
          by_cases h6 : c = 88
          · rw [if_pos h6, if_pos h6]
            exact cp_pl hB (by omega) (by omega) (by omega) rfl rfl h31
          · rw [if_neg h6, if_neg h6, fg_, Option.bind_some]
            cases hd : dg_ c with
            | none => rw [if_pos (show (if (none : Option Nat).isSome = true then (1 : Int32) else 0) = 0 from rfl)]; exact RC_n rfl
            | some d =>
              obtain ⟨-, -, d9, ed⟩ := dg_s hd
              simp only [Option.isSome_some, if_true, Option.elim_some]
              rw [if_neg (show ¬ (1 : Int32) = 0 by decide)]
              exact cp_pl hB (by omega) (by omega) (by omega) ed ed h31
  rw [m_X2_takePlaceOrTail, wd_ck t3_ (by decide), gr_2_0 t3_, Option.bind_some, pt_places Pa_4, hB.1, Option.bind_some, Option.bind_some, Option.bind_some]
  unfold tk_
  dsimp only
  rw [if_pos rfl]
  by_cases h0 : 0 < pl
  · have hle : ¬ nI pl ≤ 0 := nI_nle h0 (by omega)
    rw [if_neg hle, pt_places Pa_4, hB.1, Option.bind_some, if_neg hle]
    by_cases h1 : c = 46
    · rw [if_pos h1, if_pos (show c = 46 ∧ 0 < pl from ⟨h1, h0⟩)]
      obtain ⟨a2, e1, e2, e3, e4⟩ := pt_mkopen (ar := ar) (pr := pr) (hh := hh) Pa_4 hB.1 v2
      rw [show (3 + 1 : Nat) = 4 from rfl, e1, Option.bind_some, pi_2_1 t3_, Option.bind_some]
      refine ⟨_, a2, rfl, fun a h1 h2 h3 => by rw [up2_k h1, up2_k h2], fun a h1 h2 h3 => e2 a h1 h2, fun s' h => ?_⟩
      cases h
      refine ⟨⟨by rw [up2_n (by omega), up2_n (by omega)]; exact hB.1, by rw [up2_n (by omega), up2_s]; rfl, fun k hk => ?_, fun k k1 k2 => ?_, by rw [up2_n (by omega), up2_n (by omega)]; exact hB.2.2.2.2.1, fun k hk => by rw [e2 8 (by decide) (by decide)]; exact hB.2.2.2.2.2 k hk⟩, up2_s, by omega, by omega, by omega, by omega⟩
      · rw [show a2 5 k = a2 (4 + 1) k from rfl, show a2 6 k = a2 (4 + 2) k from rfl, (e3 k hk).1, (e3 k hk).2]
        exact hB.2.2.1 k hk
      · exact e4 k k1 k2
    · rw [if_neg h1, if_neg (show ¬ (c = 46 ∧ 0 < pl) from fun z => h1 z.1)]
      by_cases h2 : c = 61
      · rw [if_pos h2, if_pos (show c = 61 ∧ 0 < pl from ⟨h2, h0⟩), pi_2_1 t3_, Option.bind_some]
        refine ⟨_, ar, rfl, fun a h1 h2 h3 => up2_k h1, fun _ _ _ _ => rfl, fun s' h => ?_⟩
        cases h
        exact ⟨hB.fr (up2_n (by omega)) (up2_n (by omega)) (up2_n (by omega)), up2_s, by omega, by omega, by omega, by omega⟩
      · rw [if_neg h2, if_neg (show ¬ (c = 61 ∧ 0 < pl) from fun z => h2 z.1)]
        exact e54
  · have hle : nI pl ≤ 0 := by show nI pl ≤ nI 0; exact nI_le (by omega) (by omega)
    rw [if_pos hle, pt_places Pa_4, hB.1, Option.bind_some, if_pos hle, if_neg (show ¬ (c = 46 ∧ 0 < pl) from fun z => h0 z.2), if_neg (show ¬ (c = 61 ∧ 0 < pl) from fun z => h0 z.2)]
    exact e54
theorem cp_sg {pl op lo hi w dr an st : Nat} {lh : Nat → Nat × Nat} {af : Nat → Nat} {c x y : Int32} {o : Option ps_} (hB : B_ vi ar pl lh op an af) (ho : o = if c = x then some (st, pl, lh, op, lo, hi, w, dr, an, af) else none) (hy : y = nI st) (hD : D_ (up2 vi 3 1 (nI st)) st lo hi w dr) : RC_ vi ar pr hh (m_X2_takeSign (wd_h vi ar pr hh) 3 c x y) o := by
  subst ho
  rw [m_X2_takeSign, wd_ck t3_ (by decide)]
  by_cases h : c = x
  · rw [if_pos h, if_pos h, pi_2_1 t3_, Option.bind_some, hy]
    refine ⟨_, ar, rfl, fun a h1 h2 h3 => up2_k h1, fun _ _ _ _ => rfl, fun s' h => ?_⟩
    cases h
    exact ⟨hB.fr (up2_n (by omega)) (up2_n (by omega)) (up2_n (by omega)), hD⟩
  · rw [if_neg h, if_neg h]
    exact RC_n rfl
theorem wy_ {h : dp_H} {c : Int32} : m_X2_wayOf h c = some ((way_ c).elim (-1) nI) := by
  unfold m_X2_wayOf way_
  have key : (if c = 33 then some (9 : Int32) else if c = 42 then some 10 else if c = 45 then some 8 else some (-1)) = some ((if c = 33 then some 9 else if c = 42 then some 10 else if c = 45 then some 8 else none : Option Nat).elim (-1) nI) := by
    split
    · rfl
    · split
      · rfl
      · split <;> rfl
  by_cases h1 : c < 97
  · rw [if_pos h1, if_pos h1, key]
  · rw [if_neg h1, if_neg h1]
    by_cases h2 : 104 < c
    · rw [if_pos h2, if_pos h2, key]
    · rw [if_neg h2, if_neg h2]
      have h0 : ¬ c < 0 := fun z => h1 (Int32.lt_trans z (by decide))
      obtain ⟨j, hj, e⟩ := nI_of2 (M := 104) (n := 104) (by decide) h0 (Int32.not_lt.mp h2)
      subst e
      have hj2 : 97 ≤ j := by
        rcases Nat.lt_or_ge j 97 with z | z
        · exact absurd ((nI_ltI (by omega) (by omega)).mpr z) h1
        · exact z
      rw [show (97 : Int32) = nI 97 from rfl, pk_sub hj2, nI_clamp (by omega)]
      rfl
theorem cp_ {s : ps_} {c : Int32} (hV : V_ s) (hC : CS_ vi ar s) : RC_ vi ar pr hh (m_X2_take (wd_h vi ar pr hh) 3 c) (tk_ s c) := by
  obtain ⟨st, pl, lh, op, lo, hi, w, dr, an, af⟩ := s
  obtain ⟨hB, d1, d2, d3, d4, d5⟩ := hC
  have hV0 := hV
  obtain ⟨v1, v2, v3, v4, v5, v6, v7, v8, v9, v10, v11, v12, v13⟩ := hV
  rw [m_X2_take, wd_ck t3_ (by decide), gi_2_1 t3_, d1, Option.bind_some]
  have ne : ∀ {x : Int32} {k : Nat}, x = nI k → k < 100 → st ≠ k → ¬ nI st = x := fun hx hk h z => by
    rw [hx, nI_eq (by omega) (by omega)] at z
    exact h z
  have c10 : st = 0 ∨ st = 1 ∨ st = 2 ∨ st = 3 ∨ st = 4 ∨ st = 5 ∨ st = 6 ∨ st = 7 ∨ st = 8 ∨ st = 9 := by omega
  rcases c10 with rfl | rfl | rfl | rfl | rfl | rfl | rfl | rfl | rfl | rfl
  · rw [if_pos (show nI 0 = 0 from rfl)]
    exact RC_b (cp_0 hV0 hB d1)
  · rw [if_neg (show ¬ nI 1 = 0 by decide), if_pos (show nI 1 = 1 from rfl)]
    refine RC_b ?_
    rw [m_X2_takeLow, wd_ck t3_ (by decide), fg_, Option.bind_some]
    unfold tk_
    simp only [show ¬ (1 : Nat) = 0 by decide, if_false, if_true]
    cases hd : dg_ c with
    | none => rw [if_pos (show (if (none : Option Nat).isSome = true then (1 : Int32) else 0) = 0 from rfl)]; exact RC_n rfl
    | some d =>
      obtain ⟨-, -, d9, ed⟩ := dg_s hd
      simp only [Option.isSome_some, if_true, Option.elim_some]
      rw [if_neg (show ¬ (1 : Int32) = 0 by decide)]
      have hc : c = 57 ↔ d = 9 := by
        have : c = nI (d + 48) := by rw [← nI_add, ← ed, show nI 48 = (48 : Int32) from rfl]; grind
        rw [this, show (57 : Int32) = nI 57 from rfl, nI_eq (by omega) (by omega)]
        omega
      by_cases h9 : d = 9
      · rw [if_pos (hc.mpr h9), if_neg (by omega)]
        exact RC_n rfl
      · rw [if_neg (fun z => h9 (hc.mp z)), if_pos (by omega), ed, pi_2_2 t3_, Option.bind_some, pi_2_1 t3_, Option.bind_some]
        refine ⟨_, ar, rfl, fun a h1 h2 h3 => by rw [up2_k h1, up2_k h1], fun _ _ _ _ => rfl, fun s' h => ?_⟩
        cases h
        exact ⟨hB.fr (by rw [up2_n (by omega), up2_n (by omega)]) (by rw [up2_n (by omega), up2_n (by omega)]) (by rw [up2_n (by omega), up2_n (by omega)]), up2_s, fun _ _ => by rw [up2_n (by omega), up2_s], by omega, by omega, by omega⟩
  · rw [if_neg (show ¬ nI 2 = 0 by decide), if_neg (show ¬ nI 2 = 1 by decide), if_pos (show nI 2 = 2 from rfl)]
    exact RC_b (cp_sg (st := 3) hB rfl rfl ⟨up2_s, fun _ _ => by rw [up2_n (by omega)]; exact d2 (by omega) (by omega), by omega, by omega, by omega⟩)
  · rw [if_neg (show ¬ nI 3 = 0 by decide), if_neg (show ¬ nI 3 = 1 by decide), if_neg (show ¬ nI 3 = 2 by decide), if_pos (show nI 3 = 3 from rfl)]
    refine RC_b ?_
    rw [m_X2_takeHigh, wd_ck t3_ (by decide), fg_, Option.bind_some]
    unfold tk_
    simp only [show ¬ (3 : Nat) = 0 by decide, show ¬ (3 : Nat) = 1 by decide, show ¬ (3 : Nat) = 2 by decide, if_false, if_true]
    cases hd : dg_ c with
    | none => rw [if_pos (show (if (none : Option Nat).isSome = true then (1 : Int32) else 0) = 0 from rfl)]; exact RC_n rfl
    | some d =>
      obtain ⟨-, -, d9, ed⟩ := dg_s hd
      have h8 := v8 (by omega) (by omega)
      simp only [Option.isSome_some, if_true, Option.elim_some]
      rw [if_neg (show ¬ (1 : Int32) = 0 by decide), gi_2_2 t3_, d2 (by omega) (by omega), Option.bind_some, ed]
      by_cases hl : lo < d
      · rw [if_pos ((nI_ltI (by omega) (by omega)).mpr hl), if_pos hl, pi_2_3 t3_, Option.bind_some, pi_2_1 t3_, Option.bind_some]
        refine ⟨_, ar, rfl, fun a h1 h2 h3 => by rw [up2_k h1, up2_k h1], fun _ _ _ _ => rfl, fun s' h => ?_⟩
        cases h
        exact ⟨hB.fr (by rw [up2_n (by omega), up2_n (by omega)]) (by rw [up2_n (by omega), up2_n (by omega)]) (by rw [up2_n (by omega), up2_n (by omega)]), up2_s, fun _ _ => by rw [up2_n (by omega), up2_n (by omega)]; exact d2 (by omega) (by omega), fun _ => by rw [up2_n (by omega), up2_s], by omega, by omega⟩
      · rw [if_neg (fun z => hl ((nI_ltI (by omega) (by omega)).mp z)), if_neg hl]
        exact RC_n rfl
  · rw [if_neg (show ¬ nI 4 = 0 by decide), if_neg (show ¬ nI 4 = 1 by decide), if_neg (show ¬ nI 4 = 2 by decide), if_neg (show ¬ nI 4 = 3 by decide), if_pos (show nI 4 = 4 from rfl)]
    refine RC_b ?_
    have hop : op = 0 := v4 (by omega)
    subst hop
    rw [m_X2_takeBracket, wd_ck t3_ (by decide)]
    unfold tk_
    simp only [show ¬ (4 : Nat) = 0 by decide, show ¬ (4 : Nat) = 1 by decide, show ¬ (4 : Nat) = 2 by decide, show ¬ (4 : Nat) = 3 by decide, if_false, if_true]
    by_cases h : c = 93
    · have h9 := v9 rfl
      rw [if_pos h, if_pos h, gr_2_0 t3_, Option.bind_some, gi_2_2 t3_, d2 (by omega) (by omega), Option.bind_some, gi_2_3 t3_, d3 rfl, Option.bind_some, pt_place Pa_4 hB.1 (v5 (by omega) (by omega)) (by omega) (by omega), Option.bind_some, pi_2_1 t3_, Option.bind_some]
      refine ⟨_, _, rfl, fun a h1 h2 h3 => by rw [up2_k h1, up2_k h2], fun a h1 h2 h3 => by rw [up2_k h2, up2_k h1], fun s' h => ?_⟩
      cases h
      exact ⟨hB.pl.fr (up2_n (by omega)) (up2_n (by omega)) (up2_n (by omega)), up2_s, by omega, by omega, by omega, by omega⟩
    · rw [if_neg h, if_neg h]
      exact RC_n rfl
  · rw [if_neg (show ¬ nI 5 = 0 by decide), if_neg (show ¬ nI 5 = 1 by decide), if_neg (show ¬ nI 5 = 2 by decide), if_neg (show ¬ nI 5 = 3 by decide), if_neg (show ¬ nI 5 = 4 by decide), if_pos (show nI 5 = 5 from rfl)]
    exact RC_b (cp_sg (st := 6) hB rfl rfl ⟨up2_s, by omega, by omega, by omega, by omega⟩)
  · rw [if_neg (show ¬ nI 6 = 0 by decide), if_neg (show ¬ nI 6 = 1 by decide), if_neg (show ¬ nI 6 = 2 by decide), if_neg (show ¬ nI 6 = 3 by decide), if_neg (show ¬ nI 6 = 4 by decide), if_neg (show ¬ nI 6 = 5 by decide), if_pos (show nI 6 = 6 from rfl)]
    refine RC_b ?_
    rw [m_X2_takeWay, wd_ck t3_ (by decide), wy_, Option.bind_some]
    unfold tk_
    simp only [show ¬ (6 : Nat) = 0 by decide, show ¬ (6 : Nat) = 1 by decide, show ¬ (6 : Nat) = 2 by decide, show ¬ (6 : Nat) = 3 by decide, show ¬ (6 : Nat) = 4 by decide, show ¬ (6 : Nat) = 5 by decide, if_false, if_true]
    cases hw : way_ c with
    | none => rw [if_pos (show (none : Option Nat).elim (-1) nI = -1 from rfl)]; exact RC_n rfl
    | some x =>
      have := way_s hw
      rw [if_neg (show ¬ (some x).elim (-1) nI = -1 from wo_ne (by omega)), gr_2_0 t3_, Option.bind_some, pt_setway Pa_4, Option.bind_some, pi_2_1 t3_, Option.bind_some]
      refine ⟨_, ar, rfl, fun a h1 h2 h3 => by rw [up2_k h1, up2_k h2], fun _ _ _ _ => rfl, fun s' h => ?_⟩
      cases h
      exact ⟨hB.fr (by rw [up2_n (by omega), up2_n (by omega)]) (by rw [up2_n (by omega), up2_n (by omega)]) (by rw [up2_n (by omega), up2_n (by omega)]), up2_s, by omega, by omega, fun _ => by rw [up2_n (by omega), up2_s]; rfl, by omega⟩
  · rw [if_neg (show ¬ nI 7 = 0 by decide), if_neg (show ¬ nI 7 = 1 by decide), if_neg (show ¬ nI 7 = 2 by decide), if_neg (show ¬ nI 7 = 3 by decide), if_neg (show ¬ nI 7 = 4 by decide), if_neg (show ¬ nI 7 = 5 by decide), if_neg (show ¬ nI 7 = 6 by decide), if_pos (show nI 7 = 7 from rfl)]
    exact RC_b (cp_sg (st := 8) hB rfl rfl ⟨up2_s, by omega, by omega, fun _ => by rw [up2_n (by omega)]; exact d4 (by omega), by omega⟩)
  · rw [if_neg (show ¬ nI 8 = 0 by decide), if_neg (show ¬ nI 8 = 1 by decide), if_neg (show ¬ nI 8 = 2 by decide), if_neg (show ¬ nI 8 = 3 by decide), if_neg (show ¬ nI 8 = 4 by decide), if_neg (show ¬ nI 8 = 5 by decide), if_neg (show ¬ nI 8 = 6 by decide), if_neg (show ¬ nI 8 = 7 by decide), if_pos (show nI 8 = 8 from rfl)]
    refine RC_b ?_
    rw [m_X2_takeDrop, wd_ck t3_ (by decide), fg_, Option.bind_some]
    unfold tk_
    simp only [show ¬ (8 : Nat) = 0 by decide, show ¬ (8 : Nat) = 1 by decide, show ¬ (8 : Nat) = 2 by decide, show ¬ (8 : Nat) = 3 by decide, show ¬ (8 : Nat) = 4 by decide, show ¬ (8 : Nat) = 5 by decide, show ¬ (8 : Nat) = 6 by decide, show ¬ (8 : Nat) = 7 by decide, if_false, if_true]
    cases hd : dg_ c with
    | none => rw [if_pos (show (if (none : Option Nat).isSome = true then (1 : Int32) else 0) = 0 from rfl)]; exact RC_n rfl
    | some d =>
      obtain ⟨-, -, d9, ed⟩ := dg_s hd
      simp only [Option.isSome_some, if_true, Option.elim_some]
      rw [if_neg (show ¬ (1 : Int32) = 0 by decide), gr_2_0 t3_, Option.bind_some, pt_places Pa_4, hB.1, Option.bind_some, ed]
      by_cases hl : d ≤ pl
      · rw [if_pos (nI_le hl (by omega)), if_pos hl, Option.bind_some, pt_setdrop Pa_4, Option.bind_some, pi_2_1 t3_, Option.bind_some]
        refine ⟨_, ar, rfl, fun a h1 h2 h3 => by rw [up2_k h1, up2_k h2], fun _ _ _ _ => rfl, fun s' h => ?_⟩
        cases h
        exact ⟨hB.fr (by rw [up2_n (by omega), up2_n (by omega)]) (by rw [up2_n (by omega), up2_n (by omega)]) (by rw [up2_n (by omega), up2_n (by omega)]), up2_s, by omega, by omega, fun _ => by rw [up2_n (by omega), up2_n (by omega)]; exact d4 (by omega), fun _ => by rw [up2_n (by omega), up2_s]⟩
      · rw [if_neg (by rw [nI_leI (by omega) (by omega)]; exact hl), if_neg hl]
        exact RC_n rfl
  · rw [if_neg (show ¬ nI 9 = 0 by decide), if_neg (show ¬ nI 9 = 1 by decide), if_neg (show ¬ nI 9 = 2 by decide), if_neg (show ¬ nI 9 = 3 by decide), if_neg (show ¬ nI 9 = 4 by decide), if_neg (show ¬ nI 9 = 5 by decide), if_neg (show ¬ nI 9 = 6 by decide), if_neg (show ¬ nI 9 = 7 by decide), if_neg (show ¬ nI 9 = 8 by decide)]
    refine RC_b ?_
    rw [m_X2_takeAhead, wd_ck t3_ (by decide), fg_, Option.bind_some]
    unfold tk_
    simp only [show ¬ (9 : Nat) = 0 by decide, show ¬ (9 : Nat) = 1 by decide, show ¬ (9 : Nat) = 2 by decide, show ¬ (9 : Nat) = 3 by decide, show ¬ (9 : Nat) = 4 by decide, show ¬ (9 : Nat) = 5 by decide, show ¬ (9 : Nat) = 6 by decide, show ¬ (9 : Nat) = 7 by decide, show ¬ (9 : Nat) = 8 by decide, if_false]
    cases hd : dg_ c with
    | none => rw [if_pos (show (if (none : Option Nat).isSome = true then (1 : Int32) else 0) = 0 from rfl)]; exact RC_n rfl
    | some d =>
      obtain ⟨-, -, d9, ed⟩ := dg_s hd
      simp only [Option.isSome_some, if_true, Option.elim_some]
      rw [if_neg (show ¬ (1 : Int32) = 0 by decide), gr_2_0 t3_, Option.bind_some, pt_ahead Pa_4, Option.bind_some, ed, ro_append (Pa_4.row hB.2.2.2.2.1 v12)]
      by_cases hl : an < 4
      · rw [if_pos hl, if_pos hl, dp_b2_s, if_neg (show ¬ (1 : Int32) = 0 by decide)]
        refine ⟨_, _, rfl, fun a h1 h2 h3 => up2_k h3, fun a h1 h2 h3 => up2_k h3, fun s' h => ?_⟩
        cases h
        refine ⟨⟨by rw [up2_n (by omega)]; exact hB.1, by rw [up2_n (by omega)]; exact hB.2.1, fun k hk => by rw [up2_n (by omega), up2_n (by omega)]; exact hB.2.2.1 k hk, fun k k1 k2 => by rw [up2_n (by omega), up2_n (by omega)]; exact hB.2.2.2.1 k k1 k2, up2_s, fun k hk => ?_⟩, by rw [up2_n (by omega)]; exact d1, by omega, by omega, fun _ => by rw [up2_n (by omega)]; exact d4 (by omega), fun _ => by rw [up2_n (by omega)]; exact d5 rfl⟩
        unfold va_up
        by_cases e : k = an
        · rw [if_pos e, e]; exact up2_s
        · rw [if_neg e, up2_n (by omega)]; exact hB.2.2.2.2.2 k (by omega)
      · rw [if_neg hl, if_neg hl, dp_b2_s, if_pos rfl]
        exact RC_n rfl
end CP
