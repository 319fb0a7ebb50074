/-! count, row -/
def cv_ (vi ar : Nat → Nat → Int32) (pr : Nat → Nat) (m n : Nat) (pl an : Nat → Nat) (x : Nat) : Int32 := if x = 0 then nI m else if x = 1 then nI n else if x = 2 then nI (co_ (cc_ vi ar pr pl an) m m 0).length else if x ≤ 5 then ar 71 (x - 3) else vi 68 (x - 1)
def rk_ (cs : Nat → Int32) : Nat → Nat → Bool
  | 0, _ => true
  | r + 1, i => (dg_ (cs i)).isSome && rk_ cs r (i + 1)
section RO
variable {vi ar v a : Nat → Nat → Int32} {pr : Nat → Nat} {hh : Int64} {m : Nat} {pl dr an : Nat → Nat}
theorem SC_.a71 (g : SC_ vi ar v a) : a 71 = ar 71 := funext fun b => g.2 71 b (by unfold ka_; omega)
theorem cn_c {n x : Nat} (hP : Pg_ vi ar n) (hL : PL_ vi ar pr m pl dr an) (S : SC_ vi ar v a) (hx : x ≤ 9) : m_X6_count (wd_h v a pr hh) 0 (nI x) = some (cv_ vi ar pr m n pl an x) := by
  have c10 : x = 0 ∨ x = 1 ∨ x = 2 ∨ x = 3 ∨ x = 4 ∨ x = 5 ∨ x = 6 ∨ x = 7 ∨ x = 8 ∨ x = 9 := by omega
  rw [m_X6_count, wd_ck w0_ (by decide)]
  rcases c10 with rfl | rfl | rfl | rfl | rfl | rfl | rfl | rfl | rfl | rfl
  · rw [if_pos (show nI 0 = 0 from rfl), gr_6_2 w0_, Option.bind_some, pn_size (S.pn hL)]; rfl
  · rw [if_neg (show ¬ nI 1 = 0 by decide), if_pos (show nI 1 = 1 from rfl), gr_6_0 w0_, Option.bind_some, ro_size (S.pg hP).rw]; rfl
  · rw [if_neg (show ¬ nI 2 = 0 by decide), if_neg (show ¬ nI 2 = 1 by decide), if_pos (show nI 2 = 2 from rfl), gr_6_2 w0_, Option.bind_some, pn_cn (S.pn hL), cc_fr hL S.pf.v S.pf.a]; rfl
  · rw [if_neg (show ¬ nI 3 = 0 by decide), if_neg (show ¬ nI 3 = 1 by decide), if_neg (show ¬ nI 3 = 2 by decide), if_pos (show nI 3 = 3 from rfl), gr_6_5 w0_, Option.bind_some, show (0 : Int32) = nI 0 from rfl, tks_ (by omega), S.a71]; rfl
  · rw [if_neg (show ¬ nI 4 = 0 by decide), if_neg (show ¬ nI 4 = 1 by decide), if_neg (show ¬ nI 4 = 2 by decide), if_neg (show ¬ nI 4 = 3 by decide), if_pos (show nI 4 = 4 from rfl), gr_6_5 w0_, Option.bind_some, show (1 : Int32) = nI 1 from rfl, tks_ (by omega), S.a71]; rfl
  · rw [if_neg (show ¬ nI 5 = 0 by decide), if_neg (show ¬ nI 5 = 1 by decide), if_neg (show ¬ nI 5 = 2 by decide), if_neg (show ¬ nI 5 = 3 by decide), if_neg (show ¬ nI 5 = 4 by decide), if_pos (show nI 5 = 5 from rfl), gr_6_5 w0_, Option.bind_some, show (2 : Int32) = nI 2 from rfl, tks_ (by omega), S.a71]; rfl
  · rw [if_neg (show ¬ nI 6 = 0 by decide), if_neg (show ¬ nI 6 = 1 by decide), if_neg (show ¬ nI 6 = 2 by decide), if_neg (show ¬ nI 6 = 3 by decide), if_neg (show ¬ nI 6 = 4 by decide), if_neg (show ¬ nI 6 = 5 by decide), if_pos (show nI 6 = 6 from rfl), gr_6_5 w0_, Option.bind_some, m_X0_timesLifted, wd_ck w68 (by decide), gi_0_5 w68, S.v68]; rfl
  · rw [if_neg (show ¬ nI 7 = 0 by decide), if_neg (show ¬ nI 7 = 1 by decide), if_neg (show ¬ nI 7 = 2 by decide), if_neg (show ¬ nI 7 = 3 by decide), if_neg (show ¬ nI 7 = 4 by decide), if_neg (show ¬ nI 7 = 5 by decide), if_neg (show ¬ nI 7 = 6 by decide), if_pos (show nI 7 = 7 from rfl), gr_6_5 w0_, Option.bind_some, m_X0_timesReady, wd_ck w68 (by decide), gi_0_6 w68, S.v68]; rfl
  · rw [if_neg (show ¬ nI 8 = 0 by decide), if_neg (show ¬ nI 8 = 1 by decide), if_neg (show ¬ nI 8 = 2 by decide), if_neg (show ¬ nI 8 = 3 by decide), if_neg (show ¬ nI 8 = 4 by decide), if_neg (show ¬ nI 8 = 5 by decide), if_neg (show ¬ nI 8 = 6 by decide), if_neg (show ¬ nI 8 = 7 by decide), if_pos (show nI 8 = 8 from rfl), gr_6_5 w0_, Option.bind_some, m_X0_timesLost, wd_ck w68 (by decide), gi_0_7 w68, S.v68]; rfl
  · rw [if_neg (show ¬ nI 9 = 0 by decide), if_neg (show ¬ nI 9 = 1 by decide), if_neg (show ¬ nI 9 = 2 by decide), if_neg (show ¬ nI 9 = 3 by decide), if_neg (show ¬ nI 9 = 4 by decide), if_neg (show ¬ nI 9 = 5 by decide), if_neg (show ¬ nI 9 = 6 by decide), if_neg (show ¬ nI 9 = 7 by decide), if_neg (show ¬ nI 9 = 8 by decide), if_pos (show nI 9 = 9 from rfl), gr_6_5 w0_, Option.bind_some, m_X0_digitsEver, wd_ck w68 (by decide), gi_0_8 w68, S.v68]; rfl
theorem cn_m {n x : Nat} (hP : Pg_ vi ar n) (hL : PL_ vi ar pr m pl dr an) (hS : St_ ar) (hC : Ct_ vi) (S : SC_ vi ar v a) (hx : x ≤ 9) : m_X7_howMany (wd_h v a pr hh) 72 (nI x) = some (cv_ vi ar pr m n pl an x) := by
  have c10 : x = 0 ∨ x = 1 ∨ x = 2 ∨ x = 3 ∨ x = 4 ∨ x = 5 ∨ x = 6 ∨ x = 7 ∨ x = 8 ∨ x = 9 := by omega
  have t : ∀ k, k < 3 → dp_ai false (wd_h v a pr hh) 81 (nI k) = some (ar 71 k) := fun k hk => by
    rw [wd_ai (by decide) (by decide) (show k < 3 from hk), S.2 81 k (by unfold ka_; omega), (hS k hk).1]
  have c : ∀ b, b < 15 → v 72 b = vi 72 b := fun b hb => S.1 72 b (by unfold kv_; omega)
  rw [m_X7_howMany, wd_ck w72 (by decide)]
  rcases c10 with rfl | rfl | rfl | rfl | rfl | rfl | rfl | rfl | rfl | rfl
  · rw [if_pos (show nI 0 = 0 from rfl), gi_7_2 w72, (S.pn hL).2.2.1]; rfl
  · rw [if_neg (show ¬ nI 1 = 0 by decide), if_pos (show nI 1 = 1 from rfl), gi_7_0 w72, (S.pg hP).2.2.1]; rfl
  · rw [if_neg (show ¬ nI 2 = 0 by decide), if_neg (show ¬ nI 2 = 1 by decide), if_pos (show nI 2 = 2 from rfl), ml_cn (S.pn hL), cc_fr hL S.pf.v S.pf.a]; rfl
  · rw [if_neg (show ¬ nI 3 = 0 by decide), if_neg (show ¬ nI 3 = 1 by decide), if_neg (show ¬ nI 3 = 2 by decide), if_pos (show nI 3 = 3 from rfl), gr_7_10 w72, Option.bind_some, show nI 3 - 3 = nI 0 from rfl, t 0 (by omega)]; rfl
  · rw [if_neg (show ¬ nI 4 = 0 by decide), if_neg (show ¬ nI 4 = 1 by decide), if_neg (show ¬ nI 4 = 2 by decide), if_neg (show ¬ nI 4 = 3 by decide), if_pos (show nI 4 = 4 from rfl), gr_7_10 w72, Option.bind_some, show nI 4 - 3 = nI 1 from rfl, t 1 (by omega)]; rfl
  · rw [if_neg (show ¬ nI 5 = 0 by decide), if_neg (show ¬ nI 5 = 1 by decide), if_neg (show ¬ nI 5 = 2 by decide), if_neg (show ¬ nI 5 = 3 by decide), if_neg (show ¬ nI 5 = 4 by decide), if_pos (show nI 5 = 5 from rfl), gr_7_10 w72, Option.bind_some, show nI 5 - 3 = nI 2 from rfl, t 2 (by omega)]; rfl
  · rw [if_neg (show ¬ nI 6 = 0 by decide), if_neg (show ¬ nI 6 = 1 by decide), if_neg (show ¬ nI 6 = 2 by decide), if_neg (show ¬ nI 6 = 3 by decide), if_neg (show ¬ nI 6 = 4 by decide), if_neg (show ¬ nI 6 = 5 by decide), if_pos (show nI 6 = 6 from rfl), gi_7_11 w72, c 11 (by omega), hC.1]; rfl
  · rw [if_neg (show ¬ nI 7 = 0 by decide), if_neg (show ¬ nI 7 = 1 by decide), if_neg (show ¬ nI 7 = 2 by decide), if_neg (show ¬ nI 7 = 3 by decide), if_neg (show ¬ nI 7 = 4 by decide), if_neg (show ¬ nI 7 = 5 by decide), if_neg (show ¬ nI 7 = 6 by decide), if_pos (show nI 7 = 7 from rfl), gi_7_12 w72, c 12 (by omega), hC.2.1]; rfl
  · rw [if_neg (show ¬ nI 8 = 0 by decide), if_neg (show ¬ nI 8 = 1 by decide), if_neg (show ¬ nI 8 = 2 by decide), if_neg (show ¬ nI 8 = 3 by decide), if_neg (show ¬ nI 8 = 4 by decide), if_neg (show ¬ nI 8 = 5 by decide), if_neg (show ¬ nI 8 = 6 by decide), if_neg (show ¬ nI 8 = 7 by decide), if_pos (show nI 8 = 8 from rfl), gi_7_13 w72, c 13 (by omega), hC.2.2.1]; rfl
  · rw [if_neg (show ¬ nI 9 = 0 by decide), if_neg (show ¬ nI 9 = 1 by decide), if_neg (show ¬ nI 9 = 2 by decide), if_neg (show ¬ nI 9 = 3 by decide), if_neg (show ¬ nI 9 = 4 by decide), if_neg (show ¬ nI 9 = 5 by decide), if_neg (show ¬ nI 9 = 6 by decide), if_neg (show ¬ nI 9 = 7 by decide), if_neg (show ¬ nI 9 = 8 by decide), if_pos (show nI 9 = 9 from rfl), gi_7_14 w72, c 14 (by omega), hC.2.2.2]; rfl
end RO
theorem ok_count (x : Int32) : OP_ (fun h => m_X6_count h 0 x) (fun h => m_X7_count h 72 x) := by
  intro vi ar pr hh hI
  show ∃ r, m_X6_count (wd_h vi ar pr hh) 0 x = _ ∧ m_X7_count (wd_h vi ar pr hh) 72 x = _
  obtain ⟨n, m, pl, dr, an, s, nd, hP, hL, hN, hS, hC⟩ := id hI
  rw [m_X7_count, wd_ck w72 (by decide), bi_]
  have out : (∀ k : Nat, k ≤ 9 → ¬ x = nI k) → ∃ r, m_X6_count (wd_h vi ar pr hh) 0 x = some r ∧ m_X7_howMany (wd_h vi ar pr hh) 72 x = some r := by
    intro ne
    refine ⟨-1002, ?_, ?_⟩
    · rw [m_X6_count, wd_ck w0_ (by decide), if_neg (show ¬ x = 0 from ne 0 (by omega)), if_neg (show ¬ x = 1 from ne 1 (by omega)), if_neg (show ¬ x = 2 from ne 2 (by omega)), if_neg (show ¬ x = 3 from ne 3 (by omega)), if_neg (show ¬ x = 4 from ne 4 (by omega)), if_neg (show ¬ x = 5 from ne 5 (by omega)), if_neg (show ¬ x = 6 from ne 6 (by omega)), if_neg (show ¬ x = 7 from ne 7 (by omega)), if_neg (show ¬ x = 8 from ne 8 (by omega)), if_neg (show ¬ x = 9 from ne 9 (by omega))]
    · rw [m_X7_howMany, wd_ck w72 (by decide), if_neg (show ¬ x = 0 from ne 0 (by omega)), if_neg (show ¬ x = 1 from ne 1 (by omega)), if_neg (show ¬ x = 2 from ne 2 (by omega)), if_neg (show ¬ x = 3 from ne 3 (by omega)), if_neg (show ¬ x = 4 from ne 4 (by omega)), if_neg (show ¬ x = 5 from ne 5 (by omega)), if_neg (show ¬ x = 6 from ne 6 (by omega)), if_neg (show ¬ x = 7 from ne 7 (by omega)), if_neg (show ¬ x = 8 from ne 8 (by omega)), if_neg (show ¬ x = 9 from ne 9 (by omega))]
  rcases pk_ix x (n := 10) (by decide) with h0 | h1 | ⟨k, hk, rfl⟩
  · exact out (fun k hk z => nI_pos (n := k) (by omega) (z ▸ h0))
  · exact out (fun k hk z => absurd (z ▸ h1) (nI_ge (a := k) (b := 10) (by omega) (by omega)))
  · exact ⟨_, cn_c hP hL SC_.refl (by omega), cn_m hP hL hS hC SC_.refl (by omega)⟩
section RP
variable {vi ar v a : Nat → Nat → Int32} {pr : Nat → Nat} {hh : Int64} {m : Nat} {pl dr an : Nat → Nat}
theorem rk_all {cs : Nat → Int32} : ∀ (r i : Nat), rk_ cs r i = true → ∀ q, i ≤ q → q < i + r → (dg_ (cs q)).isSome = true
  | 0, i, _, q, h1, h2 => absurd h1 (by omega)
  | r + 1, i, h, q, h1, h2 => by
    unfold rk_ at h
    rw [Bool.and_eq_true] at h
    by_cases e : q = i
    · rw [e]; exact h.1
    · exact rk_all r (i + 1) h.2 q (by omega) (by omega)
theorem rr_l {cs : Nat → Int32} {n : Nat} (hn : n ≤ 52) : ∀ (r i f : Nat) (v a : Nat → Nat → Int32), i + r = n → i ≤ 10 → r < f → v 1 1 = nI n → a 2 = cs → v 61 1 = nI i → (∀ q, q < i → a 62 q = cs q - 48) → ∃ v' a', m_X6_readsPageAsRow_9 f (wd_h v a pr hh) 0 (nI i) = some (wd_h v' a' pr hh, if (decide (1 ≤ n) && decide (n ≤ 10) && rk_ cs r i) = true then 1 else 0) ∧ (∀ c, c ≠ 61 → v' c = v c) ∧ (∀ c, c ≠ 62 → a' c = a c) ∧ ((decide (1 ≤ n) && decide (n ≤ 10) && rk_ cs r i) = true → v' 61 1 = nI n ∧ ∀ q, q < n → a' 62 q = cs q - 48) := by
  intro r
  induction r with
  | zero =>
    intro i f v a hi h10 hf h1 h2 h3 h4
    obtain ⟨f, rfl⟩ : ∃ g, f = g + 1 := ⟨f - 1, by omega⟩
    have hR : Rw_ v 1 52 n := ⟨rfl, rfl, by decide, h1, hn⟩
    have hin : i = n := by omega
    subst hin
    refine ⟨v, a, ?_, fun _ _ => rfl, fun _ _ => rfl, fun _ => ⟨h3, h4⟩⟩
    show b_X6_readsPageAsRow_9 _ _ _ _ = _
    unfold b_X6_readsPageAsRow_9 rk_
    rw [gr_6_0 w0_, Option.bind_some, ro_size hR, Option.bind_some, if_pos (nI_le (by omega) (by omega)), Option.bind_some, ro_size hR, Option.bind_some, Bool.and_true]
    by_cases e : i = 0
    · subst e
      rw [if_pos (show nI 0 ≤ 0 by decide)]; rfl
    · rw [if_neg (nI_nle (by omega) (by omega)), if_pos (by rw [Bool.and_eq_true]; exact ⟨decide_eq_true (by omega), decide_eq_true (by omega)⟩)]
  | succ r ih =>
    intro i f v a hi h10 hf h1 h2 h3 h4
    obtain ⟨f, rfl⟩ : ∃ g, f = g + 1 := ⟨f - 1, by omega⟩
    have hR : Rw_ v 1 52 n := ⟨rfl, rfl, by decide, h1, hn⟩
    have hW : Rw_ v 61 10 i := ⟨rfl, rfl, by decide, h3, h10⟩
    have hb : m_X6_readsPageAsRow_9 (f + 1) (wd_h v a pr hh) 0 (nI i) = if (if (dg_ (cs i)).isSome = true then (1 : Int32) else 0) = 0 then some (wd_h v a pr hh, 0) else if i < 10 then m_X6_readsPageAsRow_9 f (wd_h (up2 v 61 1 (nI (i + 1))) (up2 a 62 i (cs i - 48)) pr hh) 0 (nI (i + 1)) else some (wd_h v a pr hh, 0) := by
      show b_X6_readsPageAsRow_9 _ _ _ _ = _
      unfold b_X6_readsPageAsRow_9
      rw [gr_6_0 w0_, Option.bind_some, ro_size hR, Option.bind_some, if_neg (nI_ge (by omega) (by omega)), Option.bind_some, ro_at hR (by omega), if_pos (show i < n by omega), Option.bind_some, show (1 + 1 : Nat) = 2 from rfl, h2, fg_, Option.bind_some, gr_6_3 w0_, Option.bind_some, Option.bind_some, ro_at hR (by omega), if_pos (show i < n by omega), Option.bind_some, show (1 + 1 : Nat) = 2 from rfl, h2, ro_append hW]
      by_cases e : i < 10
      · rw [if_pos e, if_pos e, dp_b2_s, if_neg (show ¬ (1 : Int32) = 0 by decide), nI_1]
      · rw [if_neg e, if_neg e, dp_b2_s, if_pos rfl]
    rw [hb]
    unfold rk_
    cases hd : dg_ (cs i) with
    | none =>
      rw [if_pos (show (if (none : Option Nat).isSome = true then (1 : Int32) else 0) = 0 from rfl), Option.isSome_none, Bool.false_and, Bool.and_false]
      exact ⟨v, a, rfl, fun _ _ => rfl, fun _ _ => rfl, fun h => by cases h⟩
    | some d =>
      rw [if_neg (show ¬ (if (some d : Option Nat).isSome = true then (1 : Int32) else 0) = 0 by rw [Option.isSome_some, if_pos rfl]; decide), Option.isSome_some, Bool.true_and]
      by_cases e : i < 10
      · rw [if_pos e]
        obtain ⟨v2, a2, g1, g2, g3, g4⟩ := ih (i + 1) f (up2 v 61 1 (nI (i + 1))) (up2 a 62 i (cs i - 48)) (by omega) (by omega) (by omega) (by rw [up2_n (by omega)]; exact h1) (by rw [up2_k (by decide)]; exact h2) up2_s (fun q hq => by
          by_cases eq : q = i
          · rw [eq, up2_s]
          · rw [up2_n (by omega)]; exact h4 q (by omega))
        exact ⟨v2, a2, g1, fun c hc => by rw [g2 c hc, up2_k hc], fun c hc => by rw [g3 c hc, up2_k hc], g4⟩
      · have nn : decide (n ≤ 10) = false := decide_eq_false (by omega)
        rw [if_neg e, nn, Bool.and_false, Bool.false_and]
        exact ⟨v, a, rfl, fun _ _ => rfl, fun _ _ => rfl, fun h => by cases h⟩
theorem mr_0 {n : Nat} (hn : n ≤ 52) (h0 : v 72 0 = nI n) : ∀ (f i : Nat), i ≤ n → n < f + i → m_X7_isRow_13 (wd_h v a pr hh) f 72 0 (nI i) = some 0 := by
  intro f
  induction f with
  | zero => intro i h1 h2; omega
  | succ f ih =>
    intro i h1 h2
    show b_X7_isRow_13 _ _ _ _ _ = _
    unfold b_X7_isRow_13
    rw [gi_7_0 w72, h0, Option.bind_some]
    by_cases e : n ≤ i
    · rw [if_pos (nI_le e (by omega)), dp_b, if_pos (Or.inl rfl)]
    · rw [if_neg (nI_ge (by omega) (by omega)), if_pos rfl, nI_1]
      exact ih (i + 1) (by omega) (by omega)
theorem mr_l {cs : Nat → Int32} {n : Nat} (hn : n ≤ 52) (h0 : v 72 0 = nI n) (hc : ∀ q, q < n → a 73 q = cs q) : ∀ (f i r : Nat), i + r = n → n < f + i → m_X7_isRow_13 (wd_h v a pr hh) f 72 1 (nI i) = some (if rk_ cs r i = true then 1 else 0) := by
  intro f
  induction f with
  | zero => intro i r h1 h2; omega
  | succ f ih =>
    intro i r h1 h2
    show b_X7_isRow_13 _ _ _ _ _ = _
    unfold b_X7_isRow_13
    rw [gi_7_0 w72, h0, Option.bind_some]
    cases r with
    | zero => rw [if_pos (nI_le (by omega) (by omega)), dp_b, if_pos (Or.inr rfl)]; rfl
    | succ r =>
      rw [if_neg (nI_ge (by omega) (by omega)), if_neg (show ¬ (1 : Int32) = 0 by decide), gr_7_1 w72, Option.bind_some, wd_ai (by decide) (by decide) (show i < 52 by omega), Option.bind_some, hc i (by omega), wf_, Option.bind_some, nI_1]
      unfold rk_
      cases hd : dg_ (cs i) with
      | none =>
        rw [if_pos (show (if (none : Option Nat).isSome = true then (1 : Int32) else 0) = 0 from rfl), Option.isSome_none, Bool.false_and]
        exact mr_0 hn h0 f (i + 1) (by omega) (by omega)
      | some d =>
        rw [if_neg (show ¬ (if (some d : Option Nat).isSome = true then (1 : Int32) else 0) = 0 by rw [Option.isSome_some, if_pos rfl]; decide), Option.isSome_some, Bool.true_and]
        exact ih (i + 1) r (by omega) (by omega)
theorem mr_ {cs : Nat → Int32} {n : Nat} (hn : n ≤ 52) (h0 : v 72 0 = nI n) (hc : ∀ q, q < n → a 73 q = cs q) : m_X7_isRow (wd_h v a pr hh) 72 = some (if (decide (1 ≤ n) && decide (n ≤ 10) && rk_ cs n 0) = true then 1 else 0) := by
  rw [m_X7_isRow, wd_ck w72 (by decide), gi_7_0 w72, h0, Option.bind_some, wi_, Option.bind_some]
  by_cases e : 1 ≤ n
  · rw [if_neg (show ¬ nI n < 1 from nI_nlt (b := 1) e (by omega)), decide_eq_true e, Bool.true_and]
    by_cases e2 : n ≤ 10
    · rw [if_neg (show ¬ 10 < nI n from nI_nlt (a := 10) e2 (by omega)), decide_eq_true e2, Bool.true_and]
      exact mr_l hn h0 hc 64 0 n (by omega) (by omega)
    · rw [if_pos (show 10 < nI n from nI_lt (a := 10) (by omega) (by omega)), decide_eq_false e2, Bool.false_and]
      exact mr_0 hn h0 64 0 (by omega) (by omega)
  · rw [if_pos (show nI n < 1 from nI_lt (b := 1) (by omega) (by omega)), decide_eq_false e, Bool.false_and, Bool.false_and]
    exact mr_0 hn h0 64 0 (by omega) (by omega)
theorem rn_l {n : Nat} {x : Int32} (hn : n ≤ 10) (h24 : v 72 24 = nI n) : ∀ (r i f : Nat) (a1 : Nat → Nat → Int32), i + r = n → r < f → (∀ c, c ≠ 84 → a1 c = a c) → (∀ q, q < i → a1 84 q = a 73 q - 48) → ∃ a' f', m_X7_rowNow_10 f (wd_h v a1 pr hh) 72 x (nI i) = m_X7_rowNow_10 (f' + 1) (wd_h v a' pr hh) 72 x (nI n) ∧ (∀ c, c ≠ 84 → a' c = a c) ∧ (∀ q, q < n → a' 84 q = a 73 q - 48) := by
  intro r
  induction r with
  | zero =>
    intro i f a1 hi hf h1 h2
    obtain ⟨f, rfl⟩ : ∃ g, f = g + 1 := ⟨f - 1, by omega⟩
    have hin : i = n := by omega
    subst hin
    exact ⟨a1, f, rfl, h1, h2⟩
  | succ r ih =>
    intro i f a1 hi hf h1 h2
    obtain ⟨f, rfl⟩ : ∃ g, f = g + 1 := ⟨f - 1, by omega⟩
    have hb : m_X7_rowNow_10 (f + 1) (wd_h v a1 pr hh) 72 x (nI i) = m_X7_rowNow_10 f (wd_h v (up2 a1 84 i (a 73 i - 48)) pr hh) 72 x (nI (i + 1)) := by
      show b_X7_rowNow_10 _ _ _ _ _ = _
      unfold b_X7_rowNow_10
      rw [gi_7_24 w72, h24, Option.bind_some, if_neg (nI_ge (by omega) (by omega)), gr_7_25 w72, Option.bind_some, gr_7_1 w72, Option.bind_some, wd_ai (by decide) (by decide) (show i < 52 by omega), Option.bind_some, wr_84 (by omega), Option.bind_some, nI_1, h1 73 (by decide)]
    rw [hb]
    refine ih (i + 1) f _ (by omega) (by omega) (fun c hc => by rw [up2_k hc, h1 c hc]) (fun q hq => ?_)
    by_cases e : q = i
    · rw [e, up2_s]
    · rw [up2_n (by omega), h2 q (by omega)]
end RP
