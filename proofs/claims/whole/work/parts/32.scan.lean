/-! a whole page is read -/
section SC
variable {vi ar : Nat → Nat → Int32} {pr : Nat → Nat} {hh : Int64}
def sc_ (cs : Nat → Int32) : Nat → Nat → ps_ → Nat × Option ps_
  | 0, i, s => (i, some s)
  | r + 1, i, s => (tk_ s (cs i)).elim (i, none) (fun s' => sc_ cs r (i + 1) s')
def s0_ : ps_ := (0, 0, fun _ => (0, 0), 0, 0, 0, 0, 0, 0, fun _ => 0)
theorem V_0 : V_ s0_ := ⟨by decide, by decide, by decide, fun _ => rfl, fun h => absurd h (by decide), fun h => absurd h (by decide), fun k h => absurd h (Nat.not_lt_zero k), fun h => absurd h (by decide), fun h => absurd h (by decide), fun h => absurd h (by decide), fun h => absurd h (by decide), by decide, fun k h => absurd h (Nat.not_lt_zero k)⟩
theorem sc_V {cs : Nat → Int32} : ∀ (r i : Nat) (s : ps_), V_ s → ∀ s', (sc_ cs r i s).2 = some s' → V_ s'
  | 0, i, s => fun h s' e => by cases e; exact h
  | r + 1, i, s => fun h s' e => by
    unfold sc_ at e
    cases ht : tk_ s (cs i) with
    | none => rw [ht] at e; cases e
    | some s2 => rw [ht] at e; exact sc_V r (i + 1) s2 (V_tk h ht) s' e
theorem sc_i {cs : Nat → Int32} : ∀ (r i : Nat) (s : ps_), (sc_ cs r i s).1 ≤ i + r ∧ ((sc_ cs r i s).2 = none → (sc_ cs r i s).1 < i + r) ∧ ∀ s', (sc_ cs r i s).2 = some s' → (sc_ cs r i s).1 = i + r
  | 0, i, s => ⟨Nat.le_refl i, fun e => (by cases e), fun s' e => rfl⟩
  | r + 1, i, s => by
    unfold sc_
    cases ht : tk_ s (cs i) with
    | none => exact ⟨by show i ≤ i + (r + 1); omega, fun _ => by show i < i + (r + 1); omega, fun s' e => by cases e⟩
    | some s2 =>
      obtain ⟨h1, h2, h3⟩ := sc_i (cs := cs) r (i + 1) s2
      exact ⟨by show (sc_ cs r (i + 1) s2).1 ≤ i + (r + 1); omega, fun e => by show (sc_ cs r (i + 1) s2).1 < i + (r + 1); have := h2 e; omega, fun s' e => by show (sc_ cs r (i + 1) s2).1 = i + (r + 1); have := h3 s' e; omega⟩
theorem cs_l {cs : Nat → Int32} {n : Nat} (hn : n ≤ 52) : ∀ (r i : Nat) (s : ps_) (vi ar : Nat → Nat → Int32) (f : Nat), i + r = n → r < f → V_ s → CS_ vi ar s → vi 1 1 = nI n → ar 2 = cs → ∃ vi' ar', m_X2_scan_14 f (wd_h vi ar pr hh) 3 1 (nI i) = some (wd_h vi' ar' pr hh, nI (sc_ cs r i s).1) ∧ (∀ a, a ≠ 3 → a ≠ 4 → a ≠ 7 → vi' a = vi a) ∧ (∀ a, a ≠ 5 → a ≠ 6 → a ≠ 8 → ar' a = ar a) ∧ ∀ s', (sc_ cs r i s).2 = some s' → CS_ vi' ar' s' := by
  intro r
  induction r with
  | zero =>
    intro i s vi ar f hi hf hV hC h1 h2
    obtain ⟨f, rfl⟩ : ∃ g, f = g + 1 := ⟨f - 1, by omega⟩
    have hR : Rw_ vi 1 52 n := ⟨rfl, rfl, by decide, h1, hn⟩
    refine ⟨vi, ar, ?_, fun _ _ _ _ => rfl, fun _ _ _ _ => rfl, fun s' e => by cases e; exact hC⟩
    show b_X2_scan_14 _ _ _ _ _ = _
    unfold b_X2_scan_14
    rw [ro_size hR, Option.bind_some, if_pos (nI_le (by omega) (by omega)), Option.bind_some]
    rw [show n = i by omega]
    rfl
  | succ r ih =>
    intro i s vi ar f hi hf hV hC h1 h2
    obtain ⟨f, rfl⟩ : ∃ g, f = g + 1 := ⟨f - 1, by omega⟩
    have hR : Rw_ vi 1 52 n := ⟨rfl, rfl, by decide, h1, hn⟩
    obtain ⟨v1, a1, e1, e2, e3, e4⟩ := cp_ (pr := pr) (hh := hh) (c := ar 2 i) hV hC
    have hb : m_X2_scan_14 (f + 1) (wd_h vi ar pr hh) 3 1 (nI i) = if (if (tk_ s (ar 2 i)).isSome = true then (1 : Int32) else 0) = 0 then some (wd_h v1 a1 pr hh, nI i) else m_X2_scan_14 f (wd_h v1 a1 pr hh) 3 1 (nI (i + 1)) := by
      show b_X2_scan_14 _ _ _ _ _ = _
      unfold b_X2_scan_14
      rw [ro_size hR, Option.bind_some, if_neg (nI_ge (by omega) (by omega)), ro_at hR (by omega), if_pos (show i < n by omega), Option.bind_some, e1, dp_b2_s, nI_1]
    rw [hb]
    unfold sc_
    rw [← h2]
    cases ht : tk_ s (ar 2 i) with
    | none => exact ⟨v1, a1, by rw [if_pos (show (if (none : Option ps_).isSome = true then (1 : Int32) else 0) = 0 from rfl)]; rfl, e2, e3, fun s' e => by cases e⟩
    | some s2 =>
      rw [if_neg (show ¬ (if (some s2 : Option ps_).isSome = true then (1 : Int32) else 0) = 0 by rw [Option.isSome_some, if_pos rfl]; decide)]
      obtain ⟨v2, a2, g1, g2, g3, g4⟩ := ih (i + 1) s2 v1 a1 f (by omega) (by omega) (V_tk hV ht) (e4 s2 ht) (by rw [e2 1 (by decide) (by decide) (by decide)]; exact h1) (by rw [e3 2 (by decide) (by decide) (by decide)]; exact h2)
      rw [← h2] at g1 g4
      exact ⟨v2, a2, g1, fun a q1 q2 q3 => (g2 a q1 q2 q3).trans (e2 a q1 q2 q3), fun a q1 q2 q3 => (g3 a q1 q2 q3).trans (e3 a q1 q2 q3), g4⟩
theorem cs_ {n : Nat} (hn : n ≤ 52) (h1 : vi 1 1 = nI n) : ∃ vi' ar', m_X2_scan (wd_h vi ar pr hh) 3 1 = some (wd_h vi' ar' pr hh, nI (sc_ (ar 2) n 0 s0_).1) ∧ (∀ a, a ≠ 3 → a ≠ 4 → a ≠ 7 → vi' a = vi a) ∧ (∀ a, a ≠ 5 → a ≠ 6 → a ≠ 8 → ar' a = ar a) ∧ ∀ s', (sc_ (ar 2) n 0 s0_).2 = some s' → CS_ vi' ar' s' := by
  obtain ⟨v1, a1, e1, e2, e3, e4, e5, e6, e7⟩ := pt_clear (vi := vi) (ar := ar) (pr := pr) (hh := hh) Pa_4
  rw [m_X2_scan, wd_ck t3_ (by decide), gr_2_0 t3_, Option.bind_some, show (3 + 1 : Nat) = 4 from rfl, e1, Option.bind_some, pi_2_1 t3_, Option.bind_some]
  obtain ⟨v2, a2, g1, g2, g3, g4⟩ := cs_l (pr := pr) (hh := hh) (cs := ar 2) hn n 0 s0_ (up2 v1 3 1 0) a1 64 (by omega) (by omega) V_0 ⟨⟨by rw [up2_n (by omega)]; exact e4, by rw [up2_n (by omega)]; exact e5, fun k h => absurd h (Nat.not_lt_zero k), fun k _ h => e7 k h, by rw [up2_n (by omega)]; exact e6, fun k h => absurd h (Nat.not_lt_zero k)⟩, up2_s, fun h => absurd h (by decide), fun h => absurd h (by decide), fun h => absurd h (by decide), fun h => absurd h (by decide)⟩ (by rw [up2_n (by omega), e2 1 (by decide) (by decide)]; exact h1) (e3 2 (by decide) (by decide))
  exact ⟨v2, a2, g1, fun a q1 q2 q3 => by rw [g2 a q1 q2 q3, up2_k q1, e2 a q2 q3], fun a q1 q2 q3 => by rw [g3 a q1 q2 q3, e3 a q1 q2], g4⟩
end SC
