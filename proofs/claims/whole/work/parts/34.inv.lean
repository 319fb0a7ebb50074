/-! what stays true of class and reference -/
def kv_ (a b : Nat) : Prop := a ≠ 3 ∧ a ≠ 4 ∧ a ≠ 7 ∧ a ≠ 61 ∧ a ≠ 63 ∧ a ≠ 64 ∧ a ≠ 66 ∧ (a ≠ 72 ∨ b < 15 ∨ 26 < b)
def ka_ (a : Nat) : Prop := a ≠ 5 ∧ a ≠ 6 ∧ a ≠ 8 ∧ a ≠ 62 ∧ a ≠ 65 ∧ a ≠ 67 ∧ a ≠ 82 ∧ a ≠ 83 ∧ a ≠ 84
def SC_ (vi ar vi' ar' : Nat → Nat → Int32) : Prop := (∀ a b, kv_ a b → vi' a b = vi a b) ∧ (∀ a b, ka_ a → ar' a b = ar a b)
theorem SC_.trans {vi ar vi' ar' v2 a2 : Nat → Nat → Int32} (h : SC_ vi ar vi' ar') (g : SC_ vi' ar' v2 a2) : SC_ vi ar v2 a2 := ⟨fun a b q => (g.1 a b q).trans (h.1 a b q), fun a b q => (g.2 a b q).trans (h.2 a b q)⟩
def Pg_ (vi ar : Nat → Nat → Int32) (n : Nat) : Prop := n ≤ 52 ∧ vi 1 1 = nI n ∧ vi 72 0 = nI n ∧ ∀ k, k < n → ar 73 k = ar 2 k
def Ln_ (vi ar : Nat → Nat → Int32) (s nd : Nat) : Prop := s ≤ 3 ∧ vi 68 2 = nI s ∧ vi 72 27 = nI s ∧ nd ≤ 10 ∧ vi 69 1 = nI nd ∧ vi 72 28 = nI nd ∧ (∀ k, k < nd → ar 85 k = ar 70 k) ∧ sm_ 9 (ar 70) nd ∧ vi 68 3 = vi 72 31 ∧ (s = 1 → nd ≤ 9 ∧ vi 72 30 = vi 68 4 ∧ ∃ t : Nat, 1 ≤ t ∧ t ≤ 99 ∧ vi 68 4 = nI t) ∧ (s ≠ 1 → vi 68 4 = 0) ∧ (s = 0 → nd = 0 ∧ vi 68 3 = 0)
def St_ (ar : Nat → Nat → Int32) : Prop := ∀ k, k < 3 → ar 81 k = ar 71 k ∧ ∃ t : Nat, 1 ≤ t ∧ t ≤ 99 ∧ ar 71 k = nI t
def Ct_ (vi : Nat → Nat → Int32) : Prop := vi 72 11 = vi 68 5 ∧ vi 72 12 = vi 68 6 ∧ vi 72 13 = vi 68 7 ∧ vi 72 14 = vi 68 8
def I_ (vi ar : Nat → Nat → Int32) (pr : Nat → Nat) : Prop := ∃ n m pl dr an s nd, Pg_ vi ar n ∧ PL_ vi ar pr m pl dr an ∧ Ln_ vi ar s nd ∧ St_ ar ∧ Ct_ vi
section INV
variable {vi ar vi' ar' : Nat → Nat → Int32} {pr : Nat → Nat} {hh : Int64} {m : Nat} {pl dr an : Nat → Nat}
theorem Pg_.fr {n : Nat} (h : Pg_ vi ar n) (hv : ∀ a b, (a = 1 ∧ b = 1) ∨ (a = 72 ∧ b = 0) → vi' a b = vi a b) (ha : ∀ a b, a = 2 ∨ a = 73 → ar' a b = ar a b) : Pg_ vi' ar' n := ⟨h.1, (hv 1 1 (by omega)).trans h.2.1, (hv 72 0 (by omega)).trans h.2.2.1, fun k hk => by rw [ha 73 k (by omega), ha 2 k (by omega)]; exact h.2.2.2 k hk⟩
theorem PL_.fr2 (h : PL_ vi ar pr m pl dr an) (hv : ∀ a b, (a = 9 ∧ b = 1) ∨ (a = 72 ∧ b = 2) ∨ (11 ≤ a ∧ a < 61) → vi' a b = vi a b) (ha : ∀ a b, (11 ≤ a ∧ a < 61) ∨ (74 ≤ a ∧ a < 81) → ar' a b = ar a b) : PL_ vi' ar' pr m pl dr an := h.fr (hv 9 1 (by omega)) (hv 72 2 (by omega)) (fun a h1 h2 => funext fun b => hv a b (by omega)) (fun a h1 h2 => funext fun b => ha a b (by omega)) (fun a h1 h2 => funext fun b => ha a b (by omega))
theorem Ln_.fr {s nd : Nat} (h : Ln_ vi ar s nd) (hv : ∀ a b, (a = 68 ∧ 2 ≤ b ∧ b ≤ 4) ∨ (a = 69 ∧ b = 1) ∨ (a = 72 ∧ 27 ≤ b) → vi' a b = vi a b) (ha : ∀ a b, a = 70 ∨ a = 85 → ar' a b = ar a b) : Ln_ vi' ar' s nd := by
  unfold Ln_
  rw [hv 68 2 (by omega), hv 72 27 (by omega), hv 69 1 (by omega), hv 72 28 (by omega), hv 68 3 (by omega), hv 72 31 (by omega), hv 72 30 (by omega), hv 68 4 (by omega), show ar' 70 = ar 70 from funext fun b => ha 70 b (by omega), show ar' 85 = ar 85 from funext fun b => ha 85 b (by omega)]
  exact h
theorem St_.fr (h : St_ ar) (ha : ∀ a b, a = 71 ∨ a = 81 → ar' a b = ar a b) : St_ ar' := fun k hk => by
  rw [ha 81 k (by omega), ha 71 k (by omega)]
  exact h k hk
theorem Ct_.fr (h : Ct_ vi) (hv : ∀ a b, (a = 68 ∧ 5 ≤ b) ∨ (a = 72 ∧ 11 ≤ b ∧ b ≤ 14) → vi' a b = vi a b) : Ct_ vi' := by
  unfold Ct_
  rw [hv 72 11 (by omega), hv 68 5 (by omega), hv 72 12 (by omega), hv 68 6 (by omega), hv 72 13 (by omega), hv 68 7 (by omega), hv 72 14 (by omega), hv 68 8 (by omega)]
  exact h
theorem SC_.pg {n : Nat} (g : SC_ vi ar vi' ar') (h : Pg_ vi ar n) : Pg_ vi' ar' n := h.fr (fun a b q => g.1 a b (by unfold kv_; omega)) (fun a b q => g.2 a b (by unfold ka_; omega))
theorem SC_.pn (g : SC_ vi ar vi' ar') (h : PL_ vi ar pr m pl dr an) : PL_ vi' ar' pr m pl dr an := h.fr2 (fun a b q => g.1 a b (by unfold kv_; omega)) (fun a b q => g.2 a b (by unfold ka_; omega))
theorem SC_.ln {s nd : Nat} (g : SC_ vi ar vi' ar') (h : Ln_ vi ar s nd) : Ln_ vi' ar' s nd := h.fr (fun a b q => g.1 a b (by unfold kv_; omega)) (fun a b q => g.2 a b (by unfold ka_; omega))
theorem SC_.st (g : SC_ vi ar vi' ar') (h : St_ ar) : St_ ar' := h.fr (fun a b q => g.2 a b (by unfold ka_; omega))
theorem SC_.ct (g : SC_ vi ar vi' ar') (h : Ct_ vi) : Ct_ vi' := h.fr (fun a b q => g.1 a b (by unfold kv_; omega))
theorem I_.sc (h : I_ vi ar pr) (g : SC_ vi ar vi' ar') : I_ vi' ar' pr := by
  obtain ⟨n, m, pl, dr, an, s, nd, hP, hL, hN, hS, hC⟩ := h
  exact ⟨n, m, pl, dr, an, s, nd, g.pg hP, g.pn hL, g.ln hN, g.st hS, g.ct hC⟩
theorem Pg_.rw {n : Nat} (h : Pg_ vi ar n) : Rw_ vi 1 52 n := ⟨rfl, rfl, by decide, h.2.1, h.1⟩
theorem Ln_.rw {s nd : Nat} (h : Ln_ vi ar s nd) : Rw_ vi 69 10 nd := ⟨rfl, rfl, by decide, h.2.2.2.2.1, h.2.2.2.1⟩
end INV
theorem w0_ : wd_k 0 = 6 := rfl
theorem w68 : wd_k 68 = 0 := rfl
theorem w9_ : wd_k 9 = 3 := rfl
theorem w63 : wd_k 63 = 4 := rfl
def OK_ (C M : dp_H → Option (dp_H × Int32)) : Prop := ∀ vi ar pr hh, I_ vi ar pr → ∃ vi1 ar1 pr1 vi2 ar2 r, C (wd_h vi ar pr hh) = some (wd_h vi1 ar1 pr1 hh, r) ∧ M (wd_h vi1 ar1 pr1 hh) = some (wd_h vi2 ar2 pr1 hh, r) ∧ I_ vi2 ar2 pr1
def OP_ (C M : dp_H → Option Int32) : Prop := ∀ vi ar pr hh, I_ vi ar pr → ∃ r, C (wd_h vi ar pr hh) = some r ∧ M (wd_h vi ar pr hh) = some r
theorem ok_letter (x : Int32) : OK_ (fun h => m_X6_letter h 0 x) (fun h => m_X7_letter h 72 x) := by
  intro vi ar pr hh hI
  show ∃ vi1 ar1 pr1 vi2 ar2 r, m_X6_letter (wd_h vi ar pr hh) 0 x = _ ∧ m_X7_letter (wd_h vi1 ar1 pr1 hh) 72 x = _ ∧ _
  obtain ⟨n, m, pl, dr, an, s, nd, hP, hL, hN, hS, hC⟩ := id hI
  rw [m_X6_letter, wd_ck w0_ (by decide)]
  simp only [m_X7_letter]
  by_cases h1 : x < 32
  · rw [if_pos h1]
    exact ⟨vi, ar, pr, vi, ar, _, rfl, by rw [wd_ck w72 (by decide), wi_, if_pos h1]; rfl, hI⟩
  · rw [if_neg h1]
    by_cases h2 : x ≤ 126
    · rw [if_pos h2, gr_6_0 w0_, Option.bind_some, ro_append hP.rw]
      by_cases h3 : n < 52
      · rw [if_pos h3, dp_b2_s, if_neg (show ¬ (1 : Int32) = 0 by decide), gr_6_0 w0_, Option.bind_some, ro_size (n := n + 1) (hP.rw.up up2_s (by omega)), Option.bind_some]
        refine ⟨_, _, pr, up2 (up2 vi 1 1 (nI (n + 1))) 72 0 (nI (n + 1)), up2 (up2 ar 2 n x) 73 n x, _, rfl, ?_, ?_⟩
        · rw [wd_ck w72 (by decide), wi_, if_neg h1, if_neg (Int32.not_lt.mpr h2), Option.bind_some, if_neg (show ¬ (1 : Int32) = 0 by decide), gi_7_0 w72, up2_n (by omega), hP.2.2.1, Option.bind_some, if_neg (show ¬ nI n = 52 by rw [show (52 : Int32) = nI 52 from rfl, nI_eq (by omega) (by omega)]; omega), gr_7_1 w72, Option.bind_some, Option.bind_some, wd_si (by decide) (by decide) (show n < 52 from h3), Option.bind_some, gi_7_0 w72, up2_n (by omega), hP.2.2.1, Option.bind_some, pi_7_0 w72, Option.bind_some, gi_7_0 w72, up2_s, Option.bind_some, nI_1]
        · refine ⟨n + 1, m, pl, dr, an, s, nd, ⟨by omega, by rw [up2_n (by omega), up2_s], up2_s, fun k hk => ?_⟩, hL.fr2 (fun a b q => by rw [up2_n (by omega), up2_n (by omega)]) (fun a b q => by rw [up2_n (by omega), up2_n (by omega)]), hN.fr (fun a b q => by rw [up2_n (by omega), up2_n (by omega)]) (fun a b q => by rw [up2_n (by omega), up2_n (by omega)]), hS.fr (fun a b q => by rw [up2_n (by omega), up2_n (by omega)]), hC.fr (fun a b q => by rw [up2_n (by omega), up2_n (by omega)])⟩
          by_cases e : k = n
          · rw [e, up2_s, up2_n (by omega), up2_s]
          · rw [up2_n (by omega), up2_n (by omega), up2_n (by omega), up2_n (by omega)]
            exact hP.2.2.2 k (by omega)
      · rw [if_neg h3, dp_b2_s, if_pos rfl]
        refine ⟨_, _, pr, vi, ar, _, rfl, ?_, hI⟩
        rw [wd_ck w72 (by decide), wi_, if_neg h1, if_neg (Int32.not_lt.mpr h2), Option.bind_some, if_neg (show ¬ (1 : Int32) = 0 by decide), gi_7_0 w72, hP.2.2.1, Option.bind_some, if_pos (show nI n = 52 by rw [show n = 52 by have := hP.1; omega]; rfl)]
    · rw [if_neg h2]
      exact ⟨vi, ar, pr, vi, ar, _, rfl, by rw [wd_ck w72 (by decide), wi_, if_neg h1, if_pos (Int32.not_le.mp h2)]; rfl, hI⟩
theorem ok_blank : OK_ (fun h => m_X6_blank h 0) (fun h => m_X7_blank h 72) := by
  intro vi ar pr hh hI
  show ∃ vi1 ar1 pr1 vi2 ar2 r, m_X6_blank (wd_h vi ar pr hh) 0 = _ ∧ m_X7_blank (wd_h vi1 ar1 pr1 hh) 72 = _ ∧ _
  obtain ⟨n, m, pl, dr, an, s, nd, hP, hL, hN, hS, hC⟩ := id hI
  rw [m_X6_blank, wd_ck w0_ (by decide), gr_6_0 w0_, Option.bind_some, ro_size hP.rw, Option.bind_some, Option.bind_some, ro_clear hP.rw, Option.bind_some]
  refine ⟨_, ar, pr, up2 (up2 vi 1 1 0) 72 0 0, ar, _, rfl, ?_, ?_⟩
  · rw [m_X7_blank, wd_ck w72 (by decide), gi_7_0 w72, up2_n (by omega), hP.2.2.1, Option.bind_some, pi_7_0 w72, Option.bind_some]
  · exact ⟨0, m, pl, dr, an, s, nd, ⟨by omega, by rw [up2_n (by omega), up2_s]; rfl, up2_s, fun k hk => absurd hk (Nat.not_lt_zero k)⟩, hL.fr2 (fun a b q => by rw [up2_n (by omega), up2_n (by omega)]) (fun a b q => rfl), hN.fr (fun a b q => by rw [up2_n (by omega), up2_n (by omega)]) (fun a b q => rfl), hS, hC.fr (fun a b q => by rw [up2_n (by omega), up2_n (by omega)])⟩
section RDS
variable {vi ar vi' ar' : Nat → Nat → Int32} {pr : Nat → Nat} {hh : Int64} {m : Nat} {pl dr an : Nat → Nat}
theorem SC_cs (hv : ∀ a, a ≠ 3 → a ≠ 4 → a ≠ 7 → vi' a = vi a) (ha : ∀ a, a ≠ 5 → a ≠ 6 → a ≠ 8 → ar' a = ar a) : SC_ vi ar vi' ar' := ⟨fun a b q => by unfold kv_ at q; rw [hv a (by omega) (by omega) (by omega)], fun a b q => by unfold ka_ at q; rw [ha a (by omega) (by omega) (by omega)]⟩
theorem SC_ms (hv : ∀ a, a ≠ 72 → vi' a = vi a) (h72 : ∀ b, b < 15 ∨ 22 < b → vi' 72 b = vi 72 b) (ha : ∀ a, a ≠ 82 → a ≠ 83 → ar' a = ar a) : SC_ vi ar vi' ar' := ⟨fun a b q => by
    unfold kv_ at q
    by_cases e : a = 72
    · rw [e, h72 b (by omega)]
    · rw [hv a e], fun a b q => by unfold ka_ at q; rw [ha a (by omega) (by omega)]⟩
/-- which pattern a number names -/
theorem at_ (h : PL_ vi ar pr m pl dr an) (x : Int32) : (m_X3_at (wd_h vi ar pr hh) 9 x = some none ∧ m_X7_isPattern (wd_h vi ar pr hh) 72 x = some 0) ∨ ∃ j, j < m ∧ x = nI j ∧ m_X3_at (wd_h vi ar pr hh) 9 x = some (some (pr j)) ∧ m_X7_isPattern (wd_h vi ar pr hh) 72 x = some 1 := by
  have hm := h.1
  have e : m_X7_isPattern (wd_h vi ar pr hh) 72 x = dp_b (if x < 0 then 0 else if nI m - 1 < x then 0 else 1) (some (if x < 0 then 0 else if nI m - 1 < x then 0 else 1)) := by
    rw [m_X7_isPattern, wd_ck w72 (by decide), gi_7_2 w72, h.2.2.1, Option.bind_some, wi_, Option.bind_some]
  by_cases h0 : x < 0
  · exact Or.inl ⟨pn_neg h0, by rw [e, if_pos h0, dp_b, if_pos (Or.inl rfl)]⟩
  · obtain ⟨j, hj, rfl⟩ := nI_of h0
    have ej := pn_at (hh := hh) h hj
    have e1 : nI m - 1 < nI j ↔ m ≤ j := by
      rcases Nat.eq_zero_or_pos m with z | z
      · subst z
        exact ⟨fun _ => Nat.zero_le _, fun _ => Int32.lt_of_lt_of_le (by decide) (nI_pos' hj)⟩
      · rw [show nI m - 1 = nI (m - 1) by rw [← pk_sub z]; rfl, nI_ltI (by omega) hj]
        omega
    by_cases hl : j < m
    · rw [if_pos hl] at ej
      exact Or.inr ⟨j, hl, rfl, ej, by rw [e, if_neg h0, if_neg (fun q => by have := e1.mp q; omega), dp_b, if_pos (Or.inr rfl)]⟩
    · rw [if_neg hl] at ej
      exact Or.inl ⟨ej, by rw [e, if_neg h0, if_pos (e1.mpr (by omega)), dp_b, if_pos (Or.inl rfl)]⟩
theorem om_n {α : Type} {b : Option α} {f : Nat → Option α} : dp_om none b f = b := rfl
theorem om_s {α : Type} {b : Option α} {f : Nat → Option α} {u : Nat} : dp_om (some u) b f = f u := rfl
/-- what is told of a pattern, on both sides -/
theorem pt_all (h : PL_ vi ar pr m pl dr an) {j : Nat} (hj : j < m) (y : Int32) : ∃ r, m_X6_pattern (wd_h vi ar pr hh) 0 (nI j) y = some r ∧ m_X7_pattern (wd_h vi ar pr hh) 72 (nI j) y = some r ∧ (¬ y < 0 → y ≤ 5 → m_X7_patternNow (wd_h vi ar pr hh) 72 (nI j) y = some r) := by
  have hm := h.1
  have hpa := h.pa (i := j) (by omega)
  obtain ⟨hw, hq⟩ := h.2.2.2.2.2 j hj
  rcases at_ (hh := hh) h (nI j) with ⟨z1, -⟩ | ⟨j2, hj2, ej, e1, e2⟩
  · rw [pn_at h (by omega), if_pos hj] at z1; cases z1
  have ejj : j2 = j := ((nI_eq (by omega) (by omega)).mp ej).symm
  subst ejj
  rw [m_X6_pattern, wd_ck w0_ (by decide), gr_6_2 w0_, Option.bind_some, e1, Option.bind_some, om_s, m_X7_pattern, wd_ck w72 (by decide), e2, Option.bind_some, if_neg (show ¬ (1 : Int32) = 0 by decide), wi_, Option.bind_some]
  have out : (y < 0 ∨ 5 < y) → (if y < 0 then (0 : Int32) else if 5 < y then 0 else 1) = 0 := fun q => by
    by_cases h0 : y < 0
    · rw [if_pos h0]
    · rw [if_neg h0, if_pos (q.resolve_left h0)]
  have fin : ∀ {r : Int32}, ¬ y < 0 → ¬ 5 < y → m_X7_patternNow (wd_h vi ar pr hh) 72 (nI j2) y = some r → (if (if y < 0 then (0 : Int32) else if 5 < y then 0 else 1) = 0 then some (-1002) else (m_X7_patternNow (wd_h vi ar pr hh) 72 (nI j2) y).bind fun v3 => some v3) = some r := fun q1 q2 q3 => by
    rw [if_neg q1, if_neg q2, if_neg (show ¬ (1 : Int32) = 0 by decide), q3]; rfl
  have j10 : j2 < 10 := by omega
  by_cases y0 : y = 0
  · have e : m_X7_patternNow (wd_h vi ar pr hh) 72 (nI j2) y = some (nI (pl j2)) := by
      rw [m_X7_patternNow, wd_ck w72 (by decide), if_pos y0, gr_7_3 w72, Option.bind_some, rd_74 j10, Option.bind_some, hq.1]
    exact ⟨nI (pl j2), by rw [if_pos y0, pt_places hpa, hw.1]; rfl, fin (by rw [y0]; decide) (by rw [y0]; decide) e, fun _ _ => e⟩
  by_cases y1 : y = 1
  · have e : m_X7_patternNow (wd_h vi ar pr hh) 72 (nI j2) y = some (vi (pr j2) 4) := by
      rw [m_X7_patternNow, wd_ck w72 (by decide), if_neg y0, if_pos y1, gr_7_4 w72, Option.bind_some, wd_az j10, Option.bind_some, hq.2.1]
      rcases hw.2.2.2.1 with z | z <;> rw [z] <;> rfl
    refine ⟨vi (pr j2) 4, ?_, fin (by rw [y1]; decide) (by rw [y1]; decide) e, fun _ _ => e⟩
    rw [if_neg y0, if_pos y1, pt_open hpa hw.2.2.2.1, Option.bind_some]
    rcases hw.2.2.2.1 with z | z <;> rw [z] <;> rfl
  by_cases y2 : y = 2
  · have e : m_X7_patternNow (wd_h vi ar pr hh) 72 (nI j2) y = some (vi (pr j2) 5) := by
      rw [m_X7_patternNow, wd_ck w72 (by decide), if_neg y0, if_neg y1, if_pos y2, gr_7_6 w72, Option.bind_some, rd_77 j10, Option.bind_some, hq.2.2.1]
    exact ⟨_, by rw [if_neg y0, if_neg y1, if_pos y2, pt_way hpa]; rfl, fin (by rw [y2]; decide) (by rw [y2]; decide) e, fun _ _ => e⟩
  by_cases y3 : y = 3
  · have e : m_X7_patternNow (wd_h vi ar pr hh) 72 (nI j2) y = some (nI (dr j2)) := by
      rw [m_X7_patternNow, wd_ck w72 (by decide), if_neg y0, if_neg y1, if_neg y2, if_pos y3, gr_7_7 w72, Option.bind_some, rd_78 j10, Option.bind_some, hq.2.2.2.1]
    exact ⟨_, by rw [if_neg y0, if_neg y1, if_neg y2, if_pos y3, pt_drop hpa, hw.2.2.2.2.2.1]; rfl, fin (by rw [y3]; decide) (by rw [y3]; decide) e, fun _ _ => e⟩
  have hrow := hpa.row hw.2.2.2.2.2.2.2.1 hw.2.2.2.2.2.2.2.2.1
  by_cases y4 : y = 4
  · have e : m_X7_patternNow (wd_h vi ar pr hh) 72 (nI j2) y = some (nI (an j2)) := by
      rw [m_X7_patternNow, wd_ck w72 (by decide), if_neg y0, if_neg y1, if_neg y2, if_neg y3, if_pos y4, gr_7_8 w72, Option.bind_some, rd_79 j10, Option.bind_some, hq.2.2.2.2.1]
    exact ⟨_, by rw [if_neg y0, if_neg y1, if_neg y2, if_neg y3, if_pos y4, pt_ahead hpa, Option.bind_some, ro_size hrow]; rfl, fin (by rw [y4]; decide) (by rw [y4]; decide) e, fun _ _ => e⟩
  by_cases y5 : y = 5
  · have e : m_X7_patternNow (wd_h vi ar pr hh) 72 (nI j2) y = some (an_ (ar (pr j2 + 4)) (an j2) 0 0) := by
      rw [m_X7_patternNow, wd_ck w72 (by decide), if_neg y0, if_neg y1, if_neg y2, if_neg y3, if_neg y4, ml_num h hj]; rfl
    exact ⟨_, by rw [if_neg y0, if_neg y1, if_neg y2, if_neg y3, if_neg y4, if_pos y5, pt_ahead hpa, Option.bind_some, ro_num hrow (by decide)]; rfl, fin (by rw [y5]; decide) (by rw [y5]; decide) e, fun _ _ => e⟩
  have far : y < 0 ∨ 5 < y := by
    by_cases q0 : y < 0
    · exact Or.inl q0
    · right
      obtain ⟨k, hk, rfl⟩ := nI_of q0
      rw [show (5 : Int32) = nI 5 from rfl, nI_ltI (by omega) hk]
      have z : ∀ i, i < 6 → k ≠ i → True := fun _ _ _ => trivial
      have k0 : k ≠ 0 := fun q => y0 (by rw [q]; rfl)
      have k1 : k ≠ 1 := fun q => y1 (by rw [q]; rfl)
      have k2 : k ≠ 2 := fun q => y2 (by rw [q]; rfl)
      have k3 : k ≠ 3 := fun q => y3 (by rw [q]; rfl)
      have k4 : k ≠ 4 := fun q => y4 (by rw [q]; rfl)
      have k5 : k ≠ 5 := fun q => y5 (by rw [q]; rfl)
      omega
  exact ⟨-1002, by rw [if_neg y0, if_neg y1, if_neg y2, if_neg y3, if_neg y4, if_neg y5], by rw [out far, if_pos rfl], fun q1 q2 => absurd far (fun z => z.elim q1 (Int32.not_lt.mpr q2))⟩
theorem lt_all (h : PL_ vi ar pr m pl dr an) {j k : Nat} (hj : j < m) (hk : k < 10) : m_X6_lets (wd_h vi ar pr hh) 0 (nI j) (nI k) = some (ar (pr j + 1) k) := by
  have hm := h.1
  rw [m_X6_lets, wd_ck w0_ (by decide), gr_6_2 w0_, Option.bind_some, pn_at h (by omega), if_pos hj, Option.bind_some, om_s, if_neg (nI_pos (by omega)), if_pos (show nI k < 10 from nI_lt (b := 10) hk (by omega)), pt_dig (h.pa (by omega)) hk]
  rfl
end RDS
theorem ok_fault : OK_ (fun h => m_X6_fault h 0) (fun h => m_X7_fault h 72) := by
  intro vi ar pr hh hI
  show ∃ vi1 ar1 pr1 vi2 ar2 r, m_X6_fault (wd_h vi ar pr hh) 0 = _ ∧ m_X7_fault (wd_h vi1 ar1 pr1 hh) 72 = _ ∧ _
  obtain ⟨n, m, pl, dr, an, s, nd, hP, hL, hN, hS, hC⟩ := id hI
  obtain ⟨v1, a1, e1, e2, e3, -⟩ := cs_ (ar := ar) (pr := pr) (hh := hh) hP.1 hP.2.1
  obtain ⟨v2, a2, g1, g2, g3, g4, -⟩ := ms_ (vi := v1) (ar := a1) (pr := pr) (hh := hh) (cs := ar 2) hP.1 (by rw [e2 72 (by decide) (by decide) (by decide)]; exact hP.2.2.1) (fun k hk => by rw [e3 73 (by decide) (by decide) (by decide)]; exact hP.2.2.2 k hk)
  refine ⟨v1, a1, pr, v2, a2, nI (sc_ (ar 2) n 0 s0_).1, ?_, ?_, hI.sc ((SC_cs e2 e3).trans (SC_ms g2 g3 g4))⟩
  · rw [m_X6_fault, wd_ck w0_ (by decide), gr_6_1 w0_, Option.bind_some, gr_6_0 w0_, Option.bind_some, e1, dp_b2_s]
  · rw [m_X7_fault, wd_ck w72 (by decide), g1, dp_b2_s]
theorem ok_pattern (x y : Int32) : OP_ (fun h => m_X6_pattern h 0 x y) (fun h => m_X7_pattern h 72 x y) := by
  intro vi ar pr hh hI
  show ∃ r, m_X6_pattern (wd_h vi ar pr hh) 0 x y = _ ∧ m_X7_pattern (wd_h vi ar pr hh) 72 x y = _
  obtain ⟨n, m, pl, dr, an, s, nd, hP, hL, hN, hS, hC⟩ := id hI
  rcases at_ (hh := hh) hL x with ⟨z1, z2⟩ | ⟨j, hj, rfl, -, -⟩
  · exact ⟨-1001, by rw [m_X6_pattern, wd_ck w0_ (by decide), gr_6_2 w0_, Option.bind_some, z1, Option.bind_some, om_n], by rw [m_X7_pattern, wd_ck w72 (by decide), z2, Option.bind_some, if_pos rfl]⟩
  · obtain ⟨r, e1, e2, -⟩ := pt_all (hh := hh) hL hj y
    exact ⟨r, e1, e2⟩
theorem ok_lets (x y : Int32) : OP_ (fun h => m_X6_lets h 0 x y) (fun h => m_X7_lets h 72 x y) := by
  intro vi ar pr hh hI
  show ∃ r, m_X6_lets (wd_h vi ar pr hh) 0 x y = _ ∧ m_X7_lets (wd_h vi ar pr hh) 72 x y = _
  obtain ⟨n, m, pl, dr, an, s, nd, hP, hL, hN, hS, hC⟩ := id hI
  have hm := hL.1
  rcases at_ (hh := hh) hL x with ⟨z1, z2⟩ | ⟨j, hj, rfl, z1, z2⟩
  · exact ⟨-1001, by rw [m_X6_lets, wd_ck w0_ (by decide), gr_6_2 w0_, Option.bind_some, z1, Option.bind_some, om_n], by rw [m_X7_lets, wd_ck w72 (by decide), z2, Option.bind_some, if_pos rfl]⟩
  · rw [m_X6_lets, wd_ck w0_ (by decide), gr_6_2 w0_, Option.bind_some, z1, Option.bind_some, om_s, m_X7_lets, wd_ck w72 (by decide), z2, Option.bind_some, if_neg (show ¬ (1 : Int32) = 0 by decide), wi_, Option.bind_some]
    rcases pk_ix y (n := 10) (by decide) with h0 | h1 | ⟨k, hk, rfl⟩
    · exact ⟨-1002, by rw [if_pos h0], by rw [if_pos h0, if_pos rfl]⟩
    · have h0 : ¬ y < 0 := fun z => absurd (Int32.lt_of_le_of_lt h1 z) (by decide)
      have h9 : 9 < y := Int32.lt_of_lt_of_le (by decide) h1
      exact ⟨-1002, by rw [if_neg h0, if_neg (show ¬ y < 10 from Int32.not_lt.mpr h1)], by rw [if_neg h0, if_pos h9, if_pos rfl]⟩
    · have h0 : ¬ nI k < 0 := nI_pos (by omega)
      exact ⟨ar (pr j + 1) k, by rw [if_neg h0, if_pos (show nI k < 10 from nI_lt (b := 10) hk (by omega)), pt_dig (hL.pa (by omega)) hk]; rfl, by rw [if_neg h0, if_neg (show ¬ 9 < nI k from nI_nlt (a := 9) (by omega) (by omega)), if_neg (show ¬ (1 : Int32) = 0 by decide), ml_lets hL hj hk]; rfl⟩
theorem ok_narrower (x y : Int32) : OP_ (fun h => m_X6_narrower h 0 x y) (fun h => m_X7_narrower h 72 x y) := by
  intro vi ar pr hh hI
  show ∃ r, m_X6_narrower (wd_h vi ar pr hh) 0 x y = _ ∧ m_X7_narrower (wd_h vi ar pr hh) 72 x y = _
  obtain ⟨n, m, pl, dr, an, s, nd, hP, hL, hN, hS, hC⟩ := id hI
  have hm := hL.1
  rw [m_X6_narrower, wd_ck w0_ (by decide), gr_6_2 w0_, Option.bind_some, m_X7_narrower, wd_ck w72 (by decide)]
  rcases at_ (hh := hh) hL y with ⟨y1, y2⟩ | ⟨k, hk, rfl, y1, y2⟩
  · rcases at_ (hh := hh) hL x with ⟨z1, z2⟩ | ⟨j, hj, rfl, z1, z2⟩
    · exact ⟨-1001, by rw [z1, Option.bind_some, Option.bind_some, y1, Option.bind_some, om_n], by rw [z2, Option.bind_some, if_pos rfl]⟩
    · exact ⟨-1001, by rw [z1, Option.bind_some, Option.bind_some, y1, Option.bind_some, om_s, om_n], by rw [z2, Option.bind_some, if_neg (show ¬ (1 : Int32) = 0 by decide), y2, Option.bind_some, if_pos rfl]⟩
  · rcases at_ (hh := hh) hL x with ⟨z1, z2⟩ | ⟨j, hj, rfl, z1, z2⟩
    · exact ⟨-1001, by rw [z1, Option.bind_some, Option.bind_some, y1, Option.bind_some, om_n], by rw [z2, Option.bind_some, if_pos rfl]⟩
    · have wj := (hL.2.2.2.2.2 j hj).1.w11
      have wk := (hL.2.2.2.2.2 k hk).1.w11
      have sy := cm_sym wj wk 10 0 (by omega)
      rw [z1, Option.bind_some, Option.bind_some, y1, Option.bind_some, om_s, om_s, pt_nar (hL.pa (by omega)) (hL.pa (by omega)) wj wk, Option.bind_some, pt_nar (hL.pa (by omega)) (hL.pa (by omega)) wk wj, Option.bind_some, z2, Option.bind_some, if_neg (show ¬ (1 : Int32) = 0 by decide), y2, Option.bind_some, if_neg (show ¬ (1 : Int32) = 0 by decide), ml_cmp hL hj hk, Option.bind_some]
      by_cases h1 : cm_ (ar (pr j + 2)) (ar (pr k + 2)) 10 0 < 0
      · exact ⟨0, by rw [if_pos h1, if_neg (show ¬ (1 : Int32) = 0 by decide)], by rw [if_neg (Int32.not_le.mpr h1)]⟩
      · rw [if_neg h1, if_pos rfl, if_pos (Int32.not_lt.mp h1)]
        by_cases h2 : cm_ (ar (pr k + 2)) (ar (pr j + 2)) 10 0 < 0
        · have ne : ¬ cm_ (ar (pr j + 2)) (ar (pr k + 2)) 10 0 ≤ 0 := fun z => (sy.mpr (Int32.le_antisymm z (Int32.not_lt.mp h1))).2 h2
          exact ⟨1, by rw [if_pos h2, if_neg (show ¬ (1 : Int32) = 0 by decide)], by rw [if_neg ne]⟩
        · exact ⟨2, by rw [if_neg h2, if_pos rfl], by rw [if_pos (Int32.le_of_eq (sy.mp ⟨h1, h2⟩))]⟩
theorem ok_clash (x : Int32) : OP_ (fun h => m_X6_clash h 0 x) (fun h => m_X7_clash h 72 x) := by
  intro vi ar pr hh hI
  obtain ⟨n, m, pl, dr, an, s, nd, hP, hL, hN, hS, hC⟩ := id hI
  exact ⟨_, pn_cs hL x, ml_cs hL x⟩
