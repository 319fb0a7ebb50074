/-! like and clash on both sides; the list of the pairs that clash -/
abbrev LK_ (vi ar : Nat → Nat → Int32) (p q n nq : Nat) : Prop := vi p 5 = vi q 5 ∧ vi p 6 = vi q 6 ∧ n = nq ∧ lk_ (ar (p + 4)) (ar (q + 4)) n 0 = true
def cb_ (vi ar : Nat → Nat → Int32) (p q pl n nq : Nat) : Bool := decide (cm_ (ar (p + 2)) (ar (q + 2)) 10 0 = 0) && (sh_ (ar (p + 1)) (ar (q + 1)) pl 0 && !decide (LK_ vi ar p q n nq))
theorem cb_iff {vi ar : Nat → Nat → Int32} {p q pl n nq : Nat} : cb_ vi ar p q pl n nq = true ↔ cf_ vi ar p q pl n nq := by
  unfold cb_ cf_
  simp only [Bool.and_eq_true, decide_eq_true_eq, Bool.not_eq_true', decide_eq_false_iff_not]
/-- the pairs (i, j ..) that clash, by their numbers; then those of the further i -/
def ci_ (c : Nat → Nat → Bool) (i : Nat) : Nat → Nat → List Int32
  | 0, _ => []
  | n + 1, j => if c i j = true then (16 * nI i + nI j) :: ci_ c i n (j + 1) else ci_ c i n (j + 1)
def co_ (c : Nat → Nat → Bool) (m : Nat) : Nat → Nat → List Int32
  | 0, _ => []
  | n + 1, i => ci_ c i (m - (i + 1)) (i + 1) ++ co_ c m n (i + 1)
theorem ci_len {c : Nat → Nat → Bool} {i : Nat} : ∀ n j, (ci_ c i n j).length ≤ n
  | 0, _ => by simp [ci_]
  | n + 1, j => by
    unfold ci_
    have := ci_len (c := c) (i := i) n (j + 1)
    split
    · rw [List.length_cons]; omega
    · omega
theorem co_len {c : Nat → Nat → Bool} {m : Nat} (hm : m ≤ 10) : ∀ n i, n + i = m → (co_ c m n i).length ≤ n * (n - 1) / 2 := by
  intro n
  induction n with
  | zero => intro i _; simp [co_]
  | succ n ih =>
    intro i hi
    unfold co_
    have h1 := ih (i + 1) (by omega)
    have h2 := ci_len (c := c) (i := i) (m - (i + 1)) (i + 1)
    rw [List.length_append]
    have hn : n ≤ 9 := by omega
    have : m - (i + 1) = n := by omega
    rw [this] at h2
    have key : ∀ n, n ≤ 9 → n + n * (n - 1) / 2 ≤ (n + 1) * (n + 1 - 1) / 2 := by decide
    have := key n hn
    rw [show m - (i + 1) = n by omega]
    omega
theorem co_45 {c : Nat → Nat → Bool} {m : Nat} (hm : m ≤ 10) : (co_ c m m 0).length ≤ 45 := by
  have h := co_len (c := c) hm m 0 (by omega)
  have key : ∀ n, n ≤ 10 → n * (n - 1) / 2 ≤ 45 := by decide
  have := key m hm
  omega
theorem ci_ne {c : Nat → Nat → Bool} {i : Nat} (hi : i < 10) : ∀ n j, j + n ≤ 10 → ∀ x ∈ ci_ c i n j, ∃ v : Nat, v < 200 ∧ x = nI v
  | 0, _, _, x, hx => by simp [ci_] at hx
  | n + 1, j, hj, x, hx => by
    unfold ci_ at hx
    split at hx
    · rcases List.mem_cons.mp hx with rfl | hx
      · exact ⟨16 * i + j, by omega, by rw [show (16 : Int32) = nI 16 from rfl, pk_mul, nI_add]⟩
      · exact ci_ne hi n (j + 1) (by omega) x hx
    · exact ci_ne hi n (j + 1) (by omega) x hx
theorem co_ne {c : Nat → Nat → Bool} {m : Nat} (hm : m ≤ 10) : ∀ n i, n + i = m → ∀ x ∈ co_ c m n i, ∃ v : Nat, v < 200 ∧ x = nI v := by
  intro n
  induction n with
  | zero => intro i _ x hx; simp [co_] at hx
  | succ n ih =>
    intro i hi x hx
    unfold co_ at hx
    rcases List.mem_append.mp hx with h | h
    · exact ci_ne (by omega) _ _ (by omega) x h
    · exact ih (i + 1) (by omega) x h
section CL
variable {vi ar : Nat → Nat → Int32} {pr : Nat → Nat} {hh : Int64} {m : Nat} {pl dr an : Nat → Nat}
def cc_ (vi ar : Nat → Nat → Int32) (pr : Nat → Nat) (pl an : Nat → Nat) (i j : Nat) : Bool := cb_ vi ar (pr i) (pr j) (pl i) (an i) (an j)
theorem ml_like (h : PL_ vi ar pr m pl dr an) {i j : Nat} (hi : i < m) (hj : j < m) : m_X7_areLike (wd_h vi ar pr hh) 72 (nI i) (nI j) = some (if LK_ vi ar (pr i) (pr j) (an i) (an j) then 1 else 0) := by
  have hm10 := h.1
  obtain ⟨⟨-, -, -, -, -, i6, i7, -, i4, i9, -, -⟩, -, -, i77, i78, i79, -, -⟩ := h.2.2.2.2.2 i hi
  obtain ⟨⟨-, -, -, -, -, j6, j7, -, j4, j9, -, -⟩, -, -, j77, j78, j79, -, -⟩ := h.2.2.2.2.2 j hj
  rw [m_X7_areLike, wd_ck w72 (by decide), gr_7_6 w72, Option.bind_some, rd_77 (by omega), Option.bind_some, Option.bind_some, rd_77 (by omega), Option.bind_some, i77, j77]
  have e0 : b_X7_areLike_50 (wd_h vi ar pr hh) 72 (nI i) (nI j) 0 = some 0 := by rw [b_X7_areLike_50, if_pos rfl]
  rw [e0]
  by_cases h1 : vi (pr i) 5 = vi (pr j) 5
  · rw [if_pos h1, gr_7_7 w72, Option.bind_some, rd_78 (by omega), Option.bind_some, Option.bind_some, rd_78 (by omega), Option.bind_some, i78, j78]
    by_cases h2 : vi (pr i) 6 = vi (pr j) 6
    · rw [if_pos (by rw [← i6, ← j6]; exact h2), gr_7_8 w72, Option.bind_some, rd_79 (by omega), Option.bind_some, Option.bind_some, rd_79 (by omega), Option.bind_some, i79, j79]
      by_cases h3 : an i = an j
      · rw [if_pos (by rw [h3]), b_X7_areLike_50, if_neg (by decide), ml_num h hi, Option.bind_some, ml_num h hj, Option.bind_some, ← h3]
        by_cases h4 : lk_ (ar (pr i + 4)) (ar (pr j + 4)) (an i) 0 = true
        · rw [if_pos ((an_inj i4 i9 (by rw [h3]; exact j9)).mpr h4), if_pos ⟨h1, h2, rfl, h4⟩]
        · rw [if_neg (fun z => h4 ((an_inj i4 i9 (by rw [h3]; exact j9)).mp z)), if_neg (fun z => h4 z.2.2.2)]
      · rw [if_neg (by rw [nI_eq (by omega) (by omega)]; exact h3), if_neg (fun z => h3 z.2.2.1)]
    · rw [if_neg (by rw [← i6, ← j6]; exact h2), if_neg (fun z => h2 z.2.1)]
  · rw [if_neg h1, if_neg (fun z => h1 z.1)]
theorem ml_cl_l (h : PL_ vi ar pr m pl dr an) {i j : Nat} (hi : i < m) (hj : j < m) : ∀ (f k : Nat), k ≤ pl i → 10 < f + k → m_X7_isClash_27 (wd_h vi ar pr hh) f 72 (nI i) (nI j) 1 (nI k) = some (if sh_ (ar (pr i + 1)) (ar (pr j + 1)) (pl i - k) k = true then 1 else 0) := by
  have hm10 := h.1
  obtain ⟨⟨-, p1, p8, -, -, -, -, -, -, -, -, -⟩, i74, -⟩ := h.2.2.2.2.2 i hi
  intro f
  induction f with
  | zero => intro k h1 h2; omega
  | succ f ih =>
    intro k h1 h2
    show b_X7_isClash_27 (wd_h vi ar pr hh) (m_X7_isClash_27 (wd_h vi ar pr hh) f) 72 (nI i) (nI j) 1 (nI k) = _
    unfold b_X7_isClash_27
    rw [gr_7_3 w72, Option.bind_some, rd_74 (by omega), i74, Option.bind_some]
    by_cases hin : k < pl i
    · rw [if_neg (by rw [nI_leI (by omega) (by omega)]; omega), if_neg (by decide), ml_lets h hi (by omega), Option.bind_some, ml_lets h hj (by omega), Option.bind_some, show pl i - k = (pl i - (k + 1)) + 1 by omega, sh_]
      by_cases hz : (ar (pr i + 1) k &&& ar (pr j + 1) k) = 0
      · rw [if_pos hz, if_pos hz]
        cases f with
        | zero => omega
        | succ f =>
          show b_X7_isClash_27 (wd_h vi ar pr hh) (m_X7_isClash_27 (wd_h vi ar pr hh) f) 72 (nI i) (nI j) 0 (nI k + 1) = _
          unfold b_X7_isClash_27
          rw [gr_7_3 w72, Option.bind_some, rd_74 (by omega), i74, Option.bind_some]
          by_cases hq : nI (pl i) ≤ nI k + 1
          · rw [if_pos hq]; rfl
          · rw [if_neg hq, if_pos rfl]; rfl
      · rw [if_neg hz, if_neg hz, nI_1, ih (k + 1) (by omega) (by omega)]
    · rw [if_pos (by rw [nI_leI (by omega) (by omega)]; omega), show pl i - k = 0 by omega]; rfl
theorem ml_clash (h : PL_ vi ar pr m pl dr an) {i j : Nat} (hi : i < m) (hj : j < m) : m_X7_isClash (wd_h vi ar pr hh) 72 (nI i) (nI j) = some (if cc_ vi ar pr pl an i j = true then 1 else 0) := by
  have hm10 := h.1
  obtain ⟨⟨-, p1, p8, -⟩, i74, -⟩ := h.2.2.2.2.2 i hi
  have e0 : m_X7_isClash_27 (wd_h vi ar pr hh) 64 72 (nI i) (nI j) 0 0 = some 0 := by
    show b_X7_isClash_27 (wd_h vi ar pr hh) (m_X7_isClash_27 (wd_h vi ar pr hh) 63) 72 (nI i) (nI j) 0 (nI 0) = _
    unfold b_X7_isClash_27
    rw [gr_7_3 w72, Option.bind_some, rd_74 (by omega), i74, Option.bind_some, if_neg (by rw [nI_leI (by omega) (by omega)]; omega), if_pos rfl]; rfl
  have e1 : m_X7_isClash_27 (wd_h vi ar pr hh) 64 72 (nI i) (nI j) 1 0 = _ := ml_cl_l h hi hj 64 0 (by omega) (by omega)
  rw [m_X7_isClash, wd_ck w72 (by decide), ml_cmp h hi hj, Option.bind_some, ml_like h hi hj, e0, e1]
  unfold cc_ cb_
  by_cases h1 : cm_ (ar (pr i + 2)) (ar (pr j + 2)) 10 0 = 0
  · rw [if_pos h1, Option.bind_some]
    by_cases h2 : LK_ vi ar (pr i) (pr j) (an i) (an j)
    · rw [if_pos h2, if_neg (by decide), show decide (LK_ vi ar (pr i) (pr j) (an i) (an j)) = true from decide_eq_true h2]
      simp
    · rw [if_neg h2, if_pos rfl]
      by_cases h3 : sh_ (ar (pr i + 1)) (ar (pr j + 1)) (pl i) 0 = true
      · simp [h1, h2, h3]
      · simp [h1, h2, h3]
  · rw [if_neg h1]
    simp [h1]
theorem pn_at (h : PL_ vi ar pr m pl dr an) {i : Nat} (hi : i < 2 ^ 31) : m_X3_at (wd_h vi ar pr hh) 9 (nI i) = some (if i < m then some (pr i) else none) := by
  have hm10 := h.1
  rw [m_X3_at, wd_ck (c := 3) rfl (by decide), if_neg (nI_pos hi), gi_3_1 rfl, h.2.1, Option.bind_some]
  by_cases hin : i < m
  · rw [if_neg (by rw [nI_leI (by omega) (by omega)]; omega), gr_3_0 rfl, Option.bind_some, wd_ln10, Option.bind_some, if_neg (by show ¬ nI 10 ≤ nI i; rw [nI_leI (by omega) (by omega)]; omega), Option.bind_some, wd_ar (by omega), if_pos hin]; rfl
  · rw [if_pos (by rw [nI_leI (by omega) (by omega)]; omega), if_neg hin]
theorem pn_neg {x : Int32} (hx : x < 0) : m_X3_at (wd_h vi ar pr hh) 9 x = some none := by
  rw [m_X3_at, wd_ck (c := 3) rfl (by decide), if_pos hx]
theorem pn_size (h : PL_ vi ar pr m pl dr an) : m_X3_size (wd_h vi ar pr hh) 9 = some (nI m) := by
  rw [m_X3_size, wd_ck (c := 3) rfl (by decide), gi_3_1 rfl, h.2.1]; rfl
theorem pn_clash (h : PL_ vi ar pr m pl dr an) {i j : Nat} (hi : i < m) (hj : j < m) : m_X3_isClash (wd_h vi ar pr hh) 9 (nI i) (nI j) = some (if cc_ vi ar pr pl an i j = true then 1 else 0) := by
  have hm10 := h.1
  have wi := (h.2.2.2.2.2 i hi).1
  have wj := (h.2.2.2.2.2 j hj).1
  rw [m_X3_isClash, wd_ck (c := 3) rfl (by decide), pn_at h (by omega), Option.bind_some, pn_at h (by omega), Option.bind_some, if_pos hi, if_pos hj]
  show (m_X1_clashesWith (wd_h vi ar pr hh) (pr i) (pr j)).bind _ = _
  rcases pt_clash (vi := vi) (ar := ar) (pr := pr) (hh := hh) (h.pa (i := i) (by omega)) (h.pa (i := j) (by omega)) wi.w11 wj.w11 wi.1 wi.2.2.1 wi.2.2.2.2.2.2.2.1 wi.2.2.2.2.2.2.2.2.1 wj.2.2.2.2.2.2.2.1 wj.2.2.2.2.2.2.2.2.1 with ⟨c1, c2⟩ | ⟨c1, c2⟩
  · rw [c2, Option.bind_some, if_neg (by decide), if_pos (show cc_ vi ar pr pl an i j = true from cb_iff.mpr c1)]
  · rw [c2, Option.bind_some, if_pos rfl, if_neg (show ¬ cc_ vi ar pr pl an i j = true from fun z => c1 (cb_iff.mp z))]
/-! the class: clash(place), clashes() -/
theorem pn_cs_i (h : PL_ vi ar pr m pl dr an) {i : Nat} (hi : i < m) {k4 : Nat → Int32 → Int32 → Option Int32} : ∀ (f j q : Nat), j ≤ m → m < f + j → i < j → q < 2 ^ 31 → m_X6_clash_24 (wd_h vi ar pr hh) k4 f 0 (nI q) (nI i) (nI j) = (match (ci_ (cc_ vi ar pr pl an) i (m - j) j)[q]? with | some x => some x | none => k4 0 (nI (q - (ci_ (cc_ vi ar pr pl an) i (m - j) j).length)) (nI (i + 1))) := by
  have hm10 := h.1
  intro f
  induction f with
  | zero => intro j q h1 h2; omega
  | succ f ih =>
    intro j q h1 h2 h3 h4
    show b_X6_clash_24 (wd_h vi ar pr hh) k4 (m_X6_clash_24 (wd_h vi ar pr hh) k4 f) 0 (nI q) (nI i) (nI j) = _
    unfold b_X6_clash_24
    rw [gr_6_2 rfl, Option.bind_some, pn_size h, Option.bind_some]
    by_cases hin : j < m
    · rw [if_neg (by rw [nI_leI (by omega) (by omega)]; omega), Option.bind_some, pn_clash h hi hin, Option.bind_some, show m - j = (m - (j + 1)) + 1 by omega, ci_]
      by_cases hc : cc_ vi ar pr pl an i j = true
      · rw [if_pos hc, if_neg (by decide), if_pos hc]
        by_cases hq : q = 0
        · subst hq
          rw [if_pos (show nI 0 = 0 from rfl)]; rfl
        · rw [if_neg (by show ¬ nI q = nI 0; rw [nI_eq (by omega) (by omega)]; exact hq), nI_1]
          obtain ⟨q, rfl⟩ : ∃ z, q = z + 1 := ⟨q - 1, by omega⟩
          rw [pk_m1, ih (j + 1) q (by omega) (by omega) (by omega) (by omega), List.getElem?_cons_succ, List.length_cons, Nat.add_sub_add_right]
      · rw [if_neg hc, if_pos rfl, if_neg hc, nI_1, ih (j + 1) q (by omega) (by omega) (by omega) h4]
    · rw [if_pos (by rw [nI_leI (by omega) (by omega)]; omega), show m - j = 0 by omega, nI_1]; rfl
theorem pn_cs_o (h : PL_ vi ar pr m pl dr an) : ∀ (f i q : Nat), i ≤ m → m < f + i → q < 2 ^ 31 → m_X6_clash_4 (wd_h vi ar pr hh) f 0 (nI q) (nI i) = some (((co_ (cc_ vi ar pr pl an) m (m - i) i)[q]?).getD (-1001)) := by
  have hm10 := h.1
  intro f
  induction f with
  | zero => intro i q h1 h2; omega
  | succ f ih =>
    intro i q h1 h2 h3
    show b_X6_clash_4 (wd_h vi ar pr hh) (m_X6_clash_4 (wd_h vi ar pr hh) f) 0 (nI q) (nI i) = _
    unfold b_X6_clash_4
    rw [gr_6_2 rfl, Option.bind_some, pn_size h, Option.bind_some]
    by_cases hin : i < m
    · rw [if_neg (by rw [nI_leI (by omega) (by omega)]; omega), if_neg (nI_pos h3), nI_1, pn_cs_i h hin 64 (i + 1) q (by omega) (by omega) (by omega) h3, show m - i = (m - (i + 1)) + 1 by omega, co_, List.getElem?_append]
      by_cases hq : q < (ci_ (cc_ vi ar pr pl an) i (m - (i + 1)) (i + 1)).length
      · rw [if_pos hq, List.getElem?_eq_getElem hq]; rfl
      · rw [if_neg hq, List.getElem?_eq_none (by omega)]
        exact ih (i + 1) _ (by omega) (by omega) (by omega)
    · rw [if_pos (by rw [nI_leI (by omega) (by omega)]; omega), show m - i = 0 by omega]; rfl
theorem pn_cs (h : PL_ vi ar pr m pl dr an) (x : Int32) : m_X6_clash (wd_h vi ar pr hh) 0 x = some (if x < 0 then -1001 else ((co_ (cc_ vi ar pr pl an) m m 0)[x.toNatClampNeg]?).getD (-1001)) := by
  have hm10 := h.1
  rw [m_X6_clash, wd_ck (c := 6) rfl (by decide)]
  by_cases hx : x < 0
  · rw [if_pos hx]
    show b_X6_clash_4 (wd_h vi ar pr hh) (m_X6_clash_4 (wd_h vi ar pr hh) 63) 0 x 0 = _
    unfold b_X6_clash_4
    rw [gr_6_2 rfl, Option.bind_some, pn_size h, Option.bind_some, if_pos hx]
    split <;> rfl
  · rw [if_neg hx]
    obtain ⟨q, hq, rfl⟩ := nI_of hx
    rw [nI_clamp hq]
    exact pn_cs_o h 64 0 q (by omega) (by omega) hq
theorem pn_cn_i (h : PL_ vi ar pr m pl dr an) {i : Nat} (hi : i < m) {k4 : Nat → Int32 → Int32 → Option Int32} : ∀ (f j q : Nat), j ≤ m → m < f + j → m_X3_clashes_16 (wd_h vi ar pr hh) k4 f 9 (nI q) (nI i) (nI j) = k4 9 (nI (q + (ci_ (cc_ vi ar pr pl an) i (m - j) j).length)) (nI (i + 1)) := by
  have hm10 := h.1
  intro f
  induction f with
  | zero => intro j q h1 h2; omega
  | succ f ih =>
    intro j q h1 h2
    show b_X3_clashes_16 (wd_h vi ar pr hh) k4 (m_X3_clashes_16 (wd_h vi ar pr hh) k4 f) 9 (nI q) (nI i) (nI j) = _
    unfold b_X3_clashes_16
    rw [gi_3_1 rfl, h.2.1, Option.bind_some]
    by_cases hin : j < m
    · rw [if_neg (by rw [nI_leI (by omega) (by omega)]; omega), pn_clash h hi hin, Option.bind_some, show m - j = (m - (j + 1)) + 1 by omega, ci_]
      by_cases hc : cc_ vi ar pr pl an i j = true
      · rw [if_pos hc, if_neg (by decide), if_pos hc, nI_1, nI_1, ih (j + 1) (q + 1) (by omega) (by omega), List.length_cons, show q + 1 + (ci_ (cc_ vi ar pr pl an) i (m - (j + 1)) (j + 1)).length = q + ((ci_ (cc_ vi ar pr pl an) i (m - (j + 1)) (j + 1)).length + 1) by omega]
      · rw [if_neg hc, if_pos rfl, if_neg hc, nI_1, ih (j + 1) q (by omega) (by omega)]
    · rw [if_pos (by rw [nI_leI (by omega) (by omega)]; omega), show m - j = 0 by omega, nI_1]; rfl
theorem pn_cn_o (h : PL_ vi ar pr m pl dr an) : ∀ (f i q : Nat), i ≤ m → m < f + i → m_X3_clashes_4 (wd_h vi ar pr hh) f 9 (nI q) (nI i) = some (nI (q + (co_ (cc_ vi ar pr pl an) m (m - i) i).length)) := by
  have hm10 := h.1
  intro f
  induction f with
  | zero => intro i q h1 h2; omega
  | succ f ih =>
    intro i q h1 h2
    show b_X3_clashes_4 (wd_h vi ar pr hh) (m_X3_clashes_4 (wd_h vi ar pr hh) f) 9 (nI q) (nI i) = _
    unfold b_X3_clashes_4
    rw [gi_3_1 rfl, h.2.1, Option.bind_some]
    by_cases hin : i < m
    · rw [if_neg (by rw [nI_leI (by omega) (by omega)]; omega), nI_1, pn_cn_i h hin 64 (i + 1) q (by omega) (by omega), ih (i + 1) _ (by omega) (by omega), show m - i = (m - (i + 1)) + 1 by omega, co_, List.length_append, Nat.add_assoc]
    · rw [if_pos (by rw [nI_leI (by omega) (by omega)]; omega), show m - i = 0 by omega]; rfl
theorem pn_cn (h : PL_ vi ar pr m pl dr an) : m_X3_clashes (wd_h vi ar pr hh) 9 = some (nI (co_ (cc_ vi ar pr pl an) m m 0).length) := by
  have hm10 := h.1
  rw [m_X3_clashes, wd_ck (c := 3) rfl (by decide)]
  have := pn_cn_o (hh := hh) h 64 0 0 (by omega) (by omega)
  rw [Nat.zero_add] at this
  exact this
/-! the reference: clashAt(place), clashes() -/
theorem ml_cs_i (h : PL_ vi ar pr m pl dr an) {i : Nat} (hi : i < m) {k4 : Nat → Int32 → Int32 → Option Int32} : ∀ (f j q : Nat), j ≤ m → m < f + j → i < j → q < 2 ^ 31 → m_X7_clashAt_21 (wd_h vi ar pr hh) k4 f 72 (nI q) (nI i) (nI j) = (match (ci_ (cc_ vi ar pr pl an) i (m - j) j)[q]? with | some x => some x | none => k4 72 (nI (q - (ci_ (cc_ vi ar pr pl an) i (m - j) j).length)) (nI (i + 1))) := by
  have hm10 := h.1
  intro f
  induction f with
  | zero => intro j q h1 h2; omega
  | succ f ih =>
    intro j q h1 h2 h3 h4
    show b_X7_clashAt_21 (wd_h vi ar pr hh) k4 (m_X7_clashAt_21 (wd_h vi ar pr hh) k4 f) 72 (nI q) (nI i) (nI j) = _
    unfold b_X7_clashAt_21
    rw [gi_7_2 w72, h.2.2.1, Option.bind_some]
    by_cases hin : j < m
    · rw [if_neg (by rw [nI_leI (by omega) (by omega)]; omega), ml_clash h hi hin, Option.bind_some, show m - j = (m - (j + 1)) + 1 by omega, ci_]
      by_cases hc : cc_ vi ar pr pl an i j = true
      · rw [if_pos hc, if_neg (by decide), if_pos hc]
        by_cases hq : q = 0
        · subst hq
          rw [if_pos (show nI 0 = 0 from rfl)]; rfl
        · rw [if_neg (by show ¬ nI q = nI 0; rw [nI_eq (by omega) (by omega)]; exact hq), nI_1]
          obtain ⟨q, rfl⟩ : ∃ z, q = z + 1 := ⟨q - 1, by omega⟩
          rw [pk_m1, ih (j + 1) q (by omega) (by omega) (by omega) (by omega), List.getElem?_cons_succ, List.length_cons, Nat.add_sub_add_right]
      · rw [if_neg hc, if_pos rfl, if_neg hc, nI_1, ih (j + 1) q (by omega) (by omega) (by omega) h4]
    · rw [if_pos (by rw [nI_leI (by omega) (by omega)]; omega), show m - j = 0 by omega, nI_1]; rfl
theorem ml_cs_o (h : PL_ vi ar pr m pl dr an) : ∀ (f i q : Nat), i ≤ m → m < f + i → q < 2 ^ 31 → m_X7_clashAt_4 (wd_h vi ar pr hh) f 72 (nI q) (nI i) = some (((co_ (cc_ vi ar pr pl an) m (m - i) i)[q]?).getD (-1)) := by
  have hm10 := h.1
  intro f
  induction f with
  | zero => intro i q h1 h2; omega
  | succ f ih =>
    intro i q h1 h2 h3
    show b_X7_clashAt_4 (wd_h vi ar pr hh) (m_X7_clashAt_4 (wd_h vi ar pr hh) f) 72 (nI q) (nI i) = _
    unfold b_X7_clashAt_4
    rw [gi_7_2 w72, h.2.2.1, Option.bind_some]
    by_cases hin : i < m
    · rw [if_neg (by rw [nI_leI (by omega) (by omega)]; omega), if_neg (nI_pos h3), nI_1, ml_cs_i h hin 64 (i + 1) q (by omega) (by omega) (by omega) h3, show m - i = (m - (i + 1)) + 1 by omega, co_, List.getElem?_append]
      by_cases hq : q < (ci_ (cc_ vi ar pr pl an) i (m - (i + 1)) (i + 1)).length
      · rw [if_pos hq, List.getElem?_eq_getElem hq]; rfl
      · rw [if_neg hq, List.getElem?_eq_none (by omega)]
        exact ih (i + 1) _ (by omega) (by omega) (by omega)
    · rw [if_pos (by rw [nI_leI (by omega) (by omega)]; omega), show m - i = 0 by omega]; rfl
theorem ml_cat (h : PL_ vi ar pr m pl dr an) {q : Nat} (hq : q < 2 ^ 31) : m_X7_clashAt (wd_h vi ar pr hh) 72 (nI q) = some (((co_ (cc_ vi ar pr pl an) m m 0)[q]?).getD (-1)) := by
  have hm10 := h.1
  rw [m_X7_clashAt, wd_ck w72 (by decide)]
  exact ml_cs_o h 64 0 q (by omega) (by omega) hq
theorem ml_cs (h : PL_ vi ar pr m pl dr an) (x : Int32) : m_X7_clash (wd_h vi ar pr hh) 72 x = some (if x < 0 then -1001 else ((co_ (cc_ vi ar pr pl an) m m 0)[x.toNatClampNeg]?).getD (-1001)) := by
  have hm10 := h.1
  rw [m_X7_clash, wd_ck w72 (by decide)]
  by_cases hx : x < 0
  · have e : m_X7_clashAt (wd_h vi ar pr hh) 72 x = some (-1) := by
      rw [m_X7_clashAt, wd_ck w72 (by decide)]
      show b_X7_clashAt_4 (wd_h vi ar pr hh) (m_X7_clashAt_4 (wd_h vi ar pr hh) 63) 72 x 0 = _
      unfold b_X7_clashAt_4
      rw [gi_7_2 w72, h.2.2.1, Option.bind_some, if_pos hx]
      split <;> rfl
    rw [e, Option.bind_some, if_pos rfl, if_pos hx]
  · rw [if_neg hx]
    obtain ⟨q, hq, rfl⟩ := nI_of hx
    rw [nI_clamp hq, ml_cat h hq, Option.bind_some]
    cases e : (co_ (cc_ vi ar pr pl an) m m 0)[q]? with
    | none => rfl
    | some x =>
      obtain ⟨v, hv, rfl⟩ := co_ne (c := cc_ vi ar pr pl an) hm10 m 0 (by omega) x (List.mem_of_getElem? e)
      show (if nI v = -1 then some (-1001) else some (nI v)) = some (nI v)
      rw [if_neg]
      intro z
      have := nI_pos (n := v) (by omega)
      rw [z] at this
      exact this (by decide)
theorem ml_cn_i (h : PL_ vi ar pr m pl dr an) {i : Nat} (hi : i < m) {k4 : Nat → Int32 → Int32 → Option Int32} : ∀ (f j q : Nat), j ≤ m → m < f + j → m_X7_clashes_16 (wd_h vi ar pr hh) k4 f 72 (nI q) (nI i) (nI j) = k4 72 (nI (q + (ci_ (cc_ vi ar pr pl an) i (m - j) j).length)) (nI (i + 1)) := by
  have hm10 := h.1
  intro f
  induction f with
  | zero => intro j q h1 h2; omega
  | succ f ih =>
    intro j q h1 h2
    show b_X7_clashes_16 (wd_h vi ar pr hh) k4 (m_X7_clashes_16 (wd_h vi ar pr hh) k4 f) 72 (nI q) (nI i) (nI j) = _
    unfold b_X7_clashes_16
    rw [gi_7_2 w72, h.2.2.1, Option.bind_some]
    by_cases hin : j < m
    · rw [if_neg (by rw [nI_leI (by omega) (by omega)]; omega), ml_clash h hi hin, Option.bind_some, show m - j = (m - (j + 1)) + 1 by omega, ci_]
      by_cases hc : cc_ vi ar pr pl an i j = true
      · rw [if_pos hc, if_neg (by decide), if_pos hc, nI_1, nI_1, ih (j + 1) (q + 1) (by omega) (by omega), List.length_cons, show q + 1 + (ci_ (cc_ vi ar pr pl an) i (m - (j + 1)) (j + 1)).length = q + ((ci_ (cc_ vi ar pr pl an) i (m - (j + 1)) (j + 1)).length + 1) by omega]
      · rw [if_neg hc, if_pos rfl, if_neg hc, nI_1, show nI q + 0 = nI q by rw [show (0 : Int32) = nI 0 from rfl, nI_add]; rfl, ih (j + 1) q (by omega) (by omega)]
    · rw [if_pos (by rw [nI_leI (by omega) (by omega)]; omega), show m - j = 0 by omega, nI_1]; rfl
theorem ml_cn_o (h : PL_ vi ar pr m pl dr an) : ∀ (f i q : Nat), i ≤ m → m < f + i → m_X7_clashes_4 (wd_h vi ar pr hh) f 72 (nI q) (nI i) = some (nI (q + (co_ (cc_ vi ar pr pl an) m (m - i) i).length)) := by
  have hm10 := h.1
  intro f
  induction f with
  | zero => intro i q h1 h2; omega
  | succ f ih =>
    intro i q h1 h2
    show b_X7_clashes_4 (wd_h vi ar pr hh) (m_X7_clashes_4 (wd_h vi ar pr hh) f) 72 (nI q) (nI i) = _
    unfold b_X7_clashes_4
    rw [gi_7_2 w72, h.2.2.1, Option.bind_some]
    by_cases hin : i < m
    · rw [if_neg (by rw [nI_leI (by omega) (by omega)]; omega), nI_1, ml_cn_i h hin 64 (i + 1) q (by omega) (by omega), ih (i + 1) _ (by omega) (by omega), show m - i = (m - (i + 1)) + 1 by omega, co_, List.length_append, Nat.add_assoc]
    · rw [if_pos (by rw [nI_leI (by omega) (by omega)]; omega), show m - i = 0 by omega]; rfl
theorem ml_cn (h : PL_ vi ar pr m pl dr an) : m_X7_clashes (wd_h vi ar pr hh) 72 = some (nI (co_ (cc_ vi ar pr pl an) m m 0).length) := by
  have hm10 := h.1
  rw [m_X7_clashes, wd_ck w72 (by decide)]
  have := ml_cn_o (hh := hh) h 64 0 0 (by omega) (by omega)
  rw [Nat.zero_add] at this
  exact this
end CL
