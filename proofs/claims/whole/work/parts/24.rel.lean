/-! how the patterns of class and reference belong together -/
/-- a pattern of the class that is well: its places, drop, how many ahead -/
def pw_ (vi ar : Nat → Nat → Int32) (p pl dr an : Nat) : Prop :=
  vi p 3 = nI pl ∧ 1 ≤ pl ∧ pl ≤ 8 ∧ (vi p 4 = 0 ∨ vi p 4 = 1) ∧ (∃ w : Nat, w ≤ 10 ∧ vi p 5 = nI w) ∧ vi p 6 = nI dr ∧ dr ≤ pl ∧ vi (p + 3) 1 = nI an ∧ an ≤ 4 ∧ sm_ 9 (ar (p + 4)) an ∧
  (∀ k, k < pl → ∃ lo hi : Nat, lo ≤ hi ∧ hi < 10 ∧ ar (p + 1) k = mk_ lo hi ∧ ar (p + 2) k = nI (hi - lo + 1)) ∧
  (∀ k, pl ≤ k → k < 10 → ar (p + 1) k = (if vi p 4 = 0 then 0 else 1023) ∧ ar (p + 2) k = (if vi p 4 = 0 then 0 else 11))
/-- the reference's pattern i is the class's at p -/
def pm_ (vi ar : Nat → Nat → Int32) (p i pl dr an : Nat) : Prop :=
  ar 74 i = nI pl ∧ ar 75 i = vi p 4 ∧ ar 77 i = vi p 5 ∧ ar 78 i = nI dr ∧ ar 79 i = nI an ∧ (∀ k, k < pl → ar 76 (8 * i + k) = ar (p + 1) k) ∧ (∀ k, k < an → ar 80 (4 * i + k) = ar (p + 4) k)
def PL_ (vi ar : Nat → Nat → Int32) (pr : Nat → Nat) (m : Nat) (pl dr an : Nat → Nat) : Prop :=
  m ≤ 10 ∧ vi 9 1 = nI m ∧ vi 72 2 = nI m ∧ (∀ i, ∃ j, j < 10 ∧ pr i = 11 + 5 * j) ∧ (∀ i j, i < 10 → j < 10 → pr i = pr j → i = j) ∧ ∀ i, i < m → pw_ vi ar (pr i) (pl i) (dr i) (an i) ∧ pm_ vi ar (pr i) i (pl i) (dr i) (an i)
theorem Pa_j {j : Nat} (h : j < 10) : Pa_ (11 + 5 * j) := by
  have : ∀ j, j < 10 → wd_k (11 + 5 * j) = 1 ∧ wd_k (11 + 5 * j + 1) = 110 ∧ wd_k (11 + 5 * j + 2) = 110 ∧ wd_k (11 + 5 * j + 3) = 5 ∧ wd_k (11 + 5 * j + 4) = 104 := by decide +kernel
  exact this j h
theorem Pa_4 : Pa_ 4 := by
  have : wd_k 4 = 1 ∧ wd_k (4 + 1) = 110 ∧ wd_k (4 + 2) = 110 ∧ wd_k (4 + 3) = 5 ∧ wd_k (4 + 4) = 104 := by decide +kernel
  exact this
section PLS
variable {vi ar : Nat → Nat → Int32} {pr : Nat → Nat} {hh : Int64} {m : Nat} {pl dr an : Nat → Nat}
theorem PL_.pa (h : PL_ vi ar pr m pl dr an) {i : Nat} (hi : i < 10) : Pa_ (pr i) := by
  obtain ⟨j, hj, e⟩ := h.2.2.2.1 i
  rw [e]
  exact Pa_j hj
theorem PL_.lo (h : PL_ vi ar pr m pl dr an) {i : Nat} (hi : i < 10) : 11 ≤ pr i ∧ pr i + 4 < 61 := by
  obtain ⟨j, hj, e⟩ := h.2.2.2.1 i
  omega
theorem PL_.lo' (h : PL_ vi ar pr m pl dr an) (i : Nat) : 11 ≤ pr i ∧ pr i + 4 < 61 := by
  obtain ⟨j, hj, e⟩ := h.2.2.2.1 i
  omega
theorem pw_.w11 {p pl dr an : Nat} (h : pw_ vi ar p pl dr an) : sm_ 11 (ar (p + 2)) 10 := by
  intro k hk
  by_cases hl : k < pl
  · obtain ⟨lo, hi, h1, h2, -, h3⟩ := h.2.2.2.2.2.2.2.2.2.2.1 k hl
    exact ⟨hi - lo + 1, by omega, h3⟩
  · rw [(h.2.2.2.2.2.2.2.2.2.2.2 k (by omega) hk).2]
    by_cases ho : vi p 4 = 0
    · rw [if_pos ho]
      exact ⟨0, by omega, rfl⟩
    · rw [if_neg ho]
      exact ⟨11, by omega, rfl⟩
/-- it stays, if what it speaks of stays -/
theorem PL_.fr {vi' ar' : Nat → Nat → Int32} (h : PL_ vi ar pr m pl dr an) (h9 : vi' 9 1 = vi 9 1) (h72 : vi' 72 2 = vi 72 2) (hv : ∀ a, 11 ≤ a → a < 61 → vi' a = vi a) (ha : ∀ a, 11 ≤ a → a < 61 → ar' a = ar a) (hm : ∀ a, 74 ≤ a → a < 81 → ar' a = ar a) : PL_ vi' ar' pr m pl dr an := by
  refine ⟨h.1, h9.trans h.2.1, h72.trans h.2.2.1, h.2.2.2.1, h.2.2.2.2.1, fun i hi => ?_⟩
  have hm10 := h.1
  obtain ⟨l1, l2⟩ := h.lo (i := i) (by omega)
  obtain ⟨w, q⟩ := h.2.2.2.2.2 i hi
  have e0 : vi' (pr i) = vi (pr i) := hv _ (by omega) (by omega)
  have e3 : vi' (pr i + 3) = vi (pr i + 3) := hv _ (by omega) (by omega)
  have a1 : ar' (pr i + 1) = ar (pr i + 1) := ha _ (by omega) (by omega)
  have a2 : ar' (pr i + 2) = ar (pr i + 2) := ha _ (by omega) (by omega)
  have a4 : ar' (pr i + 4) = ar (pr i + 4) := ha _ (by omega) (by omega)
  unfold pw_ pm_
  rw [e0, e3, a1, a2, a4, hm 74 (by omega) (by omega), hm 75 (by omega) (by omega), hm 76 (by omega) (by omega), hm 77 (by omega) (by omega), hm 78 (by omega) (by omega), hm 79 (by omega) (by omega), hm 80 (by omega) (by omega)]
  exact ⟨w, q⟩
/-! the reference's tables, read -/
theorem rd_74 {i : Nat} (hi : i < 10) : dp_ai false (wd_h vi ar pr hh) 74 (nI i) = some (ar 74 i) := wd_ai (by decide) (by decide) hi
theorem rd_77 {i : Nat} (hi : i < 10) : dp_ai false (wd_h vi ar pr hh) 77 (nI i) = some (ar 77 i) := wd_ai (by decide) (by decide) hi
theorem rd_78 {i : Nat} (hi : i < 10) : dp_ai false (wd_h vi ar pr hh) 78 (nI i) = some (ar 78 i) := wd_ai (by decide) (by decide) hi
theorem rd_79 {i : Nat} (hi : i < 10) : dp_ai false (wd_h vi ar pr hh) 79 (nI i) = some (ar 79 i) := wd_ai (by decide) (by decide) hi
theorem ix_8 {i k : Nat} : (8 * nI i) + nI k = nI (8 * i + k) := by rw [show (8 : Int32) = nI 8 from rfl, pk_mul, nI_add]
theorem ix_4 {i k : Nat} : (4 * nI i) + nI k = nI (4 * i + k) := by rw [show (4 : Int32) = nI 4 from rfl, pk_mul, nI_add]
theorem rd_76 {i k : Nat} (hi : i < 10) (hk : k < 8) : dp_ai false (wd_h vi ar pr hh) 76 ((8 * nI i) + nI k) = some (ar 76 (8 * i + k)) := by
  rw [ix_8]
  exact wd_ai (by decide) (by decide) (by show 8 * i + k < 80; omega)
theorem rd_80 {i k : Nat} (hi : i < 10) (hk : k < 4) : dp_ai false (wd_h vi ar pr hh) 80 ((4 * nI i) + nI k) = some (ar 80 (4 * i + k)) := by
  rw [ix_4]
  exact wd_ai (by decide) (by decide) (by show 4 * i + k < 40; omega)
theorem w72 : wd_k 72 = 7 := rfl
theorem ml_lets (h : PL_ vi ar pr m pl dr an) {i k : Nat} (hi : i < m) (hk : k < 10) : m_X7_letsOf (wd_h vi ar pr hh) 72 (nI i) (nI k) = some (ar (pr i + 1) k) := by
  have hm10 := h.1
  obtain ⟨⟨-, p1, p8, -, -, -, -, -, -, -, p2, p3⟩, q1, q2, -, -, -, q3, -⟩ := h.2.2.2.2.2 i hi
  rw [m_X7_letsOf, wd_ck w72 (by decide), gr_7_3 w72, Option.bind_some, rd_74 (by omega), q1, Option.bind_some]
  by_cases hl : k < pl i
  · rw [if_neg (by rw [nI_leI (by omega) (by omega)]; omega), gr_7_5 w72, Option.bind_some, rd_76 (by omega) (by omega), q3 k hl]; rfl
  · rw [if_pos (by rw [nI_leI (by omega) (by omega)]; omega), gr_7_4 w72, Option.bind_some, wd_az (by omega), q2, Option.bind_some, (p3 k (by omega) hk).1]
    by_cases ho : vi (pr i) 4 = 0
    · rw [if_pos ho, if_pos ho]
    · rw [if_neg ho, if_neg ho]
theorem on_0 : ∀ hi, hi < 10 → ∀ lo, lo < 10 → lo ≤ hi → m_X7_ones [] (mk_ lo hi) = some (nI (hi - lo + 1)) := by decide +kernel
theorem on_f {h h' : dp_H} {x y z : Int32} : ∀ n, m_X7_ones_4 h n x y z = m_X7_ones_4 h' n x y z := by
  intro n
  induction n generalizing y z with
  | zero => rfl
  | succ n ih =>
    show b_X7_ones_4 h (m_X7_ones_4 h n) x y z = b_X7_ones_4 h' (m_X7_ones_4 h' n) x y z
    unfold b_X7_ones_4
    rw [ih]
theorem on_ {h : dp_H} {lo hi : Nat} (h1 : hi < 10) (h2 : lo ≤ hi) : m_X7_ones h (mk_ lo hi) = some (nI (hi - lo + 1)) := by
  rw [← on_0 hi h1 lo (by omega) h2]
  exact on_f 64
theorem ml_wide (h : PL_ vi ar pr m pl dr an) {i k : Nat} (hi : i < m) (hk : k < 10) : m_X7_wide (wd_h vi ar pr hh) 72 (nI i) (nI k) = some (ar (pr i + 2) k) := by
  have hm10 := h.1
  obtain ⟨⟨-, p1, p8, -, -, -, -, -, -, -, p2, p3⟩, q1, q2, -, -, -, q3, -⟩ := h.2.2.2.2.2 i hi
  rw [m_X7_wide, wd_ck w72 (by decide), gr_7_3 w72, Option.bind_some, rd_74 (by omega), q1, Option.bind_some]
  by_cases hl : k < pl i
  · obtain ⟨lo, hi', l1, l2, l3, l4⟩ := p2 k hl
    rw [if_neg (by rw [nI_leI (by omega) (by omega)]; omega), gr_7_5 w72, Option.bind_some, rd_76 (by omega) (by omega), q3 k hl, Option.bind_some, l3, on_ l2 l1, l4]; rfl
  · rw [if_pos (by rw [nI_leI (by omega) (by omega)]; omega), gr_7_4 w72, Option.bind_some, wd_az (by omega), q2, Option.bind_some, (p3 k (by omega) hk).2]
    by_cases ho : vi (pr i) 4 = 0
    · rw [if_pos ho, if_pos ho]
    · rw [if_neg ho, if_neg ho]
theorem ml_cmp_l (h : PL_ vi ar pr m pl dr an) {i j : Nat} (hi : i < m) (hj : j < m) : ∀ (f k : Nat) (x : Int32), k ≤ 10 → 10 < f + k → m_X7_compare_5 (wd_h vi ar pr hh) f 72 (nI i) (nI j) x (nI k) = some (if x = 0 then cm_ (ar (pr i + 2)) (ar (pr j + 2)) (10 - k) k else x) := by
  intro f
  induction f with
  | zero => intro k x h1 h2; omega
  | succ f ih =>
    intro k x h1 h2
    show b_X7_compare_5 (wd_h vi ar pr hh) (m_X7_compare_5 (wd_h vi ar pr hh) f) 72 (nI i) (nI j) x (nI k) = _
    unfold b_X7_compare_5
    by_cases hin : k < 10
    · rw [if_neg (by show ¬ nI 10 ≤ nI k; rw [nI_leI (by omega) (by omega)]; omega)]
      by_cases hx : x = 0
      · rw [if_pos hx, ml_wide h hi hin, Option.bind_some, ml_wide h hj hin, Option.bind_some, nI_1, ih (k + 1) _ (by omega) (by omega), if_pos hx, show 10 - k = (10 - (k + 1)) + 1 by omega, cm_]
        by_cases he : ar (pr i + 2) k = ar (pr j + 2) k
        · rw [if_pos he, if_pos (by rw [he]; exact Int32.sub_self _)]
        · rw [if_neg he, if_neg]
          obtain ⟨a, ha, ea⟩ := (h.2.2.2.2.2 i hi).1.w11 k hin
          obtain ⟨b, hb, eb⟩ := (h.2.2.2.2.2 j hj).1.w11 k hin
          rw [ea, eb] at he ⊢
          intro z
          have hab : a ≠ b := fun z => he (by rw [z])
          rcases Nat.lt_or_ge a b with q | q
          · have := pk_sneg (a := a) (b := b) (by omega) q
            rw [z] at this
            exact absurd this (by decide)
          · rw [pk_sub q, show (0 : Int32) = nI 0 from rfl, nI_eq (by omega) (by omega)] at z
            omega
      · rw [if_neg hx, if_neg hx]
    · rw [if_pos (by show nI 10 ≤ nI k; rw [nI_leI (by omega) (by omega)]; omega), show 10 - k = 0 by omega]
      by_cases hx : x = 0
      · rw [if_pos hx, hx]; rfl
      · rw [if_neg hx]
theorem ml_cmp (h : PL_ vi ar pr m pl dr an) {i j : Nat} (hi : i < m) (hj : j < m) : m_X7_compare (wd_h vi ar pr hh) 72 (nI i) (nI j) = some (cm_ (ar (pr i + 2)) (ar (pr j + 2)) 10 0) := by
  rw [m_X7_compare, wd_ck w72 (by decide)]
  exact ml_cmp_l h hi hj 64 0 0 (by omega) (by omega)
theorem ml_num_l (h : PL_ vi ar pr m pl dr an) {i : Nat} (hi : i < m) : ∀ (f k : Nat) (x : Int32), k ≤ an i → 10 < f + k → m_X7_aheadNumber_4 (wd_h vi ar pr hh) f 72 (nI i) x (nI k) = some (an_ (ar (pr i + 4)) (an i - k) k x) := by
  have hm10 := h.1
  obtain ⟨⟨-, p1, p8, -, -, -, -, -, p4, -, p2, p3⟩, q1, q2, -, -, q5, q3, q6⟩ := h.2.2.2.2.2 i hi
  intro f
  induction f with
  | zero => intro k x h1 h2; omega
  | succ f ih =>
    intro k x h1 h2
    show b_X7_aheadNumber_4 (wd_h vi ar pr hh) (m_X7_aheadNumber_4 (wd_h vi ar pr hh) f) 72 (nI i) x (nI k) = _
    unfold b_X7_aheadNumber_4
    rw [gr_7_8 w72, Option.bind_some, rd_79 (by omega), q5, Option.bind_some]
    by_cases hin : k < an i
    · rw [if_neg (by rw [nI_leI (by omega) (by omega)]; omega), gr_7_9 w72, Option.bind_some, rd_80 (by omega) (by omega), q6 k hin, Option.bind_some, nI_1, ih (k + 1) _ (by omega) (by omega), show an i - k = (an i - (k + 1)) + 1 by omega, an_]
    · rw [if_pos (by rw [nI_leI (by omega) (by omega)]; omega), show an i - k = 0 by omega]; rfl
theorem ml_num (h : PL_ vi ar pr m pl dr an) {i : Nat} (hi : i < m) : m_X7_aheadNumber (wd_h vi ar pr hh) 72 (nI i) = some (an_ (ar (pr i + 4)) (an i) 0 0) := by
  rw [m_X7_aheadNumber, wd_ck w72 (by decide)]
  exact ml_num_l h hi 64 0 0 (by omega) (by omega)
end PLS
/-! numbers of up to four figures tell the figures -/
theorem an_nat {f : Nat → Int32} {g : Nat → Nat} : ∀ (n i x : Nat), (∀ q, i ≤ q → q < i + n → f q = nI (g q)) → an_ f n i (nI x) = nI (Nat.rec (fun _ x => x) (fun _ ih i x => ih (i + 1) (10 * x + g i)) n i x)
  | 0, _, _, _ => rfl
  | n + 1, i, x, h => by
    show an_ f n (i + 1) (10 * nI x + f i) = _
    rw [h i (by omega) (by omega), show (10 : Int32) = nI 10 from rfl, pk_mul, nI_add, an_nat n (i + 1) (10 * x + g i) (fun q h1 h2 => h q (by omega) (by omega))]
theorem an_inj {f g : Nat → Int32} {n : Nat} (h4 : n ≤ 4) (hf : sm_ 9 f n) (hg : sm_ 9 g n) : an_ f n 0 0 = an_ g n 0 0 ↔ lk_ f g n 0 = true := by
  rw [lk_iff]
  have key : ∀ h : Nat → Int32, sm_ 9 h n → ∃ d : Nat → Nat, (∀ q, q < n → d q ≤ 9 ∧ h q = nI (d q)) := by
    intro h hh
    refine ⟨fun q => if hq : q < n then Classical.choose (hh q hq) else 0, fun q hq => ?_⟩
    simp only [hq, dif_pos]
    exact Classical.choose_spec (hh q hq)
  obtain ⟨d, hd⟩ := key f hf
  obtain ⟨e, he⟩ := key g hg
  have e1 := an_nat (f := f) (g := d) n 0 0 (fun q _ hq => (hd q (by omega)).2)
  have e2 := an_nat (f := g) (g := e) n 0 0 (fun q _ hq => (he q (by omega)).2)
  have e1 : an_ f n 0 0 = _ := e1
  have e2 : an_ g n 0 0 = _ := e2
  have fin : (∀ q, 0 ≤ q → q < 0 + n → f q = g q) ↔ ∀ q, q < n → d q = e q := by
    refine ⟨fun k q hq => ?_, fun k q _ hq => by rw [(hd q (by omega)).2, (he q (by omega)).2, k q (by omega)]⟩
    have := k q (by omega) (by omega)
    rw [(hd q hq).2, (he q hq).2, nI_eq (by have := (hd q hq).1; omega) (by have := (he q hq).1; omega)] at this
    exact this
  rw [fin, e1, e2]
  have c : n = 0 ∨ n = 1 ∨ n = 2 ∨ n = 3 ∨ n = 4 := by omega
  rcases c with rfl | rfl | rfl | rfl | rfl
  · exact ⟨fun _ q hq => absurd hq (by omega), fun _ => rfl⟩
  · have a0 := (hd 0 (by omega)).1; have b0 := (he 0 (by omega)).1
    show nI (10 * 0 + d 0) = nI (10 * 0 + e 0) ↔ _
    rw [nI_eq (by omega) (by omega)]
    exact ⟨fun h q hq => by rw [show q = 0 by omega]; omega, fun h => by have := h 0 (by omega); omega⟩
  · have a0 := (hd 0 (by omega)).1; have b0 := (he 0 (by omega)).1
    have a1 := (hd 1 (by omega)).1; have b1 := (he 1 (by omega)).1
    show nI (10 * (10 * 0 + d 0) + d 1) = nI (10 * (10 * 0 + e 0) + e 1) ↔ _
    rw [nI_eq (by omega) (by omega)]
    exact ⟨fun h q hq => by rcases (show q = 0 ∨ q = 1 by omega) with rfl | rfl <;> omega, fun h => by have := h 0 (by omega); have := h 1 (by omega); omega⟩
  · have a0 := (hd 0 (by omega)).1; have b0 := (he 0 (by omega)).1
    have a1 := (hd 1 (by omega)).1; have b1 := (he 1 (by omega)).1
    have a2 := (hd 2 (by omega)).1; have b2 := (he 2 (by omega)).1
    show nI (10 * (10 * (10 * 0 + d 0) + d 1) + d 2) = nI (10 * (10 * (10 * 0 + e 0) + e 1) + e 2) ↔ _
    rw [nI_eq (by omega) (by omega)]
    exact ⟨fun h q hq => by rcases (show q = 0 ∨ q = 1 ∨ q = 2 by omega) with rfl | rfl | rfl <;> omega, fun h => by have := h 0 (by omega); have := h 1 (by omega); have := h 2 (by omega); omega⟩
  · have a0 := (hd 0 (by omega)).1; have b0 := (he 0 (by omega)).1
    have a1 := (hd 1 (by omega)).1; have b1 := (he 1 (by omega)).1
    have a2 := (hd 2 (by omega)).1; have b2 := (he 2 (by omega)).1
    have a3 := (hd 3 (by omega)).1; have b3 := (he 3 (by omega)).1
    show nI (10 * (10 * (10 * (10 * 0 + d 0) + d 1) + d 2) + d 3) = nI (10 * (10 * (10 * (10 * 0 + e 0) + e 1) + e 2) + e 3) ↔ _
    rw [nI_eq (by omega) (by omega)]
    exact ⟨fun h q hq => by rcases (show q = 0 ∨ q = 1 ∨ q = 2 ∨ q = 3 by omega) with rfl | rfl | rfl | rfl <;> omega, fun h => by have := h 0 (by omega); have := h 1 (by omega); have := h 2 (by omega); have := h 3 (by omega); omega⟩
