/-! which patterns a row fits, to which it leads; bits; which wins; from where it is sure -/
theorem b1_ (x : Int32) : (x &&& 1) = 0 ∨ (x &&& 1) = 1 := by
  obtain ⟨j, hj, e⟩ := pk_andE x (m := 1) 1 (by decide)
  rcases (show j = 0 ∨ j = 1 by omega) with rfl | rfl
  · exact Or.inl e
  · exact Or.inr e
theorem be_congr {f f' g g' : Nat → Int32} : ∀ (n i : Nat), (∀ q, i ≤ q → q < i + n → f q = f' q ∧ g q = g' q) → be_ f g n i = be_ f' g' n i
  | 0, _, _ => rfl
  | n + 1, i, h => by
    unfold be_
    rw [(h i (by omega) (by omega)).1, (h i (by omega) (by omega)).2, be_congr n (i + 1) (fun q h1 h2 => h q (by omega) (by omega))]
theorem be_all {f g : Nat → Int32} : ∀ (n i : Nat), (∀ q, i ≤ q → q < i + n → f q = 1023 ∧ ∃ d : Nat, d ≤ 9 ∧ g q = nI d) → be_ f g n i = true
  | 0, _, _ => rfl
  | n + 1, i, h => by
    unfold be_
    obtain ⟨e, d, hd, ed⟩ := h i (by omega) (by omega)
    have key : ∀ d, d < 10 → ¬ (((1023 : Int32) >>> (nI d &&& 31)) &&& 1) = 0 := by decide +kernel
    rw [e, ed, if_neg (key d (by omega))]
    exact be_all n (i + 1) (fun q h1 h2 => h q (by omega) (by omega))
theorem be_app {f g : Nat → Int32} : ∀ (n k i : Nat), be_ f g (n + k) i = (be_ f g n i && be_ f g k (i + n))
  | 0, k, i => by rw [Nat.zero_add, Nat.add_zero]; simp [be_]
  | n + 1, k, i => by
    rw [show n + 1 + k = (n + k) + 1 by omega, be_, be_, be_app n k (i + 1), show i + 1 + n = i + (n + 1) by omega]
    split <;> simp
def ft_ (f : Nat → Int32) (o : Int32) (pl : Nat) (g : Nat → Int32) (many : Nat) : Bool := be_ f g (min many pl) 0 && decide (many = pl ∨ (¬ o = 0 ∧ pl < many))
def ld_ (f : Nat → Int32) (o : Int32) (pl : Nat) (g : Nat → Int32) (many : Nat) : Bool := be_ f g (min many pl) 0 && decide (many < pl ∨ (¬ o = 0 ∧ many < 10))
theorem rc_1 {f : Nat → Int32} {o : Int32} {pl : Nat} {g : Nat → Int32} {many : Nat} : ((if be_ f g (min many pl) 0 = true then rc_ pl o many else 0) &&& 1) = 0 ↔ ft_ f o pl g many = false := by
  unfold ft_ rc_
  by_cases h1 : be_ f g (min many pl) 0 = true
  · rw [if_pos h1, h1]
    by_cases h2 : many = pl ∨ (¬ o = 0 ∧ pl < many)
    · rw [if_pos h2, decide_eq_true h2]
      split <;> simp <;> decide
    · rw [if_neg h2, decide_eq_false h2]
      split <;> simp <;> decide
  · rw [if_neg h1]
    simp [h1]
theorem rc_2 {f : Nat → Int32} {o : Int32} {pl : Nat} {g : Nat → Int32} {many : Nat} : ((if be_ f g (min many pl) 0 = true then rc_ pl o many else 0) &&& 2) = 0 ↔ ld_ f o pl g many = false := by
  unfold ld_ rc_
  by_cases h1 : be_ f g (min many pl) 0 = true
  · rw [if_pos h1, h1]
    by_cases h2 : many < pl ∨ (¬ o = 0 ∧ many < 10)
    · rw [if_pos h2, if_pos h2, decide_eq_true h2]
      split <;> simp <;> decide
    · rw [if_neg h2, if_neg h2, decide_eq_false h2]
      split <;> simp <;> decide
  · rw [if_neg h1]
    simp [h1]
theorem rc_0 {f : Nat → Int32} {o : Int32} {pl : Nat} {g : Nat → Int32} {many : Nat} : (if be_ f g (min many pl) 0 = true then rc_ pl o many else 0) = 0 ↔ (ft_ f o pl g many || ld_ f o pl g many) = false := by
  unfold ft_ ld_ rc_
  by_cases h1 : be_ f g (min many pl) 0 = true
  · rw [if_pos h1, h1]
    by_cases h2 : many = pl ∨ (¬ o = 0 ∧ pl < many)
    · rw [if_pos h2, decide_eq_true h2]
      split <;> simp <;> decide
    · rw [if_neg h2, decide_eq_false h2]
      by_cases h3 : many < pl ∨ (¬ o = 0 ∧ many < 10)
      · rw [if_pos h3, decide_eq_true h3]
        simp
      · rw [if_neg h3, decide_eq_false h3]
        simp
  · rw [if_neg h1]
    simp [h1]
/-! bits -/
def bt_ (f : Nat → Bool) : Nat → Nat → Int32 → Int32
  | 0, _, x => x
  | n + 1, i, x => bt_ f n (i + 1) (if f i = true then x ||| (1 <<< (nI i &&& 31)) else x)
def bn_ (f : Nat → Bool) : Nat → Nat → Nat → Nat
  | 0, _, x => x
  | n + 1, i, x => bn_ f n (i + 1) (if f i = true then x ||| 2 ^ i else x)
theorem nI_or (a b : Nat) : nI a ||| nI b = nI (a ||| b) := by
  apply Int32.toBitVec_inj.mp
  show BitVec.ofNat 32 a ||| BitVec.ofNat 32 b = BitVec.ofNat 32 (a ||| b)
  exact BitVec.ofNat_or.symm
theorem sh_1 : ∀ i, i < 10 → (1 : Int32) <<< (nI i &&& 31) = nI (2 ^ i) := by decide +kernel
theorem bt_n {f : Nat → Bool} : ∀ (n i x : Nat), i + n ≤ 10 → bt_ f n i (nI x) = nI (bn_ f n i x)
  | 0, _, _, _ => rfl
  | n + 1, i, x, h => by
    unfold bt_ bn_
    rw [sh_1 i (by omega), nI_or]
    by_cases hf : f i = true
    · rw [if_pos hf, if_pos hf]
      exact bt_n n (i + 1) _ (by omega)
    · rw [if_neg hf, if_neg hf]
      exact bt_n n (i + 1) _ (by omega)
theorem bn_t {f : Nat → Bool} : ∀ (n i x q : Nat), (bn_ f n i x).testBit q = (x.testBit q || (decide (i ≤ q ∧ q < i + n) && f q))
  | 0, i, x, q => by
    have : ¬ (i ≤ q ∧ q < i + 0) := by omega
    simp [bn_]
    intro h1 h2
    omega
  | n + 1, i, x, q => by
    unfold bn_
    rw [bn_t n (i + 1)]
    by_cases hq : q = i
    · subst hq
      have h1 : ¬ (q + 1 ≤ q ∧ q < q + 1 + n) := by omega
      have h2 : q ≤ q ∧ q < q + (n + 1) := by omega
      rw [decide_eq_false h1, decide_eq_true h2]
      by_cases hf : f q = true
      · rw [if_pos hf, hf, Nat.testBit_or, Nat.testBit_two_pow_self]
        simp
      · rw [if_neg hf]
        simp [hf]
    · have e : decide (i + 1 ≤ q ∧ q < i + 1 + n) = decide (i ≤ q ∧ q < i + (n + 1)) := by
        by_cases h : i ≤ q ∧ q < i + (n + 1)
        · rw [decide_eq_true h, decide_eq_true (by omega)]
        · rw [decide_eq_false h, decide_eq_false (by omega)]
      rw [e]
      by_cases hf : f i = true
      · rw [if_pos hf, Nat.testBit_or, Nat.testBit_two_pow_of_ne (Ne.symm hq)]
        simp
      · rw [if_neg hf]
theorem bn_lt {f : Nat → Bool} : ∀ (n i x : Nat), i + n ≤ 10 → x < 1024 → bn_ f n i x < 1024
  | 0, _, _, _, h => h
  | n + 1, i, x, h, hx => by
    unfold bn_
    refine bn_lt n (i + 1) _ (by omega) ?_
    split
    · exact Nat.or_lt_two_pow (n := 10) hx (Nat.pow_lt_pow_right (by decide) (by omega))
    · exact hx
theorem bt_q {f : Nat → Bool} {n q : Nat} (hn : n ≤ 10) (hq : q < n) : ((bt_ f n 0 0 >>> (nI q &&& 31)) &&& 1) = 1 ↔ f q = true := by
  have e : bt_ f n 0 0 = nI (bn_ f n 0 0) := bt_n n 0 0 (by omega)
  have hl := bn_lt (f := f) n 0 0 (by omega) (by decide)
  have hs : ∀ q, q < 10 → ((nI q &&& 31).toBitVec.smod 32).toNat = q := by decide +kernel
  rw [e, pk_shrN (by omega) _ q (hs q (by omega)), pk_andN (by have := Nat.div_le_self (bn_ f n 0 0) (2 ^ q); omega) 1 (by decide)]
  have ht := bn_t (f := f) n 0 0 q
  rw [Nat.zero_testBit, decide_eq_true (by omega)] at ht
  simp only [Bool.false_or, Bool.true_and] at ht
  rw [← ht, Nat.testBit_eq_decide_div_mod_eq, decide_eq_true_eq, show (1 : Int32) = nI 1 from rfl, nI_eq (by omega) (by omega), Nat.pow_one]
theorem bt_z {f : Nat → Bool} {n : Nat} (hn : n ≤ 10) : bt_ f n 0 0 = 0 ↔ ∀ q, q < n → f q = false := by
  have e : bt_ f n 0 0 = nI (bn_ f n 0 0) := bt_n n 0 0 (by omega)
  have hl := bn_lt (f := f) n 0 0 (by omega) (by decide)
  rw [e, show (0 : Int32) = nI 0 from rfl, nI_eq (by omega) (by omega)]
  refine ⟨fun h q hq => ?_, fun h => ?_⟩
  · have ht := bn_t (f := f) n 0 0 q
    rw [h, Nat.zero_testBit, decide_eq_true (by omega)] at ht
    simpa using ht.symm
  · apply Nat.eq_of_testBit_eq
    intro q
    rw [bn_t, Nat.zero_testBit]
    by_cases hq : q < n
    · simp [h q hq]
    · have : ¬ (0 ≤ q ∧ q < 0 + n) := by omega
      rw [decide_eq_false this]
      rfl
theorem bt_or {f g : Nat → Bool} {n : Nat} (hn : n ≤ 10) : bt_ f n 0 0 ||| bt_ g n 0 0 = bt_ (fun i => f i || g i) n 0 0 := by
  have e1 : bt_ f n 0 0 = nI (bn_ f n 0 0) := bt_n n 0 0 (by omega)
  have e2 : bt_ g n 0 0 = nI (bn_ g n 0 0) := bt_n n 0 0 (by omega)
  have e3 : bt_ (fun i => f i || g i) n 0 0 = nI (bn_ (fun i => f i || g i) n 0 0) := bt_n n 0 0 (by omega)
  rw [e1, e2, e3, nI_or]
  congr 1
  apply Nat.eq_of_testBit_eq
  intro q
  rw [Nat.testBit_or, bn_t, bn_t, bn_t, Nat.zero_testBit]
  by_cases hq : 0 ≤ q ∧ q < 0 + n
  · rw [decide_eq_true hq]; simp
  · rw [decide_eq_false hq]; simp
theorem bt_congr {f g : Nat → Bool} : ∀ (n i : Nat) (x : Int32), (∀ q, i ≤ q → q < i + n → f q = g q) → bt_ f n i x = bt_ g n i x
  | 0, _, _, _ => rfl
  | n + 1, i, x, h => by
    unfold bt_
    rw [h i (by omega) (by omega)]
    exact bt_congr n (i + 1) _ (fun q h1 h2 => h q (by omega) (by omega))
theorem or_z (x : Int32) : x ||| 0 = x := by
  apply Int32.toBitVec_inj.mp
  show x.toBitVec ||| 0#32 = x.toBitVec
  exact BitVec.or_zero
section FT
variable {vi ar : Nat → Nat → Int32} {pr : Nat → Nat} {hh : Int64} {m : Nat} {pl dr an : Nat → Nat}
def fi_ (vi ar : Nat → Nat → Int32) (pr : Nat → Nat) (pl : Nat → Nat) (g : Nat → Int32) (many i : Nat) : Bool := ft_ (ar (pr i + 1)) (vi (pr i) 4) (pl i) g many
def li_ (vi ar : Nat → Nat → Int32) (pr : Nat → Nat) (pl : Nat → Nat) (g : Nat → Int32) (many i : Nat) : Bool := ld_ (ar (pr i + 1)) (vi (pr i) 4) (pl i) g many
theorem fi_congr {g g' : Nat → Int32} {many i : Nat} (h : ∀ q, q < many → g q = g' q) : fi_ vi ar pr pl g many i = fi_ vi ar pr pl g' many i := by
  unfold fi_ ft_
  rw [be_congr (f := ar (pr i + 1)) (f' := ar (pr i + 1)) (g := g) (g' := g') _ 0 (fun q _ h2 => ⟨rfl, h q (by omega)⟩)]
theorem li_congr {g g' : Nat → Int32} {many i : Nat} (h : ∀ q, q < many → g q = g' q) : li_ vi ar pr pl g many i = li_ vi ar pr pl g' many i := by
  unfold li_ ld_
  rw [be_congr (f := ar (pr i + 1)) (f' := ar (pr i + 1)) (g := g) (g' := g') _ 0 (fun q _ h2 => ⟨rfl, h q (by omega)⟩)]
/-! the class -/
theorem pn_reach (h : PL_ vi ar pr m pl dr an) {k n many i : Nat} (hk : Rw_ vi k 10 n) (hd : sm_ 9 (ar (k + 1)) n) (hm : many ≤ n) (hi : i < m) : ∃ v, m_X1_reach (wd_h vi ar pr hh) (pr i) k (nI many) = some v ∧ ((v &&& 1) = 0 ↔ fi_ vi ar pr pl (ar (k + 1)) many i = false) ∧ ((v &&& 2) = 0 ↔ li_ vi ar pr pl (ar (k + 1)) many i = false) ∧ (v = 0 ↔ (fi_ vi ar pr pl (ar (k + 1)) many i || li_ vi ar pr pl (ar (k + 1)) many i) = false) := by
  have hm10 := h.1
  obtain ⟨w1, -, w3, -⟩ := (h.2.2.2.2.2 i hi).1
  exact ⟨_, pt_reach (h.pa (by omega)) hk hd w1 w3 hm, rc_1, rc_2, rc_0⟩
theorem pn_rd_l (h : PL_ vi ar pr m pl dr an) {k n : Nat} {how : Int32} {F : Nat → Bool} (hk : Rw_ vi k 10 n) (hF : ∀ i, i < m → ∃ v, m_X1_reach (wd_h vi ar pr hh) (pr i) k (nI n) = some v ∧ ((v &&& how) = 0 ↔ F i = false)) : ∀ (f i : Nat) (x : Int32), i ≤ m → 10 < f + i → m_X3_reached_5 (wd_h vi ar pr hh) f 9 k how x (nI i) = some (bt_ F (m - i) i x) := by
  have hm10 := h.1
  intro f
  induction f with
  | zero => intro i x h1 h2; omega
  | succ f ih =>
    intro i x h1 h2
    show b_X3_reached_5 (wd_h vi ar pr hh) (m_X3_reached_5 (wd_h vi ar pr hh) f) 9 k how x (nI i) = _
    unfold b_X3_reached_5
    rw [gi_3_1 rfl, h.2.1, Option.bind_some]
    by_cases hin : i < m
    · obtain ⟨v, e1, e2⟩ := hF i hin
      rw [if_neg (by rw [nI_leI (by omega) (by omega)]; omega), pn_at h (by omega), if_pos hin, Option.bind_some, dp_om, ro_size hk, Option.bind_some, e1, Option.bind_some, show m - i = (m - (i + 1)) + 1 by omega, bt_]
      by_cases hv : (v &&& how) = 0
      · rw [if_pos hv, if_neg (by rw [e2.mp hv]; decide), nI_1, ih (i + 1) x (by omega) (by omega)]
      · rw [if_neg hv, if_pos (by cases hb : F i with | false => exact absurd (e2.mpr hb) hv | true => rfl), nI_1, ih (i + 1) _ (by omega) (by omega)]
    · rw [if_pos (by rw [nI_leI (by omega) (by omega)]; omega), show m - i = 0 by omega]; rfl
theorem pn_fit (h : PL_ vi ar pr m pl dr an) {k n : Nat} (hk : Rw_ vi k 10 n) (hd : sm_ 9 (ar (k + 1)) n) : m_X3_reached (wd_h vi ar pr hh) 9 k 1 = some (bt_ (fi_ vi ar pr pl (ar (k + 1)) n) m 0 0) := by
  have hm10 := h.1
  rw [m_X3_reached, wd_ck (c := 3) rfl (by decide)]
  exact pn_rd_l h hk (fun i hi => by obtain ⟨v, a, b, -⟩ := pn_reach (hh := hh) h hk hd (Nat.le_refl n) hi; exact ⟨v, a, b⟩) 64 0 0 (by omega) (by omega)
theorem pn_lead (h : PL_ vi ar pr m pl dr an) {k n : Nat} (hk : Rw_ vi k 10 n) (hd : sm_ 9 (ar (k + 1)) n) : m_X3_reached (wd_h vi ar pr hh) 9 k 2 = some (bt_ (li_ vi ar pr pl (ar (k + 1)) n) m 0 0) := by
  have hm10 := h.1
  rw [m_X3_reached, wd_ck (c := 3) rfl (by decide)]
  exact pn_rd_l h hk (fun i hi => by obtain ⟨v, a, -, b, -⟩ := pn_reach (hh := hh) h hk hd (Nat.le_refl n) hi; exact ⟨v, a, b⟩) 64 0 0 (by omega) (by omega)
/-! the reference -/
theorem rd_84 {i : Nat} (hi : i < 14) : dp_ai false (wd_h vi ar pr hh) 84 (nI i) = some (ar 84 i) := wd_ai (by decide) (by decide) hi
theorem ml_beg_0 {i many : Nat} (hm : many ≤ 10) : ∀ (f k : Nat), k ≤ many → 10 < f + k → m_X7_begins_5 (wd_h vi ar pr hh) f 72 (nI i) (nI many) 0 (nI k) = some 0 := by
  intro f
  induction f with
  | zero => intro k h1 h2; omega
  | succ f ih =>
    intro k h1 h2
    show b_X7_begins_5 (wd_h vi ar pr hh) (m_X7_begins_5 (wd_h vi ar pr hh) f) 72 (nI i) (nI many) 0 (nI k) = _
    unfold b_X7_begins_5
    by_cases hin : k < many
    · rw [if_neg (by rw [nI_leI (by omega) (by omega)]; omega), if_pos rfl, nI_1, ih (k + 1) (by omega) (by omega)]
    · rw [if_pos (by rw [nI_leI (by omega) (by omega)]; omega)]; rfl
theorem ml_beg_l (h : PL_ vi ar pr m pl dr an) {i many : Nat} (hi : i < m) (hm : many ≤ 10) : ∀ (f k : Nat), k ≤ many → 10 < f + k → m_X7_begins_5 (wd_h vi ar pr hh) f 72 (nI i) (nI many) 1 (nI k) = some (if be_ (ar (pr i + 1)) (ar 84) (many - k) k = true then 1 else 0) := by
  intro f
  induction f with
  | zero => intro k h1 h2; omega
  | succ f ih =>
    intro k h1 h2
    show b_X7_begins_5 (wd_h vi ar pr hh) (m_X7_begins_5 (wd_h vi ar pr hh) f) 72 (nI i) (nI many) 1 (nI k) = _
    unfold b_X7_begins_5
    by_cases hin : k < many
    · rw [if_neg (by rw [nI_leI (by omega) (by omega)]; omega), if_neg (by decide), ml_lets h hi (by omega), Option.bind_some, gr_7_25 w72, Option.bind_some, rd_84 (by omega), Option.bind_some, show many - k = (many - (k + 1)) + 1 by omega, be_]
      rcases b1_ (ar (pr i + 1) k >>> (ar 84 k &&& 31)) with hz | hz
      · rw [if_neg (by rw [hz]; decide), if_pos hz, nI_1]
        cases f with
        | zero => omega
        | succ f => exact ml_beg_0 hm (f + 1) (k + 1) (by omega) (by omega)
      · have hz' : ¬ ((ar (pr i + 1) k >>> (ar 84 k &&& 31)) &&& 1) = 0 := by rw [hz]; decide
        rw [if_pos hz, if_neg hz', nI_1, ih (k + 1) (by omega) (by omega)]
    · rw [if_pos (by rw [nI_leI (by omega) (by omega)]; omega), show many - k = 0 by omega]; rfl
theorem ml_beg (h : PL_ vi ar pr m pl dr an) {i many : Nat} (hi : i < m) (hm : many ≤ 10) : m_X7_begins (wd_h vi ar pr hh) 72 (nI i) (nI many) = some (if be_ (ar (pr i + 1)) (ar 84) many 0 = true then 1 else 0) := by
  rw [m_X7_begins, wd_ck w72 (by decide)]
  exact ml_beg_l h hi hm 64 0 (by omega) (by omega)
/-- beyond its places an open pattern lets all digits -/
theorem be_min (h : PL_ vi ar pr m pl dr an) {i many : Nat} {g : Nat → Int32} (hi : i < m) (hm : many ≤ 10) (hd : sm_ 9 g many) (ho : ¬ vi (pr i) 4 = 0) : be_ (ar (pr i + 1)) g many 0 = be_ (ar (pr i + 1)) g (min many (pl i)) 0 := by
  obtain ⟨-, -, -, -, -, -, -, -, -, -, -, w⟩ := (h.2.2.2.2.2 i hi).1
  rw [show many = min many (pl i) + (many - min many (pl i)) by omega, be_app, be_all (many - min many (pl i)) (0 + min many (pl i)) (fun q h1 h2 => ⟨by rw [(w q (by omega) (by omega)).1, if_neg ho], hd q (by omega)⟩), Bool.and_true]
  congr 1
  omega
theorem ml_fits (h : PL_ vi ar pr m pl dr an) {i many : Nat} (hi : i < m) (hm : many ≤ 10) (hd : sm_ 9 (ar 84) many) : m_X7_fits (wd_h vi ar pr hh) 72 (nI i) (nI many) = some (if fi_ vi ar pr pl (ar 84) many i = true then 1 else 0) := by
  have hm10 := h.1
  obtain ⟨⟨-, p1, p8, -⟩, i74, i75, -⟩ := h.2.2.2.2.2 i hi
  rw [m_X7_fits, wd_ck w72 (by decide), gr_7_4 w72, Option.bind_some, wd_az (by omega), Option.bind_some, gr_7_3 w72, Option.bind_some, rd_74 (by omega), Option.bind_some, Option.bind_some, i75, i74, ml_beg h hi hm, Option.bind_some]
  unfold fi_ ft_
  by_cases ho : vi (pr i) 4 = 0
  · rw [if_pos ho]
    by_cases h1 : many = pl i
    · rw [if_pos (by rw [h1]), decide_eq_true (Or.inl h1), Bool.and_true, show min many (pl i) = many by omega]
      by_cases hb : be_ (ar (pr i + 1)) (ar 84) many 0 = true
      · rw [if_pos hb, if_neg (by decide)]
      · rw [if_neg hb, if_pos rfl]
    · rw [if_neg (by rw [nI_eq (by omega) (by omega)]; exact h1), decide_eq_false (by rintro (z | z); exact h1 z; exact z.1 ho), Bool.and_false]; rfl
  · rw [if_neg ho, rd_74 (by omega), i74, Option.bind_some]
    by_cases h1 : many < pl i
    · rw [if_pos ((nI_ltI (by omega) (by omega)).mpr h1), decide_eq_false (by rintro (z | z); omega; have := z.2; omega), Bool.and_false]; rfl
    · rw [if_neg (fun z => h1 ((nI_ltI (by omega) (by omega)).mp z)), decide_eq_true (by rcases Nat.lt_or_ge (pl i) many with z | z; exact Or.inr ⟨ho, z⟩; exact Or.inl (by omega)), Bool.and_true, be_min h hi hm hd ho]
      by_cases hb : be_ (ar (pr i + 1)) (ar 84) (min many (pl i)) 0 = true
      · rw [if_pos hb, if_neg (by decide)]
      · rw [if_neg hb, if_pos rfl]
theorem ml_leads (h : PL_ vi ar pr m pl dr an) {i many : Nat} (hi : i < m) (hm : many ≤ 10) (hd : sm_ 9 (ar 84) many) : m_X7_leads (wd_h vi ar pr hh) 72 (nI i) (nI many) = some (if li_ vi ar pr pl (ar 84) many i = true then 1 else 0) := by
  have hm10 := h.1
  obtain ⟨⟨-, p1, p8, -⟩, i74, i75, -⟩ := h.2.2.2.2.2 i hi
  rw [m_X7_leads, wd_ck w72 (by decide), gr_7_4 w72, Option.bind_some, wd_az (by omega), Option.bind_some, gr_7_3 w72, Option.bind_some, rd_74 (by omega), Option.bind_some, i75, i74, ml_beg h hi hm, Option.bind_some]
  unfold li_ ld_
  by_cases ho : vi (pr i) 4 = 0
  · rw [if_pos ho]
    by_cases h1 : many < pl i
    · rw [if_neg (by rw [nI_leI (by omega) (by omega)]; omega), decide_eq_true (Or.inl h1), Bool.and_true, show min many (pl i) = many by omega]
      by_cases hb : be_ (ar (pr i + 1)) (ar 84) many 0 = true
      · rw [if_pos hb, if_neg (by decide)]
      · rw [if_neg hb, if_pos rfl]
    · rw [if_pos (by rw [nI_leI (by omega) (by omega)]; omega), decide_eq_false (by rintro (z | z); exact h1 z; exact z.1 ho), Bool.and_false]; rfl
  · rw [if_neg ho]
    by_cases h1 : many < 10
    · rw [if_neg (by show ¬ nI 10 ≤ nI many; rw [nI_leI (by omega) (by omega)]; omega), decide_eq_true (Or.inr ⟨ho, h1⟩), Bool.and_true, be_min h hi hm hd ho]
      by_cases hb : be_ (ar (pr i + 1)) (ar 84) (min many (pl i)) 0 = true
      · rw [if_pos hb, if_neg (by decide)]
      · rw [if_neg hb, if_pos rfl]
    · rw [if_pos (by show nI 10 ≤ nI many; rw [nI_leI (by omega) (by omega)]; omega), decide_eq_false (by rintro (z | z); omega; exact h1 z.2), Bool.and_false]; rfl
theorem ml_fg_l (h : PL_ vi ar pr m pl dr an) {many : Nat} (hm : many ≤ 10) (hd : sm_ 9 (ar 84) many) : ∀ (f i : Nat) (x : Int32), i ≤ m → 10 < f + i → m_X7_fitting_4 (wd_h vi ar pr hh) f 72 (nI many) x (nI i) = some (bt_ (fi_ vi ar pr pl (ar 84) many) (m - i) i x) := by
  have hm10 := h.1
  intro f
  induction f with
  | zero => intro i x h1 h2; omega
  | succ f ih =>
    intro i x h1 h2
    show b_X7_fitting_4 (wd_h vi ar pr hh) (m_X7_fitting_4 (wd_h vi ar pr hh) f) 72 (nI many) x (nI i) = _
    unfold b_X7_fitting_4
    rw [gi_7_2 w72, h.2.2.1, Option.bind_some]
    by_cases hin : i < m
    · rw [if_neg (by rw [nI_leI (by omega) (by omega)]; omega), ml_fits h hin hm hd, Option.bind_some, show m - i = (m - (i + 1)) + 1 by omega, bt_, nI_1, or_z]
      by_cases hf : fi_ vi ar pr pl (ar 84) many i = true
      · rw [if_pos hf, if_neg (by decide), if_pos hf, ih (i + 1) _ (by omega) (by omega)]
      · rw [if_neg hf, if_pos rfl, if_neg hf, ih (i + 1) _ (by omega) (by omega)]
    · rw [if_pos (by rw [nI_leI (by omega) (by omega)]; omega), show m - i = 0 by omega]; rfl
theorem ml_fg (h : PL_ vi ar pr m pl dr an) {many : Nat} (hm : many ≤ 10) (hd : sm_ 9 (ar 84) many) : m_X7_fitting (wd_h vi ar pr hh) 72 (nI many) = some (bt_ (fi_ vi ar pr pl (ar 84) many) m 0 0) := by
  rw [m_X7_fitting, wd_ck w72 (by decide)]
  exact ml_fg_l h hm hd 64 0 0 (by omega) (by omega)
theorem ml_lg_l (h : PL_ vi ar pr m pl dr an) {many : Nat} (hm : many ≤ 10) (hd : sm_ 9 (ar 84) many) : ∀ (f i : Nat) (x : Int32), i ≤ m → 10 < f + i → m_X7_leading_4 (wd_h vi ar pr hh) f 72 (nI many) x (nI i) = some (bt_ (li_ vi ar pr pl (ar 84) many) (m - i) i x) := by
  have hm10 := h.1
  intro f
  induction f with
  | zero => intro i x h1 h2; omega
  | succ f ih =>
    intro i x h1 h2
    show b_X7_leading_4 (wd_h vi ar pr hh) (m_X7_leading_4 (wd_h vi ar pr hh) f) 72 (nI many) x (nI i) = _
    unfold b_X7_leading_4
    rw [gi_7_2 w72, h.2.2.1, Option.bind_some]
    by_cases hin : i < m
    · rw [if_neg (by rw [nI_leI (by omega) (by omega)]; omega), ml_leads h hin hm hd, Option.bind_some, show m - i = (m - (i + 1)) + 1 by omega, bt_, nI_1, or_z]
      by_cases hf : li_ vi ar pr pl (ar 84) many i = true
      · rw [if_pos hf, if_neg (by decide), if_pos hf, ih (i + 1) _ (by omega) (by omega)]
      · rw [if_neg hf, if_pos rfl, if_neg hf, ih (i + 1) _ (by omega) (by omega)]
    · rw [if_pos (by rw [nI_leI (by omega) (by omega)]; omega), show m - i = 0 by omega]; rfl
theorem ml_lg (h : PL_ vi ar pr m pl dr an) {many : Nat} (hm : many ≤ 10) (hd : sm_ 9 (ar 84) many) : m_X7_leading (wd_h vi ar pr hh) 72 (nI many) = some (bt_ (li_ vi ar pr pl (ar 84) many) m 0 0) := by
  rw [m_X7_leading, wd_ck w72 (by decide)]
  exact ml_lg_l h hm hd 64 0 0 (by omega) (by omega)
end FT
