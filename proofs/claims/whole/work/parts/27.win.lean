/-! which wins; from where it is sure -/
def wo_ (b : Option Nat) : Int32 := match b with
  | none => -1
  | some j => nI j
def wb_ (F : Nat → Bool) (c : Nat → Nat → Int32) (i : Nat) (b : Option Nat) : Option Nat := if F i = true then (match b with
  | none => some i
  | some j => if c i j < 0 then some i else some j) else b
def wn_ (F : Nat → Bool) (c : Nat → Nat → Int32) : Nat → Nat → Option Nat → Option Nat
  | 0, _, b => b
  | n + 1, i, b => wn_ F c n (i + 1) (wb_ F c i b)
theorem wb_lt {F : Nat → Bool} {c : Nat → Nat → Int32} {m i : Nat} {b : Option Nat} (hi : i < m) (hb : ∀ j, b = some j → j < m) : ∀ j, wb_ F c i b = some j → j < m := by
  intro j hj
  unfold wb_ at hj
  by_cases hf : F i = true
  · rw [if_pos hf] at hj
    cases b with
    | none => cases hj; exact hi
    | some k =>
      dsimp only at hj
      by_cases hc : c i k < 0
      · rw [if_pos hc] at hj; cases hj; exact hi
      · rw [if_neg hc] at hj; cases hj; exact hb j rfl
  · rw [if_neg hf] at hj
    exact hb j hj
theorem wb_in {F : Nat → Bool} {c : Nat → Nat → Int32} {i : Nat} {b : Option Nat} (hb : ∀ j, b = some j → F j = true) : ∀ j, wb_ F c i b = some j → F j = true := by
  intro j hj
  unfold wb_ at hj
  by_cases hf : F i = true
  · rw [if_pos hf] at hj
    cases b with
    | none => cases hj; exact hf
    | some k =>
      dsimp only at hj
      by_cases hc : c i k < 0
      · rw [if_pos hc] at hj; cases hj; exact hf
      · rw [if_neg hc] at hj; cases hj; exact hb j rfl
  · rw [if_neg hf] at hj
    exact hb j hj
theorem wb_no {F : Nat → Bool} {c : Nat → Nat → Int32} {i : Nat} {b : Option Nat} : wb_ F c i b = none ↔ b = none ∧ F i = false := by
  unfold wb_
  by_cases hf : F i = true
  · rw [if_pos hf, hf]
    cases b with
    | none => simp
    | some k =>
      dsimp only
      by_cases hc : c i k < 0
      · rw [if_pos hc]; simp
      · rw [if_neg hc]; simp
  · rw [if_neg hf]
    simp [hf]
theorem wo_ne {j : Nat} (h : j < 2 ^ 31) : ¬ nI j = -1 := by
  intro z
  have := nI_pos (n := j) h
  rw [z] at this
  exact this (by decide)
theorem wn_lt {F : Nat → Bool} {c : Nat → Nat → Int32} {m : Nat} : ∀ (n i : Nat) (b : Option Nat), i + n = m → (∀ j, b = some j → j < m) → ∀ j, wn_ F c n i b = some j → j < m
  | 0, _, _, _, hb, j, h => hb j h
  | n + 1, i, b, hi, hb, j, h => wn_lt n (i + 1) (wb_ F c i b) (by omega) (wb_lt (by omega) hb) j h
theorem wn_some {F : Nat → Bool} {c : Nat → Nat → Int32} : ∀ (n i : Nat) (b : Option Nat), (wn_ F c n i b = none ↔ b = none ∧ ∀ q, i ≤ q → q < i + n → F q = false)
  | 0, _, _ => ⟨fun h => ⟨h, fun q h1 h2 => absurd h1 (by omega)⟩, fun h => h.1⟩
  | n + 1, i, b => by
    rw [wn_, wn_some n (i + 1), wb_no]
    exact ⟨fun h => ⟨h.1.1, fun q h1 h2 => if e : q = i then e ▸ h.1.2 else h.2 q (by omega) (by omega)⟩, fun h => ⟨⟨h.1, h.2 i (by omega) (by omega)⟩, fun q h1 h2 => h.2 q (by omega) (by omega)⟩⟩
/-- the winner's pattern is one that fits -/
theorem wn_in {F : Nat → Bool} {c : Nat → Nat → Int32} : ∀ (n i : Nat) (b : Option Nat), (∀ j, b = some j → F j = true) → ∀ j, wn_ F c n i b = some j → F j = true
  | 0, _, _, hb, j, h => hb j h
  | n + 1, i, b, hb, j, h => wn_in n (i + 1) (wb_ F c i b) (wb_in hb) j h
theorem wn_congr {F G : Nat → Bool} {c : Nat → Nat → Int32} : ∀ (n i : Nat) (b : Option Nat), (∀ q, i ≤ q → q < i + n → F q = G q) → wn_ F c n i b = wn_ G c n i b
  | 0, _, _, _ => rfl
  | n + 1, i, b, h => by
    rw [wn_, wn_, show wb_ F c i b = wb_ G c i b by unfold wb_; rw [h i (by omega) (by omega)]]
    exact wn_congr n (i + 1) _ (fun q h1 h2 => h q (by omega) (by omega))
theorem nle_ {x : Int32} : ¬ 0 ≤ x ↔ x < 0 := Int32.not_le
section WN
variable {vi ar : Nat → Nat → Int32} {pr : Nat → Nat} {hh : Int64} {m : Nat} {pl dr an : Nat → Nat}
def cx_ (ar : Nat → Nat → Int32) (pr : Nat → Nat) (i j : Nat) : Int32 := cm_ (ar (pr i + 2)) (ar (pr j + 2)) 10 0
def he_ (vi : Nat → Nat → Int32) (pr : Nat → Nat) (i : Nat) : Bool := decide (vi (pr i) 5 = 9)
theorem pn_wn_44 (h : PL_ vi ar pr m pl dr an) {k n i : Nat} {hp : Int32} {b : Option Nat} {k8 : Nat → Nat → Int32 → Int32 → Option Nat → Int32 → Option Int32} (hk : Rw_ vi k 10 n) (hd : sm_ 9 (ar (k + 1)) n) (hi : i < m) (hb : ∀ j, b = some j → j < m) :
    b_X3_winner_44 (wd_h vi ar pr hh) k8 9 k hp (wo_ b) (b.map pr) (nI i) (pr i) = k8 9 k hp (wo_ (wb_ (fi_ vi ar pr pl (ar (k + 1)) n) (cx_ ar pr) i b)) ((wb_ (fi_ vi ar pr pl (ar (k + 1)) n) (cx_ ar pr) i b).map pr) (nI (i + 1)) := by
  have hm10 := h.1
  obtain ⟨v, e1, e2, -⟩ := pn_reach (hh := hh) h hk hd (Nat.le_refl n) hi
  unfold b_X3_winner_44 wb_
  rw [ro_size hk, Option.bind_some, e1, Option.bind_some, nI_1]
  by_cases hf : fi_ vi ar pr pl (ar (k + 1)) n i = true
  · rw [if_neg (fun z => by rw [e2.mp z] at hf; cases hf)]
    cases b with
    | none =>
      simp only [hf, if_true]
      rfl
    | some j =>
      have hj := hb j rfl
      simp only [hf, if_true, Option.map_some, dp_om]
      rw [pt_nar (h.pa (by omega)) (h.pa (by omega)) (h.2.2.2.2.2 i hi).1.w11 (h.2.2.2.2.2 j hj).1.w11, Option.bind_some]
      by_cases hc : cx_ ar pr i j < 0
      · rw [if_pos (show cm_ (ar (pr i + 2)) (ar (pr j + 2)) 10 0 < 0 from hc), if_neg (by decide), if_pos hc]
        rfl
      · rw [if_neg (show ¬ cm_ (ar (pr i + 2)) (ar (pr j + 2)) 10 0 < 0 from hc), if_pos rfl, if_neg hc]
        rfl
  · have hf' : fi_ vi ar pr pl (ar (k + 1)) n i = false := by simpa using hf
    rw [if_pos (e2.mpr hf')]
    simp only [hf', Bool.false_eq_true, if_false]
theorem pn_wn_l (h : PL_ vi ar pr m pl dr an) {k n : Nat} (hp : Bool) (hk : Rw_ vi k 10 n) (hd : sm_ 9 (ar (k + 1)) n) : ∀ (f i : Nat) (b : Option Nat), i ≤ m → 10 < f + i → (∀ j, b = some j → j < m) → m_X3_winner_8 (wd_h vi ar pr hh) f 9 k (if hp = true then 1 else 0) (wo_ b) (b.map pr) (nI i) = some (wo_ (wn_ (fun i => fi_ vi ar pr pl (ar (k + 1)) n i && (!hp || he_ vi pr i)) (cx_ ar pr) (m - i) i b)) := by
  have hm10 := h.1
  intro f
  induction f with
  | zero => intro i b h1 h2; omega
  | succ f ih =>
    intro i b h1 h2 hb
    show b_X3_winner_8 (wd_h vi ar pr hh) (m_X3_winner_8 (wd_h vi ar pr hh) f) 9 k _ (wo_ b) (b.map pr) (nI i) = _
    unfold b_X3_winner_8
    rw [gi_3_1 rfl, h.2.1, Option.bind_some]
    by_cases hin : i < m
    · rw [if_neg (by rw [nI_leI (by omega) (by omega)]; omega), pn_at h (by omega), if_pos hin, Option.bind_some, dp_om, show m - i = (m - (i + 1)) + 1 by omega, wn_, nI_1, pt_way (h.pa (by omega)), Option.bind_some, pn_wn_44 h hk hd hin hb]
      have hb' : ∀ j, wb_ (fi_ vi ar pr pl (ar (k + 1)) n) (cx_ ar pr) i b = some j → j < m := wb_lt hin hb
      cases hp with
      | false =>
        rw [if_pos (show (if false = true then (1 : Int32) else 0) = 0 from rfl)]
        have e : wb_ (fun i => fi_ vi ar pr pl (ar (k + 1)) n i && (!false || he_ vi pr i)) (cx_ ar pr) i b = wb_ (fi_ vi ar pr pl (ar (k + 1)) n) (cx_ ar pr) i b := by simp [wb_]
        rw [e]
        exact ih (i + 1) _ (by omega) (by omega) hb'
      | true =>
        rw [if_neg (show ¬ (if true = true then (1 : Int32) else 0) = 0 by decide)]
        by_cases hw : vi (pr i) 5 = 9
        · have e : he_ vi pr i = true := decide_eq_true hw
          have e2 : wb_ (fun i => fi_ vi ar pr pl (ar (k + 1)) n i && (!true || he_ vi pr i)) (cx_ ar pr) i b = wb_ (fi_ vi ar pr pl (ar (k + 1)) n) (cx_ ar pr) i b := by simp [wb_, e]
          rw [if_pos hw, e2]
          exact ih (i + 1) _ (by omega) (by omega) hb'
        · have e : he_ vi pr i = false := decide_eq_false hw
          have e2 : wb_ (fun i => fi_ vi ar pr pl (ar (k + 1)) n i && (!true || he_ vi pr i)) (cx_ ar pr) i b = b := by simp [wb_, e]
          rw [if_neg hw, e2]
          exact ih (i + 1) b (by omega) (by omega) hb
    · rw [if_pos (by rw [nI_leI (by omega) (by omega)]; omega), show m - i = 0 by omega]; rfl
theorem pn_wn (h : PL_ vi ar pr m pl dr an) {k n : Nat} (hk : Rw_ vi k 10 n) (hd : sm_ 9 (ar (k + 1)) n) : m_X3_winner (wd_h vi ar pr hh) 9 k 0 = some (wo_ (wn_ (fi_ vi ar pr pl (ar (k + 1)) n) (cx_ ar pr) m 0 none)) := by
  rw [m_X3_winner, wd_ck (c := 3) rfl (by decide)]
  have e := pn_wn_l (hh := hh) h false hk hd 64 0 none (by omega) (by omega) (fun j hj => by cases hj)
  simp only [Bool.not_false, Bool.true_or, Bool.and_true] at e
  exact e
theorem pn_wh (h : PL_ vi ar pr m pl dr an) {k n : Nat} (hk : Rw_ vi k 10 n) (hd : sm_ 9 (ar (k + 1)) n) : m_X3_winner (wd_h vi ar pr hh) 9 k 1 = some (wo_ (wn_ (fun i => fi_ vi ar pr pl (ar (k + 1)) n i && he_ vi pr i) (cx_ ar pr) m 0 none)) := by
  rw [m_X3_winner, wd_ck (c := 3) rfl (by decide)]
  have e := pn_wn_l (hh := hh) h true hk hd 64 0 none (by omega) (by omega) (fun j hj => by cases hj)
  simp only [Bool.not_true, Bool.false_or] at e
  exact e
theorem ml_wn_l (h : PL_ vi ar pr m pl dr an) {x : Int32} {F : Nat → Bool} (hx : ∀ q, q < m → (((x >>> (nI q &&& 31)) &&& 1) = 1 ↔ F q = true)) : ∀ (f i : Nat) (b : Option Nat), i ≤ m → 10 < f + i → (∀ j, b = some j → j < m) → m_X7_winner_4 (wd_h vi ar pr hh) f 72 x (wo_ b) (nI i) = some (wo_ (wn_ F (cx_ ar pr) (m - i) i b)) := by
  have hm10 := h.1
  intro f
  induction f with
  | zero => intro i b h1 h2; omega
  | succ f ih =>
    intro i b h1 h2 hb
    show b_X7_winner_4 (wd_h vi ar pr hh) (m_X7_winner_4 (wd_h vi ar pr hh) f) 72 x (wo_ b) (nI i) = _
    unfold b_X7_winner_4
    rw [gi_7_2 w72, h.2.2.1, Option.bind_some]
    by_cases hin : i < m
    · rw [if_neg (by rw [nI_leI (by omega) (by omega)]; omega), show m - i = (m - (i + 1)) + 1 by omega, wn_]
      unfold b_X7_winner_26
      rw [if_neg (show ¬ (1 : Int32) = 0 by decide), if_pos (show (0 : Int32) = 0 from rfl), nI_1]
      by_cases hf : F i = true
      · rw [if_pos ((hx i hin).mpr hf)]
        unfold wb_
        rw [if_pos hf]
        cases b with
        | none =>
          rw [if_pos (show wo_ none = -1 from rfl)]
          exact ih (i + 1) (some i) (by omega) (by omega) (fun j hj => by cases hj; exact hin)
        | some j =>
          have hj := hb j rfl
          rw [if_neg (show ¬ wo_ (some j) = -1 from wo_ne (by omega)), show wo_ (some j) = nI j from rfl, ml_cmp h hin hj, Option.bind_some]
          by_cases hc : cx_ ar pr i j < 0
          · rw [if_neg (show ¬ 0 ≤ cm_ (ar (pr i + 2)) (ar (pr j + 2)) 10 0 from nle_.mpr hc)]
            simp only [hc, if_true]
            exact ih (i + 1) (some i) (by omega) (by omega) (fun j hj => by cases hj; exact hin)
          · rw [if_pos (show 0 ≤ cm_ (ar (pr i + 2)) (ar (pr j + 2)) 10 0 from Classical.byContradiction fun z => hc (nle_.mp z))]
            simp only [hc, if_false]
            exact ih (i + 1) (some j) (by omega) (by omega) (fun q hq => by cases hq; exact hj)
      · rw [if_neg (fun z => hf ((hx i hin).mp z))]
        unfold wb_
        rw [if_neg hf]
        exact ih (i + 1) b (by omega) (by omega) hb
    · rw [if_pos (by rw [nI_leI (by omega) (by omega)]; omega), show m - i = 0 by omega]; rfl
theorem ml_wn (h : PL_ vi ar pr m pl dr an) {F : Nat → Bool} : m_X7_winner (wd_h vi ar pr hh) 72 (bt_ F m 0 0) = some (wo_ (wn_ F (cx_ ar pr) m 0 none)) := by
  have hm10 := h.1
  rw [m_X7_winner, wd_ck w72 (by decide)]
  exact ml_wn_l h (fun q hq => bt_q hm10 hq) 64 0 none (by omega) (by omega) (fun j hj => by cases hj)
theorem ml_he_l (h : PL_ vi ar pr m pl dr an) {x : Int32} {F : Nat → Bool} (hx : ∀ q, q < m → (((x >>> (nI q &&& 31)) &&& 1) = 1 ↔ F q = true)) : ∀ (f i : Nat) (y : Int32), i ≤ m → 10 < f + i → m_X7_helps_4 (wd_h vi ar pr hh) f 72 x y (nI i) = some (bt_ (fun i => F i && he_ vi pr i) (m - i) i y) := by
  have hm10 := h.1
  intro f
  induction f with
  | zero => intro i y h1 h2; omega
  | succ f ih =>
    intro i y h1 h2
    show b_X7_helps_4 (wd_h vi ar pr hh) (m_X7_helps_4 (wd_h vi ar pr hh) f) 72 x y (nI i) = _
    unfold b_X7_helps_4
    rw [gi_7_2 w72, h.2.2.1, Option.bind_some]
    by_cases hin : i < m
    · obtain ⟨-, -, -, q77, -⟩ := h.2.2.2.2.2 i hin
      rw [if_neg (by rw [nI_leI (by omega) (by omega)]; omega), show m - i = (m - (i + 1)) + 1 by omega, bt_, gr_7_6 w72, Option.bind_some, rd_77 (by omega), q77, Option.bind_some, nI_1, or_z]
      by_cases hf : F i = true
      · rw [if_pos ((hx i hin).mpr hf)]
        by_cases hw : vi (pr i) 5 = 9
        · have e : he_ vi pr i = true := decide_eq_true hw
          rw [if_pos hw, if_pos (by rw [hf, e]; rfl)]
          exact ih (i + 1) _ (by omega) (by omega)
        · have e : he_ vi pr i = false := decide_eq_false hw
          rw [if_neg hw, if_neg (by rw [e, Bool.and_false]; decide)]
          exact ih (i + 1) _ (by omega) (by omega)
      · rw [if_neg (fun z => hf ((hx i hin).mp z)), if_neg (fun z => hf (by simp only [Bool.and_eq_true] at z; exact z.1))]
        exact ih (i + 1) _ (by omega) (by omega)
    · rw [if_pos (by rw [nI_leI (by omega) (by omega)]; omega), show m - i = 0 by omega]; rfl
theorem ml_he (h : PL_ vi ar pr m pl dr an) {F : Nat → Bool} : m_X7_helps (wd_h vi ar pr hh) 72 (bt_ F m 0 0) = some (bt_ (fun i => F i && he_ vi pr i) m 0 0) := by
  have hm10 := h.1
  rw [m_X7_helps, wd_ck w72 (by decide)]
  exact ml_he_l h (fun q hq => bt_q hm10 hq) 64 0 0 (by omega) (by omega)
end WN
/-! sure -/
def ss_ (F : Nat → Bool) (lk : Nat → Nat → Bool) (i : Nat) (b : Option Nat) : Option (Option Nat) := if F i = true then (match b with
  | none => some (some i)
  | some j => if lk i j = true then some (some j) else none) else some b
def su_ (F : Nat → Bool) (lk : Nat → Nat → Bool) : Nat → Nat → Option Nat → Bool
  | 0, _, b => b.isSome
  | n + 1, i, b => (ss_ F lk i b).elim false (fun b' => su_ F lk n (i + 1) b')
def fl_ (s : Nat → Bool) : Nat → Nat → Option Nat
  | 0, _ => none
  | n + 1, i => if s i = true then some i else fl_ s n (i + 1)
theorem fl_congr {s t : Nat → Bool} : ∀ (n i : Nat), (∀ q, i ≤ q → q < i + n → s q = t q) → fl_ s n i = fl_ t n i
  | 0, _, _ => rfl
  | n + 1, i, h => by
    unfold fl_
    rw [h i (by omega) (by omega), fl_congr n (i + 1) (fun q h1 h2 => h q (by omega) (by omega))]
theorem su_congr {F G : Nat → Bool} {lk : Nat → Nat → Bool} : ∀ (n i : Nat) (b : Option Nat), (∀ q, i ≤ q → q < i + n → F q = G q) → su_ F lk n i b = su_ G lk n i b
  | 0, _, _, _ => rfl
  | n + 1, i, b, h => by
    rw [su_, su_, show ss_ F lk i b = ss_ G lk i b by unfold ss_; rw [h i (by omega) (by omega)]]
    congr 1
    funext b'
    exact su_congr n (i + 1) b' (fun q h1 h2 => h q (by omega) (by omega))
section SU
variable {vi ar : Nat → Nat → Int32} {pr : Nat → Nat} {hh : Int64} {m : Nat} {pl dr an : Nat → Nat}
def lx_ (vi ar : Nat → Nat → Int32) (pr : Nat → Nat) (an : Nat → Nat) (i j : Nat) : Bool := decide (LK_ vi ar (pr i) (pr j) (an i) (an j))
theorem lx_sym {i j : Nat} : LK_ vi ar (pr j) (pr i) (an j) (an i) ↔ LK_ vi ar (pr i) (pr j) (an i) (an j) := by
  have key : ∀ i j, LK_ vi ar (pr j) (pr i) (an j) (an i) → LK_ vi ar (pr i) (pr j) (an i) (an j) := by
    intro i j h
    refine ⟨h.1.symm, h.2.1.symm, h.2.2.1.symm, ?_⟩
    have h4 := h.2.2.2
    rw [lk_iff] at h4 ⊢
    exact fun q h1 h2 => (h4 q h1 (by have := h.2.2.1; omega)).symm
  exact ⟨key i j, key j i⟩
theorem pn_su_l (h : PL_ vi ar pr m pl dr an) {k n many : Nat} (hk : Rw_ vi k 10 n) (hd : sm_ 9 (ar (k + 1)) n) (hm : many ≤ n) : ∀ (f i : Nat) (b : Option Nat), i ≤ m → 10 < f + i → (∀ j, b = some j → j < m) → m_X3_isSureBy_5 (wd_h vi ar pr hh) f 9 k (nI many) (b.map pr) (nI i) = some (if su_ (fun i => fi_ vi ar pr pl (ar (k + 1)) many i || li_ vi ar pr pl (ar (k + 1)) many i) (lx_ vi ar pr an) (m - i) i b = true then 1 else 0) := by
  have hm10 := h.1
  intro f
  induction f with
  | zero => intro i b h1 h2; omega
  | succ f ih =>
    intro i b h1 h2 hb
    show b_X3_isSureBy_5 (wd_h vi ar pr hh) (m_X3_isSureBy_5 (wd_h vi ar pr hh) f) 9 k (nI many) (b.map pr) (nI i) = _
    unfold b_X3_isSureBy_5
    rw [gi_3_1 rfl, h.2.1, Option.bind_some]
    by_cases hin : i < m
    · obtain ⟨v, e1, -, -, e4⟩ := pn_reach (hh := hh) h hk hd hm hin
      rw [if_neg (by rw [nI_leI (by omega) (by omega)]; omega), pn_at h (by omega), if_pos hin, Option.bind_some, dp_om, e1, Option.bind_some, show m - i = (m - (i + 1)) + 1 by omega, su_, nI_1]
      by_cases hf : (fi_ vi ar pr pl (ar (k + 1)) many i || li_ vi ar pr pl (ar (k + 1)) many i) = true
      · rw [if_neg (fun z => by rw [e4.mp z] at hf; cases hf)]
        unfold ss_
        simp only [hf, if_true]
        cases b with
        | none => exact ih (i + 1) (some i) (by omega) (by omega) (fun j hj => by cases hj; exact hin)
        | some j =>
          have hj := hb j rfl
          have wi := (h.2.2.2.2.2 i hin).1
          have wj := (h.2.2.2.2.2 j hj).1
          simp only [Option.map_some, dp_om]
          rw [pt_like (h.pa (by omega)) (h.pa (by omega)) wi.2.2.2.2.2.2.2.1 wi.2.2.2.2.2.2.2.2.1 wj.2.2.2.2.2.2.2.1 wj.2.2.2.2.2.2.2.2.1, Option.bind_some]
          by_cases hl : LK_ vi ar (pr i) (pr j) (an i) (an j)
          · rw [if_pos hl, if_neg (by decide)]
            simp only [show lx_ vi ar pr an i j = true from decide_eq_true hl, if_true]
            exact ih (i + 1) (some j) (by omega) (by omega) (fun q hq => by cases hq; exact hj)
          · rw [if_neg hl, if_pos rfl]
            simp only [show lx_ vi ar pr an i j = false from decide_eq_false hl, Bool.false_eq_true, if_false]
            rfl
      · unfold ss_
        have hf' : (fi_ vi ar pr pl (ar (k + 1)) many i || li_ vi ar pr pl (ar (k + 1)) many i) = false := by simpa using hf
        rw [if_pos (e4.mpr hf')]
        simp only [hf', Bool.false_eq_true, if_false]
        exact ih (i + 1) b (by omega) (by omega) hb
    · rw [if_pos (by rw [nI_leI (by omega) (by omega)]; omega), show m - i = 0 by omega]
      cases b <;> rfl
def sb_ (vi ar : Nat → Nat → Int32) (pr : Nat → Nat) (m : Nat) (pl an : Nat → Nat) (g : Nat → Int32) (many : Nat) : Bool := su_ (fun i => fi_ vi ar pr pl g many i || li_ vi ar pr pl g many i) (lx_ vi ar pr an) m 0 none
theorem sb_congr {g g' : Nat → Int32} {many : Nat} (h : ∀ q, q < many → g q = g' q) : sb_ vi ar pr m pl an g many = sb_ vi ar pr m pl an g' many := by
  unfold sb_
  exact su_congr m 0 none (fun q _ _ => by rw [fi_congr h, li_congr h])
theorem pn_su (h : PL_ vi ar pr m pl dr an) {k n many : Nat} (hk : Rw_ vi k 10 n) (hd : sm_ 9 (ar (k + 1)) n) (hm : many ≤ n) : m_X3_isSureBy (wd_h vi ar pr hh) 9 k (nI many) = some (if sb_ vi ar pr m pl an (ar (k + 1)) many = true then 1 else 0) := by
  rw [m_X3_isSureBy, wd_ck (c := 3) rfl (by decide)]
  exact pn_su_l h hk hd hm 64 0 none (by omega) (by omega) (fun j hj => by cases hj)
theorem pn_sf_l (h : PL_ vi ar pr m pl dr an) {k n : Nat} (hk : Rw_ vi k 10 n) (hd : sm_ 9 (ar (k + 1)) n) : ∀ (f i : Nat), i ≤ n + 1 → 12 < f + i → m_X3_sureFrom_2 (wd_h vi ar pr hh) f 9 k (nI i) = some (wo_ (fl_ (sb_ vi ar pr m pl an (ar (k + 1))) (n + 1 - i) i)) := by
  have hn := hk.2.2.2.2
  intro f
  induction f with
  | zero => intro i h1 h2; omega
  | succ f ih =>
    intro i h1 h2
    show b_X3_sureFrom_2 (wd_h vi ar pr hh) (m_X3_sureFrom_2 (wd_h vi ar pr hh) f) 9 k (nI i) = _
    unfold b_X3_sureFrom_2
    rw [ro_size hk, Option.bind_some]
    by_cases hin : i ≤ n
    · rw [if_neg (by rw [nI_ltI (by omega) (by omega)]; omega), pn_su h hk hd hin, Option.bind_some, show n + 1 - i = (n + 1 - (i + 1)) + 1 by omega, fl_, nI_1]
      by_cases hs : sb_ vi ar pr m pl an (ar (k + 1)) i = true
      · rw [if_pos hs, if_neg (by decide), if_pos hs]; rfl
      · rw [if_neg hs, if_pos rfl, if_neg hs]
        exact ih (i + 1) (by omega) (by omega)
    · rw [if_pos (by rw [nI_ltI (by omega) (by omega)]; omega), show n + 1 - i = 0 by omega]; rfl
theorem pn_sf (h : PL_ vi ar pr m pl dr an) {k n : Nat} (hk : Rw_ vi k 10 n) (hd : sm_ 9 (ar (k + 1)) n) : m_X3_sureFrom (wd_h vi ar pr hh) 9 k = some (wo_ (fl_ (sb_ vi ar pr m pl an (ar (k + 1))) (n + 1) 0)) := by
  rw [m_X3_sureFrom, wd_ck (c := 3) rfl (by decide)]
  exact pn_sf_l h hk hd 64 0 (by omega) (by omega)
theorem ml_su_0 (h : PL_ vi ar pr m pl dr an) {x : Int32} : ∀ (f i : Nat) (y : Int32), i ≤ m → 10 < f + i → m_X7_isSureBy_28 (wd_h vi ar pr hh) f 72 x y 0 (nI i) = some 0 := by
  have hm10 := h.1
  intro f
  induction f with
  | zero => intro i y h1 h2; omega
  | succ f ih =>
    intro i y h1 h2
    show b_X7_isSureBy_28 (wd_h vi ar pr hh) (m_X7_isSureBy_28 (wd_h vi ar pr hh) f) 72 x y 0 (nI i) = _
    unfold b_X7_isSureBy_28
    rw [gi_7_2 w72, h.2.2.1, Option.bind_some]
    by_cases hin : i < m
    · rw [if_neg (by rw [nI_leI (by omega) (by omega)]; omega), if_pos (show (0 : Int32) = 0 from rfl)]
      unfold b_X7_isSureBy_72
      rw [nI_1, ih (i + 1) _ (by omega) (by omega), ih (i + 1) _ (by omega) (by omega)]
      split
      · split <;> rfl
      · rfl
    · rw [if_pos (by rw [nI_leI (by omega) (by omega)]; omega)]; rfl
theorem ml_su_l (h : PL_ vi ar pr m pl dr an) {x : Int32} {F : Nat → Bool} (hx : ∀ q, q < m → (((x >>> (nI q &&& 31)) &&& 1) = 1 ↔ F q = true)) : ∀ (f i : Nat) (b : Option Nat), i ≤ m → 10 < f + i → (∀ j, b = some j → j < m) → (b.isSome = true ∨ ∃ q, i ≤ q ∧ q < m ∧ F q = true) → m_X7_isSureBy_28 (wd_h vi ar pr hh) f 72 x (wo_ b) 1 (nI i) = some (if su_ F (lx_ vi ar pr an) (m - i) i b = true then 1 else 0) := by
  have hm10 := h.1
  intro f
  induction f with
  | zero => intro i b h1 h2; omega
  | succ f ih =>
    intro i b h1 h2 hb hs
    show b_X7_isSureBy_28 (wd_h vi ar pr hh) (m_X7_isSureBy_28 (wd_h vi ar pr hh) f) 72 x (wo_ b) 1 (nI i) = _
    unfold b_X7_isSureBy_28
    rw [gi_7_2 w72, h.2.2.1, Option.bind_some]
    by_cases hin : i < m
    · rw [if_neg (by rw [nI_leI (by omega) (by omega)]; omega), show m - i = (m - (i + 1)) + 1 by omega, su_, if_neg (show ¬ (1 : Int32) = 0 by decide)]
      unfold b_X7_isSureBy_72
      rw [nI_1]
      by_cases hf : F i = true
      · rw [if_pos ((hx i hin).mpr hf)]
        unfold ss_
        rw [if_pos hf]
        cases b with
        | none =>
          rw [if_pos (show wo_ none = -1 from rfl), if_pos (show wo_ none = -1 from rfl)]
          exact ih (i + 1) (some i) (by omega) (by omega) (fun j hj => by cases hj; exact hin) (Or.inl rfl)
        | some j =>
          have hj := hb j rfl
          have hne : ¬ wo_ (some j) = -1 := wo_ne (by omega)
          rw [if_neg hne, if_neg hne, if_neg hne, show wo_ (some j) = nI j from rfl, ml_like h hj hin, Option.bind_some]
          by_cases hl : LK_ vi ar (pr i) (pr j) (an i) (an j)
          · simp only [show lx_ vi ar pr an i j = true from decide_eq_true hl, if_true]
            rw [if_pos (lx_sym.mpr hl), if_neg (by decide)]
            exact ih (i + 1) (some j) (by omega) (by omega) (fun q hq => by cases hq; exact hj) (Or.inl rfl)
          · simp only [show lx_ vi ar pr an i j = false from decide_eq_false hl, Bool.false_eq_true, if_false]
            rw [if_neg (fun z => hl (lx_sym.mp z)), if_pos rfl]
            exact ml_su_0 h f (i + 1) _ (by omega) (by omega)
      · rw [if_neg (fun z => hf ((hx i hin).mp z))]
        unfold ss_
        rw [if_neg hf]
        refine ih (i + 1) b (by omega) (by omega) hb ?_
        rcases hs with hs | ⟨q, h1, h2, h3⟩
        · exact Or.inl hs
        · refine Or.inr ⟨q, ?_, h2, h3⟩
          rcases Nat.lt_or_ge i q with z | z
          · exact z
          · rw [show q = i by omega] at h3
            exact absurd h3 hf
    · rw [if_pos (by rw [nI_leI (by omega) (by omega)]; omega), show m - i = 0 by omega]
      rcases hs with hs | ⟨q, h1, h2, -⟩
      · cases b with
        | none => cases hs
        | some j => rfl
      · omega
theorem ml_su (h : PL_ vi ar pr m pl dr an) {many : Nat} (hm : many ≤ 10) (hd : sm_ 9 (ar 84) many) : m_X7_isSureBy (wd_h vi ar pr hh) 72 (nI many) = some (if sb_ vi ar pr m pl an (ar 84) many = true then 1 else 0) := by
  have hm10 := h.1
  rw [m_X7_isSureBy, wd_ck w72 (by decide), ml_fg h hm hd, Option.bind_some, ml_lg h hm hd, Option.bind_some, bt_or hm10]
  by_cases hz : bt_ (fun i => fi_ vi ar pr pl (ar 84) many i || li_ vi ar pr pl (ar 84) many i) m 0 0 = 0
  · rw [if_pos hz]
    have e := ml_su_0 (hh := hh) (x := bt_ (fun i => fi_ vi ar pr pl (ar 84) many i || li_ vi ar pr pl (ar 84) many i) m 0 0) h 64 0 (-1) (by omega) (by omega)
    have e : m_X7_isSureBy_28 (wd_h vi ar pr hh) 64 72 (bt_ (fun i => fi_ vi ar pr pl (ar 84) many i || li_ vi ar pr pl (ar 84) many i) m 0 0) (-1) 0 0 = some 0 := e
    rw [e, if_neg]
    have hq := (bt_z hm10).mp hz
    unfold sb_
    have key : ∀ n i, i + n ≤ m → su_ (fun i => fi_ vi ar pr pl (ar 84) many i || li_ vi ar pr pl (ar 84) many i) (lx_ vi ar pr an) n i none = false := by
      intro n
      induction n with
      | zero => intro i _; rfl
      | succ n ih =>
        intro i hi
        rw [su_]
        unfold ss_
        simp only [hq i (by omega), Bool.false_eq_true, if_false]
        exact ih (i + 1) (by omega)
    rw [key m 0 (by omega)]
    decide
  · rw [if_neg hz]
    have hex : ∃ q, 0 ≤ q ∧ q < m ∧ (fi_ vi ar pr pl (ar 84) many q || li_ vi ar pr pl (ar 84) many q) = true := by
      refine Classical.byContradiction fun z => hz ((bt_z hm10).mpr fun q hq => ?_)
      cases hb : (fi_ vi ar pr pl (ar 84) many q || li_ vi ar pr pl (ar 84) many q) with
      | false => rfl
      | true => exact absurd ⟨q, by omega, hq, hb⟩ z
    exact ml_su_l h (F := fun i => fi_ vi ar pr pl (ar 84) many i || li_ vi ar pr pl (ar 84) many i) (fun q hq => bt_q hm10 hq) 64 0 none (by omega) (by omega) (fun j hj => by cases hj) (Or.inr hex)
theorem ml_sn_l (h : PL_ vi ar pr m pl dr an) {n : Nat} (hn : n ≤ 10) (hd : sm_ 9 (ar 84) n) : ∀ (f k : Nat), k ≤ n + 1 → k < f → m_X7_sureNow_11 f (wd_h vi ar pr hh) 72 (wo_ (fl_ (sb_ vi ar pr m pl an (ar 84)) (n + 1 - k) k)) (nI k + (-1)) = some (wd_h vi ar pr hh, wo_ (fl_ (sb_ vi ar pr m pl an (ar 84)) (n + 1) 0)) := by
  intro f
  induction f with
  | zero => intro k h1 h2; omega
  | succ f ih =>
    intro k h1 h2
    show b_X7_sureNow_11 (m_X7_sureNow_11 f) (wd_h vi ar pr hh) 72 _ (nI k + (-1)) = _
    unfold b_X7_sureNow_11
    cases k with
    | zero => rw [if_pos (by decide)]; rfl
    | succ k =>
      rw [pk_m1, if_neg (nI_pos (by omega)), ml_su h (by omega) (fun q hq => hd q (by omega)), Option.bind_some]
      have e : fl_ (sb_ vi ar pr m pl an (ar 84)) (n + 1 - k) k = if sb_ vi ar pr m pl an (ar 84) k = true then some k else fl_ (sb_ vi ar pr m pl an (ar 84)) (n + 1 - (k + 1)) (k + 1) := by
        rw [show n + 1 - k = (n + 1 - (k + 1)) + 1 by omega, fl_]
      have := ih k (by omega) (by omega)
      rw [e] at this
      by_cases hs : sb_ vi ar pr m pl an (ar 84) k = true
      · rw [if_pos hs] at this ⊢
        rw [if_neg (by decide)]
        exact this
      · rw [if_neg hs] at this ⊢
        rw [if_pos rfl]
        exact this
end SU
