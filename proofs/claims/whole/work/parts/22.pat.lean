/-! Pattern: p its cell, p + 1 its masks, p + 2 its widths, p + 3 what is ahead (a Row), p + 4 that one's array -/
def Pa_ (p : Nat) : Prop := wd_k p = 1 ∧ wd_k (p + 1) = 110 ∧ wd_k (p + 2) = 110 ∧ wd_k (p + 3) = 5 ∧ wd_k (p + 4) = 104
/-- the first place at which two rows of widths differ tells -/
def cm_ (f g : Nat → Int32) : Nat → Nat → Int32
  | 0, _ => 0
  | n + 1, i => if f i = g i then cm_ f g n (i + 1) else f i - g i
def sm_ (b : Nat) (f : Nat → Int32) (n : Nat) : Prop := ∀ i, i < n → ∃ a : Nat, a ≤ b ∧ f i = nI a
theorem cm_lt {f g : Nat → Int32} (hf : sm_ 11 f 10) (hg : sm_ 11 g 10) {i : Nat} (hi : i < 10) : f i - g i < 0 ↔ f i < g i := by
  obtain ⟨a, ha, ea⟩ := hf i hi
  obtain ⟨b, hb, eb⟩ := hg i hi
  rw [ea, eb, nI_ltI (by omega) (by omega)]
  by_cases h : a < b
  · exact ⟨fun _ => h, fun _ => pk_sneg (by omega) h⟩
  · rw [pk_sub (by omega)]
    exact ⟨fun q => absurd q (nI_pos (by omega)), fun q => absurd q h⟩
/-- the digits are let at the places -/
def be_ (f g : Nat → Int32) : Nat → Nat → Bool
  | 0, _ => true
  | n + 1, i => if ((f i >>> (g i &&& 31)) &&& 1) = 0 then false else be_ f g n (i + 1)
def sh_ (f g : Nat → Int32) : Nat → Nat → Bool
  | 0, _ => true
  | n + 1, i => if (f i &&& g i) = 0 then false else sh_ f g n (i + 1)
/-- whether so many digits fit, whether they lead on, as bits -/
def rc_ (pl : Nat) (o : Int32) (many : Nat) : Int32 :=
  if many = pl ∨ (¬ o = 0 ∧ pl < many) then (if many < pl ∨ (¬ o = 0 ∧ many < 10) then 3 else 1) else (if many < pl ∨ (¬ o = 0 ∧ many < 10) then 2 else 0)
section PT
variable {vi ar : Nat → Nat → Int32} {pr : Nat → Nat} {hh : Int64}
theorem Pa_.ln1 {p : Nat} (h : Pa_ p) : dp_ln (wd_h vi ar pr hh) (p + 1) = some (nI 10) := by
  rw [wd_ln (by rw [h.2.1]; decide) (by rw [h.2.1]; decide), h.2.1]
theorem Pa_.ln2 {p : Nat} (h : Pa_ p) : dp_ln (wd_h vi ar pr hh) (p + 2) = some (nI 10) := by
  rw [wd_ln (by rw [h.2.2.1]; decide) (by rw [h.2.2.1]; decide), h.2.2.1]
theorem Pa_.ld1 {p i : Nat} (h : Pa_ p) (hi : i < 10) : dp_ai false (wd_h vi ar pr hh) (p + 1) (nI i) = some (ar (p + 1) i) := wd_ai (by rw [h.2.1]; decide) (by rw [h.2.1]; decide) (by rw [h.2.1]; exact hi)
theorem Pa_.ld2 {p i : Nat} (h : Pa_ p) (hi : i < 10) : dp_ai false (wd_h vi ar pr hh) (p + 2) (nI i) = some (ar (p + 2) i) := wd_ai (by rw [h.2.2.1]; decide) (by rw [h.2.2.1]; decide) (by rw [h.2.2.1]; exact hi)
theorem Pa_.st1 {p i : Nat} {x : Int32} (h : Pa_ p) (hi : i < 10) : dp_si false (wd_h vi ar pr hh) (p + 1) (nI i) x = some (wd_h vi (up2 ar (p + 1) i x) pr hh) := wd_si (by rw [h.2.1]; decide) (by rw [h.2.1]; decide) (by rw [h.2.1]; exact hi)
theorem Pa_.st2 {p i : Nat} {x : Int32} (h : Pa_ p) (hi : i < 10) : dp_si false (wd_h vi ar pr hh) (p + 2) (nI i) x = some (wd_h vi (up2 ar (p + 2) i x) pr hh) := wd_si (by rw [h.2.2.1]; decide) (by rw [h.2.2.1]; decide) (by rw [h.2.2.1]; exact hi)
theorem Pa_.row {p n : Nat} (h : Pa_ p) (hn : vi (p + 3) 1 = nI n) (hl : n ≤ 4) : Rw_ vi (p + 3) 4 n := ⟨h.2.2.2.1, h.2.2.2.2, by decide, hn, hl⟩
theorem pt_places {p : Nat} (h : Pa_ p) : m_X1_places (wd_h vi ar pr hh) p = some (vi p 3) := by rw [m_X1_places, wd_ck h.1 (by decide), gi_1_3 h.1]; rfl
theorem pt_open {p : Nat} (h : Pa_ p) (ho : vi p 4 = 0 ∨ vi p 4 = 1) : m_X1_isOpen (wd_h vi ar pr hh) p = some (vi p 4) := by rw [m_X1_isOpen, wd_ck h.1 (by decide), gi_1_4 h.1, Option.bind_some, dp_b, if_pos ho]
theorem pt_way {p : Nat} (h : Pa_ p) : m_X1_way (wd_h vi ar pr hh) p = some (vi p 5) := by rw [m_X1_way, wd_ck h.1 (by decide), gi_1_5 h.1]; rfl
theorem pt_drop {p : Nat} (h : Pa_ p) : m_X1_dropped (wd_h vi ar pr hh) p = some (vi p 6) := by rw [m_X1_dropped, wd_ck h.1 (by decide), gi_1_6 h.1]; rfl
theorem pt_ahead {p : Nat} (h : Pa_ p) : m_X1_ahead (wd_h vi ar pr hh) p = some (p + 3) := by rw [m_X1_ahead, wd_ck h.1 (by decide), gr_1_2 h.1]; rfl
theorem pt_dig {p i : Nat} (h : Pa_ p) (hi : i < 10) : m_X1_digitsAt (wd_h vi ar pr hh) p (nI i) = some (ar (p + 1) i) := by
  rw [m_X1_digitsAt, wd_ck h.1 (by decide), if_neg (nI_pos (by omega)), gr_1_0 h.1, Option.bind_some, h.ln1, Option.bind_some, if_neg (by rw [nI_leI (by omega) (by omega)]; omega), Option.bind_some, h.ld1 hi]; rfl
theorem pt_nar_l {p q : Nat} (hp : Pa_ p) (hq : Pa_ q) (hf : sm_ 11 (ar (p + 2)) 10) (hg : sm_ 11 (ar (q + 2)) 10) : ∀ (f i : Nat), i ≤ 10 → 10 < f + i → m_X1_isNarrowerThan_2 (wd_h vi ar pr hh) f p q (nI i) = some (if cm_ (ar (p + 2)) (ar (q + 2)) (10 - i) i < 0 then 1 else 0) := by
  intro f
  induction f with
  | zero => intro i h1 h2; omega
  | succ f ih =>
    intro i h1 h2
    show b_X1_isNarrowerThan_2 (wd_h vi ar pr hh) (m_X1_isNarrowerThan_2 (wd_h vi ar pr hh) f) p q (nI i) = _
    unfold b_X1_isNarrowerThan_2
    rw [gr_1_1 hp.1, Option.bind_some, hp.ln2, Option.bind_some]
    by_cases hin : i < 10
    · have hle : ¬ nI 10 ≤ nI i := by rw [nI_leI (by omega) (by omega)]; omega
      rw [if_neg hle, gr_1_1 hq.1, Option.bind_some, hq.ln2, Option.bind_some, if_neg hle, Option.bind_some, hp.ld2 hin, Option.bind_some, Option.bind_some, hq.ld2 hin, Option.bind_some, show 10 - i = (10 - (i + 1)) + 1 by omega, cm_]
      by_cases he : ar (p + 2) i = ar (q + 2) i
      · rw [if_pos he, if_pos he, nI_1, ih (i + 1) (by omega) (by omega)]
      · rw [if_neg he, if_neg he, Option.bind_some, hp.ld2 hin, Option.bind_some, Option.bind_some, hq.ld2 hin, Option.bind_some]
        have hc := cm_lt hf hg hin
        obtain ⟨a, ha, ea⟩ := hf i hin
        obtain ⟨b, hb, eb⟩ := hg i hin
        by_cases hl : ar (p + 2) i < ar (q + 2) i
        · rw [if_pos (hc.mpr hl), if_neg]
          rw [ea, eb, nI_ltI (by omega) (by omega)] at hl
          rw [ea, eb, nI_leI (by omega) (by omega)]
          omega
        · rw [if_neg (fun z => hl (hc.mp z)), if_pos]
          rw [ea, eb, nI_ltI (by omega) (by omega)] at hl
          rw [ea, eb, nI_leI (by omega) (by omega)]
          omega
    · rw [if_pos (by rw [nI_leI (by omega) (by omega)]; omega), show 10 - i = 0 by omega]; rfl
theorem pt_nar {p q : Nat} (hp : Pa_ p) (hq : Pa_ q) (hf : sm_ 11 (ar (p + 2)) 10) (hg : sm_ 11 (ar (q + 2)) 10) : m_X1_isNarrowerThan (wd_h vi ar pr hh) p q = some (if cm_ (ar (p + 2)) (ar (q + 2)) 10 0 < 0 then 1 else 0) := by
  rw [m_X1_isNarrowerThan, wd_ck hp.1 (by decide)]
  exact pt_nar_l hp hq hf hg 64 0 (by omega) (by omega)
theorem pt_rc {p pl many : Nat} (hp : Pa_ p) (hl : vi p 3 = nI pl) (h8 : pl ≤ 8) (hm : many ≤ 10) : b_X1_reach_58 (wd_h vi ar pr hh) p (nI many) = some (rc_ pl (vi p 4) many) := by
  have e87 : ∀ x : Int32, b_X1_reach_87 (wd_h vi ar pr hh) p (nI many) x = some (if many < pl ∨ (¬ vi p 4 = 0 ∧ many < 10) then x ||| 2 else x) := by
    intro x
    unfold b_X1_reach_87
    rw [gi_1_3 hp.1, hl, Option.bind_some, gi_1_4 hp.1, Option.bind_some]
    by_cases h1 : many < pl
    · rw [if_pos ((nI_ltI (by omega) (by omega)).mpr h1), if_pos (Or.inl h1)]
    · rw [if_neg (fun z => h1 ((nI_ltI (by omega) (by omega)).mp z))]
      by_cases h2 : vi p 4 = 0
      · rw [if_pos h2, if_neg (by rintro (z | z); exact h1 z; exact z.1 h2)]
      · rw [if_neg h2]
        by_cases h3 : many < 10
        · rw [if_neg (by show ¬ nI 10 ≤ nI many; rw [nI_leI (by omega) (by omega)]; omega), if_pos (Or.inr ⟨h2, h3⟩)]
        · rw [if_pos (by show nI 10 ≤ nI many; rw [nI_leI (by omega) (by omega)]; omega), if_neg (by rintro (z | z); exact h1 z; exact h3 z.2)]
  have eF : (many = pl ∨ (¬ vi p 4 = 0 ∧ pl < many)) → ∀ x : Int32, x = 0 ||| 1 → b_X1_reach_87 (wd_h vi ar pr hh) p (nI many) x = some (rc_ pl (vi p 4) many) := by
    intro hF x hx
    rw [e87, rc_, if_pos hF, hx]
    by_cases h3 : many < pl ∨ (¬ vi p 4 = 0 ∧ many < 10)
    · rw [if_pos h3, if_pos h3]; rfl
    · rw [if_neg h3, if_neg h3]; rfl
  have eN : ¬ (many = pl ∨ (¬ vi p 4 = 0 ∧ pl < many)) → b_X1_reach_87 (wd_h vi ar pr hh) p (nI many) 0 = some (rc_ pl (vi p 4) many) := by
    intro hF
    rw [e87, rc_, if_neg hF]
    by_cases h3 : many < pl ∨ (¬ vi p 4 = 0 ∧ many < 10)
    · rw [if_pos h3, if_pos h3]; rfl
    · rw [if_neg h3, if_neg h3]
  unfold b_X1_reach_58
  rw [gi_1_3 hp.1, hl, Option.bind_some, gi_1_4 hp.1, Option.bind_some, Option.bind_some]
  by_cases h1 : many = pl
  · rw [if_pos (by rw [h1]), eF (Or.inl h1) _ rfl]
  · rw [if_neg (by rw [nI_eq (by omega) (by omega)]; exact h1)]
    by_cases h2 : vi p 4 = 0
    · rw [if_pos h2, eN (by rintro (z | z); exact h1 z; exact z.1 h2)]
    · rw [if_neg h2]
      by_cases h4 : pl < many
      · rw [if_neg (by rw [nI_leI (by omega) (by omega)]; omega), eF (Or.inr ⟨h2, h4⟩) _ rfl]
      · rw [if_pos (by rw [nI_leI (by omega) (by omega)]; omega), eN (by rintro (z | z); exact h1 z; exact h4 z.2)]
theorem pt_reach_l {p k n pl many : Nat} (hp : Pa_ p) (hk : Rw_ vi k 10 n) (hd : sm_ 9 (ar (k + 1)) n) (hl : vi p 3 = nI pl) (h8 : pl ≤ 8) (hm : many ≤ n) : ∀ (f i : Nat), i ≤ many → i ≤ pl → 10 < f + i → m_X1_reach_2 (wd_h vi ar pr hh) f p k (nI many) (nI i) = some (if be_ (ar (p + 1)) (ar (k + 1)) (min many pl - i) i = true then rc_ pl (vi p 4) many else 0) := by
  have hn := hk.2.2.2.2
  intro f
  induction f with
  | zero => intro i h1 h2 h3; omega
  | succ f ih =>
    intro i h1 h2 h3
    show b_X1_reach_2 (wd_h vi ar pr hh) (m_X1_reach_2 (wd_h vi ar pr hh) f) p k (nI many) (nI i) = _
    unfold b_X1_reach_2
    rw [pt_rc hp hl h8 (by omega), gi_1_3 hp.1, hl, Option.bind_some]
    by_cases ha : i < many
    · rw [if_neg (by rw [nI_leI (by omega) (by omega)]; omega)]
      by_cases hb : i < pl
      · rw [if_neg (by rw [nI_leI (by omega) (by omega)]; omega), gr_1_0 hp.1, Option.bind_some, hp.ln1, Option.bind_some, if_neg (by rw [nI_leI (by omega) (by omega)]; omega), ro_at hk (by omega), if_pos (by omega), Option.bind_some]
        obtain ⟨d, hd9, ed⟩ := hd i (by omega)
        rw [if_neg (by rw [ed]; exact nI_pos (by omega)), Option.bind_some, hp.ld1 (by omega), Option.bind_some, show min many pl - i = (min many pl - (i + 1)) + 1 by omega, be_]
        by_cases hz : ((ar (p + 1) i >>> (ar (k + 1) i &&& 31)) &&& 1) = 0
        · rw [if_pos hz, if_pos hz]; rfl
        · rw [if_neg hz, if_neg hz, nI_1, ih (i + 1) (by omega) (by omega) (by omega)]
      · rw [if_pos (by rw [nI_leI (by omega) (by omega)]; omega), show min many pl - i = 0 by omega]; rfl
    · rw [if_pos (by rw [nI_leI (by omega) (by omega)]; omega), show min many pl - i = 0 by omega]; rfl
theorem pt_reach {p k n pl many : Nat} (hp : Pa_ p) (hk : Rw_ vi k 10 n) (hd : sm_ 9 (ar (k + 1)) n) (hl : vi p 3 = nI pl) (h8 : pl ≤ 8) (hm : many ≤ n) : m_X1_reach (wd_h vi ar pr hh) p k (nI many) = some (if be_ (ar (p + 1)) (ar (k + 1)) (min many pl) 0 = true then rc_ pl (vi p 4) many else 0) := by
  rw [m_X1_reach, wd_ck hp.1 (by decide)]
  exact pt_reach_l hp hk hd hl h8 hm 64 0 (by omega) (by omega) (by omega)
theorem pt_like {p q n nq : Nat} (hp : Pa_ p) (hq : Pa_ q) (hn : vi (p + 3) 1 = nI n) (h4 : n ≤ 4) (hnq : vi (q + 3) 1 = nI nq) (h4q : nq ≤ 4) : m_X1_doesLike (wd_h vi ar pr hh) p q = some (if vi p 5 = vi q 5 ∧ vi p 6 = vi q 6 ∧ n = nq ∧ lk_ (ar (p + 4)) (ar (q + 4)) n 0 = true then 1 else 0) := by
  rw [m_X1_doesLike, wd_ck hp.1 (by decide), gi_1_5 hp.1, Option.bind_some, gi_1_5 hq.1, Option.bind_some]
  by_cases h1 : vi p 5 = vi q 5
  · rw [if_pos h1, gi_1_6 hp.1, Option.bind_some, gi_1_6 hq.1, Option.bind_some]
    by_cases h2 : vi p 6 = vi q 6
    · rw [if_pos h2, gr_1_2 hp.1, Option.bind_some, gr_1_2 hq.1, Option.bind_some, ro_like (hp.row hn h4) (hq.row hnq h4q) (by decide) (by decide), Option.bind_some]
      by_cases h3 : n = nq ∧ lk_ (ar (p + 3 + 1)) (ar (q + 3 + 1)) n 0 = true
      · rw [if_pos h3, if_neg (by decide), if_pos ⟨h1, h2, h3⟩]
      · rw [if_neg h3, if_pos rfl, if_neg (fun z => h3 z.2.2)]
    · rw [if_neg h2, if_neg (fun z => h2 z.2.1)]
  · rw [if_neg h1, if_neg (fun z => h1 z.1)]
theorem pt_share_l {p q pl : Nat} (hp : Pa_ p) (hq : Pa_ q) (hl : vi p 3 = nI pl) (h8 : pl ≤ 8) : ∀ (f i : Nat), i ≤ pl → 10 < f + i → m_X1_sharesRowWith_2 (wd_h vi ar pr hh) f p q (nI i) = some (if sh_ (ar (p + 1)) (ar (q + 1)) (pl - i) i = true then 1 else 0) := by
  intro f
  induction f with
  | zero => intro i h1 h2; omega
  | succ f ih =>
    intro i h1 h2
    show b_X1_sharesRowWith_2 (wd_h vi ar pr hh) (m_X1_sharesRowWith_2 (wd_h vi ar pr hh) f) p q (nI i) = _
    unfold b_X1_sharesRowWith_2
    rw [gi_1_3 hp.1, hl, Option.bind_some]
    by_cases hin : i < pl
    · rw [if_neg (by rw [nI_leI (by omega) (by omega)]; omega), pt_dig hp (by omega), Option.bind_some, pt_dig hq (by omega), Option.bind_some, show pl - i = (pl - (i + 1)) + 1 by omega, sh_]
      by_cases he : (ar (p + 1) i &&& ar (q + 1) i) = 0
      · rw [if_pos he, if_pos he]; rfl
      · rw [if_neg he, if_neg he, nI_1, ih (i + 1) (by omega) (by omega)]
    · rw [if_pos (by rw [nI_leI (by omega) (by omega)]; omega), show pl - i = 0 by omega]; rfl
theorem pt_share {p q pl : Nat} (hp : Pa_ p) (hq : Pa_ q) (hl : vi p 3 = nI pl) (h8 : pl ≤ 8) : m_X1_sharesRowWith (wd_h vi ar pr hh) p q = some (if sh_ (ar (p + 1)) (ar (q + 1)) pl 0 = true then 1 else 0) := by
  rw [m_X1_sharesRowWith, wd_ck hp.1 (by decide)]
  exact pt_share_l hp hq hl h8 64 0 (by omega) (by omega)
theorem cm_sym {f g : Nat → Int32} (hf : sm_ 11 f 10) (hg : sm_ 11 g 10) : ∀ (n i : Nat), n + i ≤ 10 → ((¬ cm_ f g n i < 0 ∧ ¬ cm_ g f n i < 0) ↔ cm_ f g n i = 0)
  | 0, _, _ => by simp [cm_]
  | n + 1, i, h => by
    unfold cm_
    by_cases he : f i = g i
    · rw [if_pos he, if_pos he.symm]
      exact cm_sym hf hg n (i + 1) (by omega)
    · rw [if_neg he, if_neg (Ne.symm he), cm_lt hf hg (by omega), cm_lt hg hf (by omega)]
      obtain ⟨a, ha, ea⟩ := hf i (by omega)
      obtain ⟨b, hb, eb⟩ := hg i (by omega)
      have hab : a ≠ b := fun z => he (by rw [ea, eb, z])
      rw [ea, eb, nI_ltI (by omega) (by omega), nI_ltI (by omega) (by omega)]
      refine ⟨fun z => absurd z (by omega), fun z => ?_⟩
      rcases Nat.lt_or_ge a b with q | q
      · have := pk_sneg (a := a) (b := b) (by omega) q
        rw [z] at this
        exact absurd this (by decide)
      · rw [pk_sub q, show (0 : Int32) = nI 0 from rfl, nI_eq (by omega) (by omega)] at z
        omega
/-- two patterns clash, as the class has it -/
def cf_ (vi ar : Nat → Nat → Int32) (p q pl n nq : Nat) : Prop := cm_ (ar (p + 2)) (ar (q + 2)) 10 0 = 0 ∧ sh_ (ar (p + 1)) (ar (q + 1)) pl 0 = true ∧ ¬ (vi p 5 = vi q 5 ∧ vi p 6 = vi q 6 ∧ n = nq ∧ lk_ (ar (p + 4)) (ar (q + 4)) n 0 = true)
theorem pt_clash {p q pl n nq : Nat} (hp : Pa_ p) (hq : Pa_ q) (hf : sm_ 11 (ar (p + 2)) 10) (hg : sm_ 11 (ar (q + 2)) 10) (hl : vi p 3 = nI pl) (h8 : pl ≤ 8) (hn : vi (p + 3) 1 = nI n) (h4 : n ≤ 4) (hnq : vi (q + 3) 1 = nI nq) (h4q : nq ≤ 4) :
    (cf_ vi ar p q pl n nq ∧ m_X1_clashesWith (wd_h vi ar pr hh) p q = some 1) ∨ (¬ cf_ vi ar p q pl n nq ∧ m_X1_clashesWith (wd_h vi ar pr hh) p q = some 0) := by
  have hs := cm_sym hf hg 10 0 (by omega)
  rw [m_X1_clashesWith, wd_ck hp.1 (by decide), pt_nar hp hq hf hg, Option.bind_some, pt_nar hq hp hg hf, pt_share hp hq hl h8, pt_like hp hq hn h4 hnq h4q]
  unfold cf_
  by_cases h1 : cm_ (ar (p + 2)) (ar (q + 2)) 10 0 < 0
  · right
    rw [if_pos h1, if_neg (by decide)]
    exact ⟨fun z => (hs.mpr z.1).1 h1, rfl⟩
  · rw [if_neg h1, if_pos rfl, Option.bind_some]
    by_cases h2 : cm_ (ar (q + 2)) (ar (p + 2)) 10 0 < 0
    · right
      rw [if_pos h2, if_neg (by decide)]
      exact ⟨fun z => (hs.mpr z.1).2 h2, rfl⟩
    · rw [if_neg h2, if_pos rfl, Option.bind_some]
      by_cases h3 : sh_ (ar (p + 1)) (ar (q + 1)) pl 0 = true
      · rw [if_pos h3, if_neg (by decide), Option.bind_some]
        by_cases h5 : vi p 5 = vi q 5 ∧ vi p 6 = vi q 6 ∧ n = nq ∧ lk_ (ar (p + 4)) (ar (q + 4)) n 0 = true
        · right
          rw [if_pos h5, if_neg (by decide)]
          exact ⟨fun z => z.2.2 h5, rfl⟩
        · left
          rw [if_neg h5, if_pos rfl]
          exact ⟨⟨hs.mp ⟨h1, h2⟩, h3, h5⟩, rfl⟩
      · right
        rw [if_neg h3, if_pos rfl]
        exact ⟨fun z => h3 z.2.1, rfl⟩
end PT
