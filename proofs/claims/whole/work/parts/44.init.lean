/-! the constructors -/
def vi0 : Nat → Nat → Int32 := fun a b => if a = 63 ∧ b = 2 then -1 else 0
def ar0 : Nat → Nat → Int32 := fun a => if a = 71 ∨ a = 81 then upd (upd (upd (fun _ => 0) 0 15) 1 8) 2 4 else fun _ => 0
def pr0 : Nat → Nat := fun i => 11 + 5 * (i % 10)
section IN
variable {h l : dp_H} {i j c : Nat} {f : List dp_V}
theorem ge_ : (h ++ l)[h.length + i]? = l[i]? := by
  rw [List.getElem?_append_right (by omega)]
  congr 1
  omega
theorem se_ {x : dp_C} : (h ++ l).set (h.length + i) x = h ++ l.set i x := by
  rw [List.set_append_right _ _ (by omega)]
  congr 2
  omega
theorem ck_ {β : Type} {o : Option β} (hl : l[i]? = some (.inl (c, f))) : dp_ck (h ++ l) (h.length + i) c o = o := by
  unfold dp_ck dp_is
  rw [ge_, hl]
  simp
theorem pp_ {v : dp_V} (hl : l[i]? = some (.inl (c, f))) (hj : j < f.length) : dp_p (h ++ l) (h.length + i) c j v = some (h ++ l.set i (.inl (c, f.set j v))) := by
  unfold dp_p
  rw [ge_, hl]
  simp only []
  rw [if_pos ⟨trivial, hj⟩, se_]
theorem na_ {z : Bool} {n : Int32} {k : Nat} (hn : n = nI k) (hk : k ≤ 80) : dp_na z (h ++ l) n = some (h ++ (l ++ [.inr (.inl (z, k, fun _ => 0))])) := by
  subst hn
  unfold dp_na
  rw [nI_clamp (by omega), if_neg (fun q => q.elim (nI_pos (by omega)) (by omega)), List.append_assoc]
theorem nr_ : dp_nr (h ++ l) 10 = some (h ++ (l ++ [.inr (.inr (10, fun _ => none))])) := by
  unfold dp_nr
  rw [show (10 : Int32).toNatClampNeg = 10 from rfl, if_neg (by decide), List.append_assoc]
theorem nw_ {b : List dp_V} : dp_nw (h ++ l) c b = some (h ++ (l ++ [.inl (c, b)])) := by
  unfold dp_nw
  rw [List.append_assoc]
theorem si_ {k q : Nat} {g : Nat → Int32} {x y : Int32} (hl : l[i]? = some (.inr (.inl (false, k, g)))) (hx : x = nI q) (hq : q < k) (hk : k ≤ 80) : dp_si false (h ++ l) (h.length + i) x y = some (h ++ l.set i (.inr (.inl (false, k, upd g q y)))) := by
  subst hx
  unfold dp_si
  rw [ge_, hl]
  simp only []
  rw [if_pos ⟨trivial, by rw [nI_clamp (by omega)]; exact fun z => z.elim (nI_pos (by omega)) (by omega)⟩, nI_clamp (by omega), se_]
abbrev A_ (k : Nat) : dp_C := .inr (.inl (false, k, fun _ => 0))
abbrev R_ (k : Nat) : dp_V := .inr (.inr (some k))
theorem up_e {F : dp_H → Nat → Option dp_H} {x : dp_C} {r : Nat → dp_H} (hb : ∀ h : dp_H, F (h ++ [x]) (h.length + 0) = some (h ++ r h.length)) (hL : l = l.dropLast ++ [x]) (hi : i = l.dropLast.length) : F (h ++ l) (h.length + i) = some (h ++ (l.dropLast ++ r (h.length + i))) := by
  have e := hb (h ++ l.dropLast)
  rw [List.append_assoc, ← hL, Nat.add_zero, List.length_append, ← hi, List.append_assoc] at e
  exact e
abbrev L5_ (k b : Nat) : dp_H := [.inl (5, [R_ (b + 1), .inl 0]), A_ k]
theorem in5_ {n : Int32} {k : Nat} (hn : n = nI k) (hk : k ≤ 80) (h : dp_H) : m_X5_init (h ++ [.inl (5, bl_X5)]) (h.length + 0) n = some (h ++ L5_ k h.length) := by
  subst hn
  have e1 : (if nI k < 0 then (0 : Int32) else nI k) = nI k := if_neg (nI_pos (by omega))
  rw [m_X5_init, e1, ck_ rfl, na_ rfl hk, Option.bind_some, pp_ (f := bl_X5) rfl (by decide), Option.bind_some, List.length_append]
  rfl
theorem in5 {n : Int32} {k : Nat} (hL : l = l.dropLast ++ [.inl (5, bl_X5)]) (hi : i = l.dropLast.length) (hn : n = nI k) (hk : k ≤ 80) : m_X5_init (h ++ l) (h.length + i) n = some (h ++ (l.dropLast ++ L5_ k (h.length + i))) := up_e (F := fun h i => m_X5_init h i n) (r := L5_ k) (in5_ hn hk) hL hi
abbrev L1_ (b : Nat) : dp_H := [.inl (1, [R_ (b + 1), R_ (b + 2), R_ (b + 3), .inl 0, .inl 0, .inl 0, .inl 0]), A_ 10, A_ 10, .inl (5, [R_ (b + 3 + 1), .inl 0]), A_ 4]
theorem in1_ (h : dp_H) : m_X1_init (h ++ [.inl (1, bl_X1)]) (h.length + 0) = some (h ++ L1_ h.length) := by
  rw [m_X1_init, ck_ rfl, na_ (n := 10) (k := 10) rfl (by decide), Option.bind_some, pp_ (f := bl_X1) rfl (by decide), Option.bind_some, na_ (n := 10) (k := 10) rfl (by decide), Option.bind_some, pp_ rfl (Nat.le_of_ble_eq_true rfl), Option.bind_some, nw_, Option.bind_some]
  simp only [List.length_append, List.length_cons, List.length_nil, List.length_set, List.set_cons_zero, List.set_cons_succ, List.cons_append, List.nil_append, Nat.reduceAdd, bl_X1]
  rw [in5 (n := 4) (k := 4) ?_ ?_ rfl (by decide), Option.bind_some, pp_ rfl (Nat.le_of_ble_eq_true rfl), Option.bind_some]
  all_goals rfl
theorem in1 (hL : l = l.dropLast ++ [.inl (1, bl_X1)]) (hi : i = l.dropLast.length) : m_X1_init (h ++ l) (h.length + i) = some (h ++ (l.dropLast ++ L1_ (h.length + i))) := up_e (F := fun h i => m_X1_init h i) (r := L1_) in1_ hL hi
abbrev L2_ (b : Nat) : dp_H := .inl (2, [R_ (b + 1), .inl 0, .inl 0, .inl 0]) :: L1_ (b + 1)
theorem in2_ (h : dp_H) : m_X2_init (h ++ [.inl (2, bl_X2)]) (h.length + 0) = some (h ++ L2_ h.length) := by
  rw [m_X2_init, ck_ rfl, nw_, Option.bind_some]
  simp only [List.length_append, List.length_cons, List.length_nil, List.length_set, List.set_cons_zero, List.set_cons_succ, List.cons_append, List.nil_append, Nat.reduceAdd, bl_X2]
  rw [in1 ?_ ?_, Option.bind_some, pp_ rfl (Nat.le_of_ble_eq_true rfl), Option.bind_some]
  all_goals rfl
theorem in2 (hL : l = l.dropLast ++ [.inl (2, bl_X2)]) (hi : i = l.dropLast.length) : m_X2_init (h ++ l) (h.length + i) = some (h ++ (l.dropLast ++ L2_ (h.length + i))) := up_e (F := fun h i => m_X2_init h i) (r := L2_) in2_ hL hi
abbrev L4_ (b : Nat) : dp_H := .inl (4, [R_ (b + 1), R_ (b + 3), .inl (-1), .inl 0]) :: (L5_ 10 (b + 1) ++ L5_ 10 (b + 3))
theorem in4_ (h : dp_H) : m_X4_init (h ++ [.inl (4, bl_X4)]) (h.length + 0) = some (h ++ L4_ h.length) := by
  rw [m_X4_init, ck_ rfl, nw_, Option.bind_some]
  simp only [List.length_append, List.length_cons, List.length_nil, List.length_set, List.set_cons_zero, List.set_cons_succ, List.cons_append, List.nil_append, Nat.reduceAdd, bl_X4]
  rw [in5 (n := 10) (k := 10) ?_ ?_ rfl (by decide), Option.bind_some, pp_ rfl (Nat.le_of_ble_eq_true rfl), Option.bind_some, nw_, Option.bind_some]
  simp only [List.dropLast, List.length_append, List.length_cons, List.length_nil, List.length_set, List.set_cons_zero, List.set_cons_succ, List.cons_append, List.nil_append, Nat.reduceAdd]
  rw [in5 (n := 10) (k := 10) ?_ ?_ rfl (by decide), Option.bind_some, pp_ rfl (Nat.le_of_ble_eq_true rfl), Option.bind_some, pp_ rfl (Nat.le_of_ble_eq_true rfl), Option.bind_some]
  all_goals rfl
theorem in4 (hL : l = l.dropLast ++ [.inl (4, bl_X4)]) (hi : i = l.dropLast.length) : m_X4_init (h ++ l) (h.length + i) = some (h ++ (l.dropLast ++ L4_ (h.length + i))) := up_e (F := fun h i => m_X4_init h i) (r := L4_) in4_ hL hi
abbrev L0_ (b : Nat) : dp_H := .inl (0, [R_ (b + 1), R_ (b + 3), .inl 0, .inl 0, .inl 0, .inl 0, .inl 0, .inl 0, .inl 0]) :: (L5_ 10 (b + 1) ++ [.inr (.inl (false, 3, upd (upd (upd (fun _ => 0) 0 15) 1 8) 2 4))])
theorem in0_ (h : dp_H) : m_X0_init (h ++ [.inl (0, bl_X0)]) (h.length + 0) = some (h ++ L0_ h.length) := by
  rw [m_X0_init, ck_ rfl, nw_, Option.bind_some]
  simp only [List.length_append, List.length_cons, List.length_nil, List.length_set, List.set_cons_zero, List.set_cons_succ, List.cons_append, List.nil_append, Nat.reduceAdd, bl_X0]
  rw [in5 (n := 10) (k := 10) ?_ ?_ rfl (by decide), Option.bind_some, pp_ rfl (Nat.le_of_ble_eq_true rfl), Option.bind_some, na_ (n := 3) (k := 3) rfl (by decide), Option.bind_some]
  simp only [List.dropLast, List.length_append, List.length_cons, List.length_nil, List.length_set, List.set_cons_zero, List.set_cons_succ, List.cons_append, List.nil_append, Nat.reduceAdd]
  rw [si_ (x := 0) (q := 0) rfl rfl (by decide) (by decide), Option.bind_some, si_ (x := 1) (q := 1) rfl rfl (by decide) (by decide), Option.bind_some, si_ (x := 2) (q := 2) rfl rfl (by decide) (by decide), Option.bind_some, pp_ rfl (Nat.le_of_ble_eq_true rfl), Option.bind_some, pp_ rfl (Nat.le_of_ble_eq_true rfl), Option.bind_some, pp_ rfl (Nat.le_of_ble_eq_true rfl), Option.bind_some]
  all_goals rfl
theorem in0 (hL : l = l.dropLast ++ [.inl (0, bl_X0)]) (hi : i = l.dropLast.length) : m_X0_init (h ++ l) (h.length + i) = some (h ++ (l.dropLast ++ L0_ (h.length + i))) := up_e (F := fun h i => m_X0_init h i) (r := L0_) in0_ hL hi
def Q_ : Nat → Nat → dp_H
  | 0, _ => []
  | r + 1, b => L1_ b ++ Q_ r (b + 5)
theorem Q_len : ∀ r b, (Q_ r b).length = 5 * r
  | 0, _ => rfl
  | r + 1, b => by
    unfold Q_
    rw [List.length_append, Q_len r (b + 5)]
    show 5 + 5 * r = 5 * (r + 1)
    omega
theorem in3_l (h : dp_H) {o : List dp_V} (ho : o[0]? = some (R_ (h.length + 1))) : ∀ (r k f : Nat) (g : Nat → Option Nat) (P : dp_H), k + r = 10 → r < f → P.length = 5 * k → ∃ g', m_X3_init_15 f (h ++ (.inl (3, o) :: .inr (.inr (10, g)) :: P)) h.length (nI k) = some (h ++ (.inl (3, o) :: .inr (.inr (10, g')) :: (P ++ Q_ r (h.length + 2 + 5 * k)))) ∧ ∀ q, g' q = if k ≤ q ∧ q < 10 then some (h.length + 2 + 5 * q) else g q := by
  intro r
  induction r with
  | zero =>
    intro k f g P hk hf hP
    obtain ⟨f, rfl⟩ : ∃ g, f = g + 1 := ⟨f - 1, by omega⟩
    refine ⟨g, ?_, fun q => by rw [if_neg (by omega)]⟩
    have e0 : (h ++ (.inl (3, o) :: .inr (.inr (10, g)) :: P))[h.length]? = some (.inl (3, o)) := by
      have := ge_ (h := h) (l := (.inl (3, o) :: .inr (.inr (10, g)) :: P)) (i := 0)
      rw [Nat.add_zero] at this
      rw [this]; rfl
    have e1 : (h ++ (.inl (3, o) :: .inr (.inr (10, g)) :: P))[h.length + 1]? = some (.inr (.inr (10, g))) := ge_ (i := 1)
    show b_X3_init_15 _ _ _ _ = _
    unfold b_X3_init_15
    have eg : dp_gr (h ++ (.inl (3, o) :: .inr (.inr (10, g)) :: P)) h.length 3 0 = some (h.length + 1) := by
      unfold dp_gr dp_g
      rw [e0]
      simp [ho]
    have el : dp_ln (h ++ (.inl (3, o) :: .inr (.inr (10, g)) :: P)) (h.length + 1) = some (nI 10) := by
      unfold dp_ln
      rw [e1]
      rfl
    rw [eg, Option.bind_some, el, Option.bind_some, if_pos (nI_le (by omega) (by omega))]
    unfold Q_
    rw [List.append_nil]
  | succ r ih =>
    intro k f g P hk hf hP
    obtain ⟨f, rfl⟩ : ∃ g, f = g + 1 := ⟨f - 1, by omega⟩
    have e0 : ∀ {g : Nat → Option Nat} {P : dp_H}, (h ++ (.inl (3, o) :: .inr (.inr (10, g)) :: P))[h.length]? = some (.inl (3, o)) := fun {g P} => by
      have := ge_ (h := h) (l := (.inl (3, o) :: .inr (.inr (10, g)) :: P)) (i := 0)
      rw [Nat.add_zero] at this
      rw [this]; rfl
    have e1 : ∀ {P : dp_H}, (h ++ (.inl (3, o) :: .inr (.inr (10, g)) :: P))[h.length + 1]? = some (.inr (.inr (10, g))) := ge_ (i := 1)
    have eg : dp_gr (h ++ (.inl (3, o) :: .inr (.inr (10, g)) :: P)) h.length 3 0 = some (h.length + 1) := by
      unfold dp_gr dp_g
      rw [e0]
      simp [ho]
    have el : dp_ln (h ++ (.inl (3, o) :: .inr (.inr (10, g)) :: P)) (h.length + 1) = some (nI 10) := by
      unfold dp_ln
      rw [e1]
      rfl
    have elen : List.length (h ++ (.inl (3, o) :: .inr (.inr (10, g)) :: P)) = h.length + 2 + 5 * k := by
      rw [List.length_append, List.length_cons, List.length_cons, hP]
      omega
    have en : dp_nw (h ++ (.inl (3, o) :: .inr (.inr (10, g)) :: P)) 1 bl_X1 = some ((h ++ (.inl (3, o) :: .inr (.inr (10, g)) :: P)) ++ [.inl (1, bl_X1)]) := rfl
    have ei : m_X1_init ((h ++ (.inl (3, o) :: .inr (.inr (10, g)) :: P)) ++ [.inl (1, bl_X1)]) (h.length + 2 + 5 * k) = some (h ++ (.inl (3, o) :: .inr (.inr (10, g)) :: (P ++ L1_ (h.length + 2 + 5 * k)))) := by
      have := in1_ (h ++ (.inl (3, o) :: .inr (.inr (10, g)) :: P))
      rw [Nat.add_zero, elen] at this
      rw [this, List.append_assoc]
      rfl
    have es : dp_sr (h ++ (.inl (3, o) :: .inr (.inr (10, g)) :: (P ++ L1_ (h.length + 2 + 5 * k)))) (h.length + 1) (nI k) (h.length + 2 + 5 * k) = some (h ++ (.inl (3, o) :: .inr (.inr (10, va_up g k (some (h.length + 2 + 5 * k)))) :: (P ++ L1_ (h.length + 2 + 5 * k)))) := by
      have ec : (h ++ (.inl (3, o) :: .inr (.inr (10, g)) :: (P ++ L1_ (h.length + 2 + 5 * k))))[h.length + 2 + 5 * k]? = some (.inl (1, [R_ (h.length + 2 + 5 * k + 1), R_ (h.length + 2 + 5 * k + 2), R_ (h.length + 2 + 5 * k + 3), .inl 0, .inl 0, .inl 0, .inl 0])) := by
        have z := ge_ (h := (h ++ (.inl (3, o) :: .inr (.inr (10, g)) :: P))) (l := L1_ (h.length + 2 + 5 * k)) (i := 0)
        rw [elen, List.append_assoc, Nat.add_zero] at z
        exact z
      unfold dp_sr
      rw [e1]
      simp only []
      rw [if_pos ⟨by rw [nI_clamp (by omega)]; exact fun z => z.elim (nI_pos (by omega)) (by omega), by unfold dp_is; rw [ec]; rfl⟩, nI_clamp (by omega), se_]
      rfl
    obtain ⟨g', i1, i2⟩ := ih (k + 1) f (va_up g k (some (h.length + 2 + 5 * k))) (P ++ L1_ (h.length + 2 + 5 * k)) (by omega) (by omega) (by rw [List.length_append, hP]; show 5 * k + 5 = _; omega)
    refine ⟨g', ?_, fun q => ?_⟩
    · have hb : m_X3_init_15 (f + 1) (h ++ (.inl (3, o) :: .inr (.inr (10, g)) :: P)) h.length (nI k) = m_X3_init_15 f (h ++ (.inl (3, o) :: .inr (.inr (10, va_up g k (some (h.length + 2 + 5 * k)))) :: (P ++ L1_ (h.length + 2 + 5 * k)))) h.length (nI (k + 1)) := by
        show b_X3_init_15 _ _ _ _ = _
        unfold b_X3_init_15
        rw [eg, Option.bind_some, el, Option.bind_some, if_neg (nI_ge (by omega) (by omega)), Option.bind_some, en, Option.bind_some, elen, ei, Option.bind_some, es, Option.bind_some, nI_1]
      rw [hb, i1, show h.length + 2 + 5 * (k + 1) = h.length + 2 + 5 * k + 5 by omega]
      rw [List.append_assoc]
      rfl
    · rw [i2 q]
      unfold va_up
      by_cases e : q = k
      · rw [if_neg (by omega), if_pos e, if_pos (by omega), e]
      · by_cases e2 : k + 1 ≤ q ∧ q < 10
        · rw [if_pos e2, if_pos (by omega)]
        · rw [if_neg e2, if_neg e, if_neg (by omega)]
abbrev L3_ (b : Nat) : dp_H := .inl (3, [R_ (b + 1), .inl 0]) :: .inr (.inr (10, fun q => if q < 10 then some (b + 2 + 5 * q) else none)) :: Q_ 10 (b + 2)
theorem in3_ (h : dp_H) : m_X3_init (h ++ [.inl (3, bl_X3)]) (h.length + 0) = some (h ++ L3_ h.length) := by
  rw [m_X3_init, ck_ rfl, nr_, Option.bind_some, pp_ (f := bl_X3) rfl (by decide), Option.bind_some]
  simp only [List.length_append, List.length_cons, List.length_nil, List.length_set, List.set_cons_zero, List.set_cons_succ, List.cons_append, List.nil_append, Nat.reduceAdd, bl_X3, Nat.add_zero]
  obtain ⟨g', e1, e2⟩ := in3_l h (o := [R_ (h.length + 1), .inl 0]) rfl 10 0 64 (fun _ => none) [] (by omega) (by omega) rfl
  have eg : g' = fun q => if q < 10 then some (h.length + 2 + 5 * q) else none := funext fun q => by
    rw [e2 q]
    by_cases e : q < 10
    · rw [if_pos ⟨by omega, e⟩, if_pos e]
    · rw [if_neg (fun z => e z.2), if_neg e]
  rw [eg] at e1
  exact e1
theorem up_x {F : dp_H → Nat → Option dp_H} {x : dp_C} {r : Nat → dp_H} (hb : ∀ h : dp_H, F (h ++ [x]) (h.length + 0) = some (h ++ r h.length)) : F (h ++ (l ++ [x])) (h.length + l.length) = some (h ++ (l ++ r (h.length + l.length))) := by
  have e := hb (h ++ l)
  rw [List.append_assoc, Nat.add_zero, List.length_append, List.append_assoc] at e
  exact e
theorem in5x {n : Int32} {k : Nat} (hn : n = nI k) (hk : k ≤ 80) : m_X5_init (h ++ (l ++ [.inl (5, bl_X5)])) (h.length + l.length) n = some (h ++ (l ++ L5_ k (h.length + l.length))) := up_x (F := fun h i => m_X5_init h i n) (r := L5_ k) (in5_ hn hk)
theorem in2x : m_X2_init (h ++ (l ++ [.inl (2, bl_X2)])) (h.length + l.length) = some (h ++ (l ++ L2_ (h.length + l.length))) := up_x (F := fun h i => m_X2_init h i) (r := L2_) in2_
theorem in3x : m_X3_init (h ++ (l ++ [.inl (3, bl_X3)])) (h.length + l.length) = some (h ++ (l ++ L3_ (h.length + l.length))) := up_x (F := fun h i => m_X3_init h i) (r := L3_) in3_
theorem in4x : m_X4_init (h ++ (l ++ [.inl (4, bl_X4)])) (h.length + l.length) = some (h ++ (l ++ L4_ (h.length + l.length))) := up_x (F := fun h i => m_X4_init h i) (r := L4_) in4_
theorem in0x : m_X0_init (h ++ (l ++ [.inl (0, bl_X0)])) (h.length + l.length) = some (h ++ (l ++ L0_ (h.length + l.length))) := up_x (F := fun h i => m_X0_init h i) (r := L0_) in0_
abbrev L6_ (b : Nat) : dp_H := .inl (6, [R_ (b + 1), R_ (b + 3), R_ (b + 9), R_ (b + 61), R_ (b + 63), R_ (b + 68)]) :: (L5_ 52 (b + 1) ++ (L2_ (b + 3) ++ (L3_ (b + 9) ++ (L5_ 10 (b + 61) ++ (L4_ (b + 63) ++ L0_ (b + 68))))))
theorem in6_ (h : dp_H) : m_X6_init (h ++ [.inl (6, bl_X6)]) (h.length + 0) = some (h ++ L6_ h.length) := by
  rw [m_X6_init, ck_ rfl, nw_, Option.bind_some, List.length_append, in5x (n := 52) (k := 52) rfl (by decide), Option.bind_some, pp_ (f := bl_X6) rfl (by decide), Option.bind_some, nw_, Option.bind_some, List.length_append, in2x, Option.bind_some, pp_ rfl (Nat.le_of_ble_eq_true rfl), Option.bind_some, nw_, Option.bind_some, List.length_append, in3x, Option.bind_some, pp_ rfl (Nat.le_of_ble_eq_true rfl), Option.bind_some, nw_, Option.bind_some, List.length_append, in5x (n := 10) (k := 10) rfl (by decide), Option.bind_some, pp_ rfl (Nat.le_of_ble_eq_true rfl), Option.bind_some, nw_, Option.bind_some, List.length_append, in4x, Option.bind_some, pp_ rfl (Nat.le_of_ble_eq_true rfl), Option.bind_some, nw_, Option.bind_some, List.length_append, in0x, Option.bind_some, pp_ rfl (Nat.le_of_ble_eq_true rfl), Option.bind_some]
  rfl
theorem grx {v : Nat} (hl : l[i]? = some (.inl (c, f))) (hf : f[j]? = some (R_ v)) : dp_gr (h ++ l) (h.length + i) c j = some v := by
  unfold dp_gr dp_g
  rw [ge_, hl]
  simp [hf]
abbrev L7_ (b : Nat) : dp_H := [.inl (7, [.inl 0, R_ (b + 1), .inl 0, R_ (b + 2), R_ (b + 3), R_ (b + 4), R_ (b + 5), R_ (b + 6), R_ (b + 7), R_ (b + 8), R_ (b + 9), .inl 0, .inl 0, .inl 0, .inl 0, .inl 0, .inl 0, .inl 0, R_ (b + 10), .inl 0, .inl 0, .inl 0, .inl 0, R_ (b + 11), .inl 0, R_ (b + 12), .inl 0, .inl 0, .inl 0, R_ (b + 13), .inl 0, .inl 0, .inr (.inl 0)]), A_ 52, A_ 10, .inr (.inl (true, 10, fun _ => 0)), A_ 80, A_ 10, A_ 10, A_ 10, A_ 40, .inr (.inl (false, 3, upd (upd (upd (fun _ => 0) 0 15) 1 8) 2 4)), A_ 8, A_ 4, A_ 14, A_ 10]
theorem in7_ (h : dp_H) : m_X7_init (h ++ [.inl (7, bl_X7)]) (h.length + 0) = some (h ++ L7_ h.length) := by
  rw [m_X7_init, ck_ rfl]
  rw [na_ (n := 52) (k := 52) rfl (by decide), Option.bind_some, pp_ rfl (Nat.le_of_ble_eq_true rfl), Option.bind_some]
  simp only [List.length_append, List.length_cons, List.length_nil, List.length_set, List.set_cons_zero, List.set_cons_succ, List.cons_append, List.nil_append, Nat.reduceAdd, bl_X7]
  rw [na_ (n := 10) (k := 10) rfl (by decide), Option.bind_some, pp_ rfl (Nat.le_of_ble_eq_true rfl), Option.bind_some]
  simp only [List.length_append, List.length_cons, List.length_nil, List.length_set, List.set_cons_zero, List.set_cons_succ, List.cons_append, List.nil_append, Nat.reduceAdd, bl_X7]
  rw [na_ (n := 10) (k := 10) rfl (by decide), Option.bind_some, pp_ rfl (Nat.le_of_ble_eq_true rfl), Option.bind_some]
  simp only [List.length_append, List.length_cons, List.length_nil, List.length_set, List.set_cons_zero, List.set_cons_succ, List.cons_append, List.nil_append, Nat.reduceAdd, bl_X7]
  rw [na_ (n := 80) (k := 80) rfl (by decide), Option.bind_some, pp_ rfl (Nat.le_of_ble_eq_true rfl), Option.bind_some]
  simp only [List.length_append, List.length_cons, List.length_nil, List.length_set, List.set_cons_zero, List.set_cons_succ, List.cons_append, List.nil_append, Nat.reduceAdd, bl_X7]
  rw [na_ (n := 10) (k := 10) rfl (by decide), Option.bind_some, pp_ rfl (Nat.le_of_ble_eq_true rfl), Option.bind_some]
  simp only [List.length_append, List.length_cons, List.length_nil, List.length_set, List.set_cons_zero, List.set_cons_succ, List.cons_append, List.nil_append, Nat.reduceAdd, bl_X7]
  rw [na_ (n := 10) (k := 10) rfl (by decide), Option.bind_some, pp_ rfl (Nat.le_of_ble_eq_true rfl), Option.bind_some]
  simp only [List.length_append, List.length_cons, List.length_nil, List.length_set, List.set_cons_zero, List.set_cons_succ, List.cons_append, List.nil_append, Nat.reduceAdd, bl_X7]
  rw [na_ (n := 10) (k := 10) rfl (by decide), Option.bind_some, pp_ rfl (Nat.le_of_ble_eq_true rfl), Option.bind_some]
  simp only [List.length_append, List.length_cons, List.length_nil, List.length_set, List.set_cons_zero, List.set_cons_succ, List.cons_append, List.nil_append, Nat.reduceAdd, bl_X7]
  rw [na_ (n := 40) (k := 40) rfl (by decide), Option.bind_some, pp_ rfl (Nat.le_of_ble_eq_true rfl), Option.bind_some]
  simp only [List.length_append, List.length_cons, List.length_nil, List.length_set, List.set_cons_zero, List.set_cons_succ, List.cons_append, List.nil_append, Nat.reduceAdd, bl_X7]
  rw [na_ (n := 3) (k := 3) rfl (by decide), Option.bind_some, pp_ rfl (Nat.le_of_ble_eq_true rfl), Option.bind_some]
  simp only [List.length_append, List.length_cons, List.length_nil, List.length_set, List.set_cons_zero, List.set_cons_succ, List.cons_append, List.nil_append, Nat.reduceAdd, bl_X7]
  rw [na_ (n := 8) (k := 8) rfl (by decide), Option.bind_some, pp_ rfl (Nat.le_of_ble_eq_true rfl), Option.bind_some]
  simp only [List.length_append, List.length_cons, List.length_nil, List.length_set, List.set_cons_zero, List.set_cons_succ, List.cons_append, List.nil_append, Nat.reduceAdd, bl_X7]
  rw [na_ (n := 4) (k := 4) rfl (by decide), Option.bind_some, pp_ rfl (Nat.le_of_ble_eq_true rfl), Option.bind_some]
  simp only [List.length_append, List.length_cons, List.length_nil, List.length_set, List.set_cons_zero, List.set_cons_succ, List.cons_append, List.nil_append, Nat.reduceAdd, bl_X7]
  rw [na_ (n := 14) (k := 14) rfl (by decide), Option.bind_some, pp_ rfl (Nat.le_of_ble_eq_true rfl), Option.bind_some]
  simp only [List.length_append, List.length_cons, List.length_nil, List.length_set, List.set_cons_zero, List.set_cons_succ, List.cons_append, List.nil_append, Nat.reduceAdd, bl_X7]
  rw [na_ (n := 10) (k := 10) rfl (by decide), Option.bind_some, pp_ rfl (Nat.le_of_ble_eq_true rfl), Option.bind_some]
  simp only [List.length_append, List.length_cons, List.length_nil, List.length_set, List.set_cons_zero, List.set_cons_succ, List.cons_append, List.nil_append, Nat.reduceAdd, bl_X7]
  rw [grx rfl rfl, Option.bind_some, si_ (x := 0) (q := 0) rfl rfl (by decide) (by decide), Option.bind_some]
  try simp only [List.length_append, List.length_cons, List.length_nil, List.length_set, List.set_cons_zero, List.set_cons_succ, List.cons_append, List.nil_append, Nat.reduceAdd, bl_X7]
  rw [grx rfl rfl, Option.bind_some, si_ (x := 1) (q := 1) rfl rfl (by decide) (by decide), Option.bind_some]
  try simp only [List.length_append, List.length_cons, List.length_nil, List.length_set, List.set_cons_zero, List.set_cons_succ, List.cons_append, List.nil_append, Nat.reduceAdd, bl_X7]
  rw [grx rfl rfl, Option.bind_some, si_ (x := 2) (q := 2) rfl rfl (by decide) (by decide), Option.bind_some]
  try simp only [List.length_append, List.length_cons, List.length_nil, List.length_set, List.set_cons_zero, List.set_cons_succ, List.cons_append, List.nil_append, Nat.reduceAdd, bl_X7]
end IN
theorem in_c : m_X6_init [.inl (6, bl_X6)] 0 = some (L6_ 0) := in6_ []
theorem in_l : List.length (L6_ 0) = 72 := rfl
theorem in_m : m_X7_init (L6_ 0 ++ [.inl (7, bl_X7)]) 72 = some (L6_ 0 ++ L7_ 72) := in7_ (L6_ 0)
theorem in_g : (fun q => if q < 10 then some (0 + 9 + 2 + 5 * q) else none : Nat → Option Nat) = fun i => if i < 10 then some (pr0 i) else none := by
  funext q
  unfold pr0
  by_cases e : q < 10
  · rw [if_pos e, if_pos e, Nat.mod_eq_of_lt e]
  · rw [if_neg e, if_neg e]
def LL_ (g : Nat → Option Nat) : dp_H := (L6_ 0 ++ L7_ 72).set 10 (.inr (.inr (10, g)))
theorem in_1a : L6_ 0 ++ L7_ 72 = LL_ (fun q => if q < 10 then some (0 + 9 + 2 + 5 * q) else none) := rfl
theorem in_2a : LL_ (fun i => if i < 10 then some (pr0 i) else none) = wd_h vi0 ar0 pr0 0 := rfl
theorem in_h : L6_ 0 ++ L7_ 72 = wd_h vi0 ar0 pr0 0 := by rw [in_1a, in_g, in_2a]
theorem I_0 : I_ vi0 ar0 pr0 := by
  refine ⟨0, 0, fun _ => 0, fun _ => 0, fun _ => 0, 0, 0, ⟨by omega, rfl, rfl, fun k hk => absurd hk (Nat.not_lt_zero k)⟩, ⟨by omega, rfl, rfl, fun i => ⟨i % 10, Nat.mod_lt _ (by decide), rfl⟩, fun i j hi hj e => ?_, fun i hi => absurd hi (Nat.not_lt_zero i)⟩, ⟨by omega, rfl, rfl, by omega, rfl, rfl, fun k hk => absurd hk (Nat.not_lt_zero k), fun k hk => absurd hk (Nat.not_lt_zero k), rfl, by omega, fun _ => rfl, fun _ => ⟨rfl, rfl⟩⟩, fun k hk => ?_, ⟨rfl, rfl, rfl, rfl⟩⟩
  · unfold pr0 at e
    rw [Nat.mod_eq_of_lt hi, Nat.mod_eq_of_lt hj] at e
    omega
  · have : k = 0 ∨ k = 1 ∨ k = 2 := by omega
    rcases this with rfl | rfl | rfl
    · exact ⟨rfl, 15, by omega, by omega, rfl⟩
    · exact ⟨rfl, 8, by omega, by omega, rfl⟩
    · exact ⟨rfl, 4, by omega, by omega, rfl⟩
