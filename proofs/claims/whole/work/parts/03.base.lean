/-! THE PICTURE: the heap from B on is a list of cells, the n-th at B + n. All methods speak of the whole of it. -/
abbrev dp_V : Type := Int32 ⊕ Int64 ⊕ Option Nat
abbrev dp_C : Type := (Nat × List dp_V) ⊕ (Bool × Nat × (Nat → Int32)) ⊕ (Nat × (Nat → Option Nat))
abbrev dp_H : Type := List dp_C
abbrev dp_A : Type := ClassId × ClassId × ClassId
def dp_ro (B : Nat) (o : Option Nat) : Value := match o with
  | none => .null
  | some k => .ref (B + k)
def dp_ev (B : Nat) (v : dp_V) : Value := match v with
  | .inl i => .int i
  | .inr (.inl i) => .long i
  | .inr (.inr o) => dp_ro B o
def dp_ec (a : dp_A) (B : Nat) (x : dp_C) : va_E := match x with
  | .inl o => .inr (o.1, o.2.map (dp_ev B))
  | .inr (.inl z) => .inl (bif z.1 then a.2.1 else a.1, z.2.1, .inl z.2.2)
  | .inr (.inr z) => .inl (a.2.2, z.1, .inr (.inr (.inr (.inr (fun i => (z.2 i).map (fun k => B + k))))))
def dp_e (a : dp_A) (B : Nat) (h : dp_H) : va_W := h.mapIdx (fun k x => (B + k, dp_ec a B x))
theorem dp_e_get (a : dp_A) (B : Nat) (h : dp_H) (k : Nat) : (dp_e a B h)[k]? = (h[k]?).map (fun x => (B + k, dp_ec a B x)) := by
  unfold dp_e
  rw [List.getElem?_mapIdx]
theorem dp_e_len (a : dp_A) (B : Nat) (h : dp_H) : (dp_e a B h).length = h.length := by simp [dp_e]
theorem dp_e_at {a : dp_A} {B : Nat} {h : dp_H} {k : Nat} {x : dp_C} (hk : h[k]? = some x) : (dp_e a B h)[k]? = some (B + k, dp_ec a B x) := by rw [dp_e_get, hk]; rfl
theorem dp_e_set (a : dp_A) (B : Nat) (h : dp_H) (k : Nat) (x : dp_C) : (dp_e a B h).set k (B + k, dp_ec a B x) = dp_e a B (h.set k x) := by
  apply List.ext_getElem?
  intro i
  rw [dp_e_get, List.getElem?_set, List.getElem?_set, dp_e_get, dp_e_len]
  by_cases hi : k = i
  · subst hi
    by_cases hl : k < h.length
    · simp [hl]
    · simp [hl]
  · simp [hi]
theorem dp_e_push (a : dp_A) (B : Nat) (h : dp_H) (x : dp_C) : dp_e a B h ++ [(B + h.length, dp_ec a B x)] = dp_e a B (h ++ [x]) := by
  simp [dp_e, List.mapIdx_append]
theorem dp_e_D (a : dp_A) (B : Nat) (h : dp_H) : va_D (fun q => B ≤ q) (dp_e a B h) := by
  refine ⟨fun i j p q hi hj hpq => ?_, fun k q hk => ?_⟩
  · rw [dp_e_get] at hi hj
    cases h1 : h[i]? with
    | none => rw [h1] at hi; cases hi
    | some x =>
      cases h2 : h[j]? with
      | none => rw [h2] at hj; cases hj
      | some y =>
        rw [h1] at hi; rw [h2] at hj
        cases hi; cases hj
        dsimp only at hpq
        omega
  · rw [dp_e_get] at hk
    cases h1 : h[k]? with
    | none => rw [h1] at hk; cases hk
    | some x =>
      rw [h1] at hk
      cases hk
      show B ≤ B + k
      omega
/-! what the instructions read and write in the picture -/
def dp_g (h : dp_H) (k c j : Nat) : Option dp_V := match h[k]? with
  | some (.inl o) => if o.1 = c then o.2[j]? else none
  | _ => none
def dp_gi (h : dp_H) (k c j : Nat) : Option Int32 := match dp_g h k c j with
  | some (.inl v) => some v
  | _ => none
def dp_gl (h : dp_H) (k c j : Nat) : Option Int64 := match dp_g h k c j with
  | some (.inr (.inl v)) => some v
  | _ => none
def dp_gr (h : dp_H) (k c j : Nat) : Option Nat := match dp_g h k c j with
  | some (.inr (.inr (some v))) => some v
  | _ => none
def dp_p (h : dp_H) (k c j : Nat) (v : dp_V) : Option dp_H := match h[k]? with
  | some (.inl o) => if o.1 = c ∧ j < o.2.length then some (h.set k (.inl (c, o.2.set j v))) else none
  | _ => none
def dp_b {β : Type} (v : Int32) (o : Option β) : Option β := if v = 0 ∨ v = 1 then o else none
def dp_ai (z : Bool) (h : dp_H) (k : Nat) (i : Int32) : Option Int32 := match h[k]? with
  | some (.inr (.inl x)) => if x.1 = z ∧ ¬ (i < 0 ∨ x.2.1 ≤ i.toNatClampNeg) then some (x.2.2 i.toNatClampNeg) else none
  | _ => none
def dp_si (z : Bool) (h : dp_H) (k : Nat) (i v : Int32) : Option dp_H := match h[k]? with
  | some (.inr (.inl x)) => if x.1 = z ∧ ¬ (i < 0 ∨ x.2.1 ≤ i.toNatClampNeg) then some (h.set k (.inr (.inl (z, x.2.1, upd x.2.2 i.toNatClampNeg v)))) else none
  | _ => none
def dp_ln (h : dp_H) (k : Nat) : Option Int32 := match h[k]? with
  | some (.inr (.inl x)) => some (Int32.ofNat x.2.1)
  | some (.inr (.inr x)) => some (Int32.ofNat x.1)
  | _ => none
def dp_ar (h : dp_H) (k : Nat) (i : Int32) : Option Nat := match h[k]? with
  | some (.inr (.inr x)) => if ¬ (i < 0 ∨ x.1 ≤ i.toNatClampNeg) then x.2 i.toNatClampNeg else none
  | _ => none
def dp_is (h : dp_H) (k c : Nat) : Bool := match h[k]? with
  | some (.inl o) => o.1 == c
  | _ => false
def dp_sr (h : dp_H) (k : Nat) (i : Int32) (v : Nat) : Option dp_H := match h[k]? with
  | some (.inr (.inr x)) => if ¬ (i < 0 ∨ x.1 ≤ i.toNatClampNeg) ∧ dp_is h v 1 = true then some (h.set k (.inr (.inr (x.1, va_up x.2 i.toNatClampNeg (some v))))) else none
  | _ => none
def dp_na (z : Bool) (h : dp_H) (n : Int32) : Option dp_H := if n < 0 ∨ 80 < n.toNatClampNeg then none else some (h ++ [.inr (.inl (z, n.toNatClampNeg, fun _ => 0))])
def dp_nr (h : dp_H) (n : Int32) : Option dp_H := if n < 0 ∨ 80 < n.toNatClampNeg then none else some (h ++ [.inr (.inr (n.toNatClampNeg, fun _ => none))])
def dp_ck {β : Type} (h : dp_H) (k c : Nat) (o : Option β) : Option β := if dp_is h k c = true then o else none
def dp_om {β : Type} (o : Option Nat) (a : Option β) (f : Nat → Option β) : Option β := match o with
  | none => a
  | some k => f k
theorem dp_ob {α β : Type} {o : Option α} {f : α → Option β} {b : β} (h : o.bind f = some b) : ∃ a, o = some a ∧ f a = some b := Option.bind_eq_some_iff.mp h
theorem dp_ip {β : Type} {c : Prop} {hd : Decidable c} {x y : Option β} {b : β} (hc : c) (h : (if c then x else y) = some b) : x = some b := by rwa [if_pos hc] at h
theorem dp_in {β : Type} {c : Prop} {hd : Decidable c} {x y : Option β} {b : β} (hc : ¬ c) (h : (if c then x else y) = some b) : y = some b := by rwa [if_neg hc] at h
theorem dp_ck_e {β : Type} {h : dp_H} {k c : Nat} {o : Option β} {b : β} (hm : dp_ck h k c o = some b) : dp_is h k c = true ∧ o = some b := by
  unfold dp_ck at hm
  split at hm
  · exact ⟨by assumption, hm⟩
  · cases hm
theorem dp_b_e {β : Type} {v : Int32} {o : Option β} {b : β} (hm : dp_b v o = some b) : (v = 0 ∨ v = 1) ∧ o = some b := by
  unfold dp_b at hm
  split at hm
  · exact ⟨by assumption, hm⟩
  · cases hm
theorem dp_g_e {h : dp_H} {k c j : Nat} {v : dp_V} (hm : dp_g h k c j = some v) : ∃ fs, h[k]? = some (.inl (c, fs)) ∧ fs[j]? = some v := by
  unfold dp_g at hm
  split at hm
  · rename_i o ho
    split at hm
    · rename_i hc
      obtain ⟨o1, o2⟩ := o
      dsimp only at hc hm
      subst hc
      exact ⟨o2, ho, hm⟩
    · cases hm
  · cases hm
theorem dp_gi_e {h : dp_H} {k c j : Nat} {v : Int32} (hm : dp_gi h k c j = some v) : ∃ fs, h[k]? = some (.inl (c, fs)) ∧ fs[j]? = some (.inl v) := by
  unfold dp_gi at hm
  split at hm
  · rename_i w hw
    cases hm
    exact dp_g_e hw
  · cases hm
theorem dp_gl_e {h : dp_H} {k c j : Nat} {v : Int64} (hm : dp_gl h k c j = some v) : ∃ fs, h[k]? = some (.inl (c, fs)) ∧ fs[j]? = some (.inr (.inl v)) := by
  unfold dp_gl at hm
  split at hm
  · rename_i w hw
    cases hm
    exact dp_g_e hw
  · cases hm
theorem dp_gr_e {h : dp_H} {k c j : Nat} {v : Nat} (hm : dp_gr h k c j = some v) : ∃ fs, h[k]? = some (.inl (c, fs)) ∧ fs[j]? = some (.inr (.inr (some v))) := by
  unfold dp_gr at hm
  split at hm
  · rename_i w hw
    cases hm
    exact dp_g_e hw
  · cases hm
theorem dp_p_e {h h' : dp_H} {k c j : Nat} {v : dp_V} (hm : dp_p h k c j v = some h') : ∃ fs, h[k]? = some (.inl (c, fs)) ∧ j < fs.length ∧ h' = h.set k (.inl (c, fs.set j v)) := by
  unfold dp_p at hm
  split at hm
  · rename_i o ho
    split at hm
    · rename_i hc
      obtain ⟨o1, o2⟩ := o
      dsimp only at hc hm
      obtain ⟨hc, hl⟩ := hc
      subst hc
      cases hm
      exact ⟨o2, ho, hl, rfl⟩
    · cases hm
  · cases hm
theorem dp_ai_e {z : Bool} {h : dp_H} {k : Nat} {i v : Int32} (hm : dp_ai z h k i = some v) : ∃ n f, h[k]? = some (.inr (.inl (z, n, f))) ∧ vp_in i n ∧ v = f i.toNatClampNeg := by
  unfold dp_ai at hm
  split at hm
  · rename_i x hx
    split at hm
    · rename_i hc
      obtain ⟨x1, x2, x3⟩ := x
      dsimp only at hc hm
      obtain ⟨hc, hl⟩ := hc
      subst hc
      cases hm
      exact ⟨x2, x3, hx, hl, rfl⟩
    · cases hm
  · cases hm
theorem dp_si_e {z : Bool} {h h' : dp_H} {k : Nat} {i v : Int32} (hm : dp_si z h k i v = some h') : ∃ n f, h[k]? = some (.inr (.inl (z, n, f))) ∧ vp_in i n ∧ h' = h.set k (.inr (.inl (z, n, upd f i.toNatClampNeg v))) := by
  unfold dp_si at hm
  split at hm
  · rename_i x hx
    split at hm
    · rename_i hc
      obtain ⟨x1, x2, x3⟩ := x
      dsimp only at hc hm
      obtain ⟨hc, hl⟩ := hc
      subst hc
      cases hm
      exact ⟨x2, x3, hx, hl, rfl⟩
    · cases hm
  · cases hm
theorem dp_ar_e {h : dp_H} {k : Nat} {i : Int32} {v : Nat} (hm : dp_ar h k i = some v) : ∃ n f, h[k]? = some (.inr (.inr (n, f))) ∧ vp_in i n ∧ f i.toNatClampNeg = some v := by
  unfold dp_ar at hm
  split at hm
  · rename_i x hx
    split at hm
    · rename_i hc
      obtain ⟨x1, x2⟩ := x
      exact ⟨x1, x2, hx, hc, hm⟩
    · cases hm
  · cases hm
theorem dp_is_e {h : dp_H} {k c : Nat} (hm : dp_is h k c = true) : ∃ fs, h[k]? = some (.inl (c, fs)) := by
  unfold dp_is at hm
  split at hm
  · rename_i o ho
    obtain ⟨o1, o2⟩ := o
    have hc : o1 = c := by simpa using hm
    subst hc
    exact ⟨o2, ho⟩
  · cases hm
theorem dp_sr_e {h h' : dp_H} {k : Nat} {i : Int32} {v : Nat} (hm : dp_sr h k i v = some h') : ∃ n f fs, h[k]? = some (.inr (.inr (n, f))) ∧ vp_in i n ∧ h[v]? = some (.inl (1, fs)) ∧ h' = h.set k (.inr (.inr (n, va_up f i.toNatClampNeg (some v)))) := by
  unfold dp_sr at hm
  split at hm
  · rename_i x hx
    split at hm
    · rename_i hc
      obtain ⟨x1, x2⟩ := x
      obtain ⟨hc, hl⟩ := hc
      obtain ⟨fs, hfs⟩ := dp_is_e hl
      cases hm
      exact ⟨x1, x2, fs, hx, hc, hfs, rfl⟩
    · cases hm
  · cases hm
theorem dp_na_e {z : Bool} {h h' : dp_H} {n : Int32} (hm : dp_na z h n = some h') : ¬ n < 0 ∧ n.toNatClampNeg ≤ 80 ∧ h' = h ++ [.inr (.inl (z, n.toNatClampNeg, fun _ => 0))] := by
  unfold dp_na at hm
  split at hm
  · cases hm
  · rename_i hc
    cases hm
    exact ⟨fun q => hc (Or.inl q), Nat.le_of_not_lt (fun q => hc (Or.inr q)), rfl⟩
theorem dp_nr_e {h h' : dp_H} {n : Int32} (hm : dp_nr h n = some h') : ¬ n < 0 ∧ n.toNatClampNeg ≤ 80 ∧ h' = h ++ [.inr (.inr (n.toNatClampNeg, fun _ => none))] := by
  unfold dp_nr at hm
  split at hm
  · cases hm
  · rename_i hc
    cases hm
    exact ⟨fun q => hc (Or.inl q), Nat.le_of_not_lt (fun q => hc (Or.inr q)), rfl⟩
