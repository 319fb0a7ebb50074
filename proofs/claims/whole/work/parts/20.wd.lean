def up2 (f : Nat → Nat → Int32) (k j : Nat) (x : Int32) : Nat → Nat → Int32 := fun a b => if a = k ∧ b = j then x else f a b
theorem up2_s {f : Nat → Nat → Int32} {k j : Nat} {x : Int32} : up2 f k j x k j = x := by simp [up2]
theorem up2_n {f : Nat → Nat → Int32} {k j a b : Nat} {x : Int32} (h : ¬ (a = k ∧ b = j)) : up2 f k j x a b = f a b := by simp [up2, h]
theorem up2_k {f : Nat → Nat → Int32} {k j a : Nat} {x : Int32} (h : a ≠ k) : up2 f k j x a = f a := by funext b; simp [up2, h]
theorem up2_r {f : Nat → Nat → Int32} {k j : Nat} {x : Int32} : up2 f k j x k = upd (f k) j x := by funext b; simp [up2, upd]
def wd_k (k : Nat) : Nat := ([6, 5, 152, 2, 1, 110, 110, 5, 104, 3, 310, 1, 110, 110, 5, 104, 1, 110, 110, 5, 104, 1, 110, 110, 5, 104, 1, 110, 110, 5, 104, 1, 110, 110, 5, 104, 1, 110, 110, 5, 104, 1, 110, 110, 5, 104, 1, 110, 110, 5, 104, 1, 110, 110, 5, 104, 1, 110, 110, 5, 104, 5, 110, 4, 5, 110, 5, 110, 0, 5, 110, 103, 7, 152, 110, 210, 180, 110, 110, 110, 140, 103, 108, 104, 114, 110] : List Nat).getD k 99
theorem wd_lt {k : Nat} (h : wd_k k ≠ 99) : k < 86 := by
  rcases Nat.lt_or_ge k 86 with q | q
  · exact q
  · exact absurd (by unfold wd_k; rw [List.getD_eq_getElem?_getD, List.getElem?_eq_none (by simpa using q)]; rfl) h
def wd_f (k : Nat) (v : Nat → Int32) (hh : Int64) (c : Nat) : List dp_V := match c with
  | 0 => [.inr (.inr (some (k + 1))), .inr (.inr (some (k + 3))), .inl (v 2), .inl (v 3), .inl (v 4), .inl (v 5), .inl (v 6), .inl (v 7), .inl (v 8)]
  | 1 => [.inr (.inr (some (k + 1))), .inr (.inr (some (k + 2))), .inr (.inr (some (k + 3))), .inl (v 3), .inl (v 4), .inl (v 5), .inl (v 6)]
  | 2 => [.inr (.inr (some (k + 1))), .inl (v 1), .inl (v 2), .inl (v 3)]
  | 3 => [.inr (.inr (some (k + 1))), .inl (v 1)]
  | 4 => [.inr (.inr (some (k + 1))), .inr (.inr (some (k + 3))), .inl (v 2), .inl (v 3)]
  | 5 => [.inr (.inr (some (k + 1))), .inl (v 1)]
  | 6 => [.inr (.inr (some (1))), .inr (.inr (some (3))), .inr (.inr (some (9))), .inr (.inr (some (61))), .inr (.inr (some (63))), .inr (.inr (some (68)))]
  | _ => [.inl (v 0), .inr (.inr (some (73))), .inl (v 2), .inr (.inr (some (74))), .inr (.inr (some (75))), .inr (.inr (some (76))), .inr (.inr (some (77))), .inr (.inr (some (78))), .inr (.inr (some (79))), .inr (.inr (some (80))), .inr (.inr (some (81))), .inl (v 11), .inl (v 12), .inl (v 13), .inl (v 14), .inl (v 15), .inl (v 16), .inl (v 17), .inr (.inr (some (82))), .inl (v 19), .inl (v 20), .inl (v 21), .inl (v 22), .inr (.inr (some (83))), .inl (v 24), .inr (.inr (some (84))), .inl (v 26), .inl (v 27), .inl (v 28), .inr (.inr (some (85))), .inl (v 30), .inl (v 31), .inr (.inl hh)]
def wd_c (v a : Nat → Int32) (pr : Nat → Nat) (hh : Int64) (k : Nat) : dp_C := if wd_k k < 8 then .inl (wd_k k, wd_f k v hh (wd_k k)) else if wd_k k = 310 then .inr (.inr (10, fun i => if i < 10 then some (pr i) else none)) else if wd_k k = 210 then .inr (.inl (true, 10, a)) else .inr (.inl (false, wd_k k - 100, a))
def wd_h (vi ar : Nat → Nat → Int32) (pr : Nat → Nat) (hh : Int64) : dp_H := (List.range 86).map (fun k => wd_c (vi k) (ar k) pr hh k)
section WD
variable {vi ar : Nat → Nat → Int32} {pr : Nat → Nat} {hh : Int64}
theorem wd_get {k : Nat} (h : k < 86) : (wd_h vi ar pr hh)[k]? = some (wd_c (vi k) (ar k) pr hh k) := by simp [wd_h, h]
theorem wd_set {vi' ar' : Nat → Nat → Int32} {pr' : Nat → Nat} {hh' : Int64} {k : Nat} {c : dp_C} (hc : wd_c (vi' k) (ar' k) pr' hh' k = c) (ho : ∀ i, i ≠ k → wd_c (vi' i) (ar' i) pr' hh' i = wd_c (vi i) (ar i) pr hh i) : (wd_h vi ar pr hh).set k c = wd_h vi' ar' pr' hh' := by
  apply List.ext_getElem?
  intro i
  rw [List.getElem?_set]
  by_cases hi : i < 86
  · rw [wd_get hi]
    by_cases hk : k = i
    · subst hk
      simp [wd_h, hi, hc]
    · rw [if_neg hk, wd_get hi, ho i (Ne.symm hk)]
  · have e1 : (wd_h vi ar pr hh)[i]? = none := List.getElem?_eq_none (by simpa [wd_h] using hi)
    have e2 : (wd_h vi' ar' pr' hh')[i]? = none := List.getElem?_eq_none (by simpa [wd_h] using hi)
    rw [e1, e2]
    by_cases hk : k = i
    · rw [if_pos hk, if_neg (by subst hk; simpa [wd_h] using hi)]
    · rw [if_neg hk]
theorem wd_obj {k c : Nat} (hk : wd_k k = c) (hc : c < 8) : (wd_h vi ar pr hh)[k]? = some (.inl (c, wd_f k (vi k) hh c)) := by
  rw [wd_get (wd_lt (by omega))]
  unfold wd_c
  rw [hk, if_pos hc]
theorem wd_ck {β : Type} {k c : Nat} {o : Option β} (hk : wd_k k = c) (hc : c < 8) : dp_ck (wd_h vi ar pr hh) k c o = o := by
  simp [dp_ck, dp_is, wd_obj (vi := vi) (ar := ar) (pr := pr) (hh := hh) hk hc]
theorem wd_is {k c : Nat} (hk : wd_k k = c) (hc : c < 8) : dp_is (wd_h vi ar pr hh) k c = true := by
  simp [dp_is, wd_obj (vi := vi) (ar := ar) (pr := pr) (hh := hh) hk hc]
theorem wd_g {k c j : Nat} (hk : wd_k k = c) (hc : c < 8) : dp_g (wd_h vi ar pr hh) k c j = (wd_f k (vi k) hh c)[j]? := by
  simp [dp_g, wd_obj (vi := vi) (ar := ar) (pr := pr) (hh := hh) hk hc]
theorem wd_p {k c j : Nat} {x : dp_V} (hk : wd_k k = c) (hc : c < 8) (hj : j < (wd_f k (vi k) hh c).length) : dp_p (wd_h vi ar pr hh) k c j x = some ((wd_h vi ar pr hh).set k (.inl (c, (wd_f k (vi k) hh c).set j x))) := by
  simp [dp_p, wd_obj (vi := vi) (ar := ar) (pr := pr) (hh := hh) hk hc, hj]
theorem wd_pi {k c j : Nat} {x : Int32} (hk : wd_k k = c) (hc : c < 8) (hj : j < (wd_f k (vi k) hh c).length) (he : wd_f k (upd (vi k) j x) hh c = (wd_f k (vi k) hh c).set j (.inl x)) : dp_p (wd_h vi ar pr hh) k c j (.inl x) = some (wd_h (up2 vi k j x) ar pr hh) := by
  rw [wd_p hk hc hj]
  refine congrArg some (wd_set ?_ (fun i hi => by rw [up2_k hi]))
  unfold wd_c
  rw [hk, if_pos hc, up2_r, he]
theorem gr_0_0 {k : Nat} (hk : wd_k k = 0) : dp_gr (wd_h vi ar pr hh) k 0 0 = some (k + 1) := by rw [dp_gr, wd_g hk (by decide)]; rfl
theorem gr_0_1 {k : Nat} (hk : wd_k k = 0) : dp_gr (wd_h vi ar pr hh) k 0 1 = some (k + 3) := by rw [dp_gr, wd_g hk (by decide)]; rfl
theorem gi_0_2 {k : Nat} (hk : wd_k k = 0) : dp_gi (wd_h vi ar pr hh) k 0 2 = some (vi k 2) := by rw [dp_gi, wd_g hk (by decide)]; rfl
theorem pi_0_2 {k : Nat} {x : Int32} (hk : wd_k k = 0) : dp_p (wd_h vi ar pr hh) k 0 2 (.inl x) = some (wd_h (up2 vi k 2 x) ar pr hh) := wd_pi hk (by decide) (Nat.le_of_ble_eq_true rfl) rfl
theorem gi_0_3 {k : Nat} (hk : wd_k k = 0) : dp_gi (wd_h vi ar pr hh) k 0 3 = some (vi k 3) := by rw [dp_gi, wd_g hk (by decide)]; rfl
theorem pi_0_3 {k : Nat} {x : Int32} (hk : wd_k k = 0) : dp_p (wd_h vi ar pr hh) k 0 3 (.inl x) = some (wd_h (up2 vi k 3 x) ar pr hh) := wd_pi hk (by decide) (Nat.le_of_ble_eq_true rfl) rfl
theorem gi_0_4 {k : Nat} (hk : wd_k k = 0) : dp_gi (wd_h vi ar pr hh) k 0 4 = some (vi k 4) := by rw [dp_gi, wd_g hk (by decide)]; rfl
theorem pi_0_4 {k : Nat} {x : Int32} (hk : wd_k k = 0) : dp_p (wd_h vi ar pr hh) k 0 4 (.inl x) = some (wd_h (up2 vi k 4 x) ar pr hh) := wd_pi hk (by decide) (Nat.le_of_ble_eq_true rfl) rfl
theorem gi_0_5 {k : Nat} (hk : wd_k k = 0) : dp_gi (wd_h vi ar pr hh) k 0 5 = some (vi k 5) := by rw [dp_gi, wd_g hk (by decide)]; rfl
theorem pi_0_5 {k : Nat} {x : Int32} (hk : wd_k k = 0) : dp_p (wd_h vi ar pr hh) k 0 5 (.inl x) = some (wd_h (up2 vi k 5 x) ar pr hh) := wd_pi hk (by decide) (Nat.le_of_ble_eq_true rfl) rfl
theorem gi_0_6 {k : Nat} (hk : wd_k k = 0) : dp_gi (wd_h vi ar pr hh) k 0 6 = some (vi k 6) := by rw [dp_gi, wd_g hk (by decide)]; rfl
theorem pi_0_6 {k : Nat} {x : Int32} (hk : wd_k k = 0) : dp_p (wd_h vi ar pr hh) k 0 6 (.inl x) = some (wd_h (up2 vi k 6 x) ar pr hh) := wd_pi hk (by decide) (Nat.le_of_ble_eq_true rfl) rfl
theorem gi_0_7 {k : Nat} (hk : wd_k k = 0) : dp_gi (wd_h vi ar pr hh) k 0 7 = some (vi k 7) := by rw [dp_gi, wd_g hk (by decide)]; rfl
theorem pi_0_7 {k : Nat} {x : Int32} (hk : wd_k k = 0) : dp_p (wd_h vi ar pr hh) k 0 7 (.inl x) = some (wd_h (up2 vi k 7 x) ar pr hh) := wd_pi hk (by decide) (Nat.le_of_ble_eq_true rfl) rfl
theorem gi_0_8 {k : Nat} (hk : wd_k k = 0) : dp_gi (wd_h vi ar pr hh) k 0 8 = some (vi k 8) := by rw [dp_gi, wd_g hk (by decide)]; rfl
theorem pi_0_8 {k : Nat} {x : Int32} (hk : wd_k k = 0) : dp_p (wd_h vi ar pr hh) k 0 8 (.inl x) = some (wd_h (up2 vi k 8 x) ar pr hh) := wd_pi hk (by decide) (Nat.le_of_ble_eq_true rfl) rfl
theorem gr_1_0 {k : Nat} (hk : wd_k k = 1) : dp_gr (wd_h vi ar pr hh) k 1 0 = some (k + 1) := by rw [dp_gr, wd_g hk (by decide)]; rfl
theorem gr_1_1 {k : Nat} (hk : wd_k k = 1) : dp_gr (wd_h vi ar pr hh) k 1 1 = some (k + 2) := by rw [dp_gr, wd_g hk (by decide)]; rfl
theorem gr_1_2 {k : Nat} (hk : wd_k k = 1) : dp_gr (wd_h vi ar pr hh) k 1 2 = some (k + 3) := by rw [dp_gr, wd_g hk (by decide)]; rfl
theorem gi_1_3 {k : Nat} (hk : wd_k k = 1) : dp_gi (wd_h vi ar pr hh) k 1 3 = some (vi k 3) := by rw [dp_gi, wd_g hk (by decide)]; rfl
theorem pi_1_3 {k : Nat} {x : Int32} (hk : wd_k k = 1) : dp_p (wd_h vi ar pr hh) k 1 3 (.inl x) = some (wd_h (up2 vi k 3 x) ar pr hh) := wd_pi hk (by decide) (Nat.le_of_ble_eq_true rfl) rfl
theorem gi_1_4 {k : Nat} (hk : wd_k k = 1) : dp_gi (wd_h vi ar pr hh) k 1 4 = some (vi k 4) := by rw [dp_gi, wd_g hk (by decide)]; rfl
theorem pi_1_4 {k : Nat} {x : Int32} (hk : wd_k k = 1) : dp_p (wd_h vi ar pr hh) k 1 4 (.inl x) = some (wd_h (up2 vi k 4 x) ar pr hh) := wd_pi hk (by decide) (Nat.le_of_ble_eq_true rfl) rfl
theorem gi_1_5 {k : Nat} (hk : wd_k k = 1) : dp_gi (wd_h vi ar pr hh) k 1 5 = some (vi k 5) := by rw [dp_gi, wd_g hk (by decide)]; rfl
theorem pi_1_5 {k : Nat} {x : Int32} (hk : wd_k k = 1) : dp_p (wd_h vi ar pr hh) k 1 5 (.inl x) = some (wd_h (up2 vi k 5 x) ar pr hh) := wd_pi hk (by decide) (Nat.le_of_ble_eq_true rfl) rfl
theorem gi_1_6 {k : Nat} (hk : wd_k k = 1) : dp_gi (wd_h vi ar pr hh) k 1 6 = some (vi k 6) := by rw [dp_gi, wd_g hk (by decide)]; rfl
theorem pi_1_6 {k : Nat} {x : Int32} (hk : wd_k k = 1) : dp_p (wd_h vi ar pr hh) k 1 6 (.inl x) = some (wd_h (up2 vi k 6 x) ar pr hh) := wd_pi hk (by decide) (Nat.le_of_ble_eq_true rfl) rfl
theorem gr_2_0 {k : Nat} (hk : wd_k k = 2) : dp_gr (wd_h vi ar pr hh) k 2 0 = some (k + 1) := by rw [dp_gr, wd_g hk (by decide)]; rfl
theorem gi_2_1 {k : Nat} (hk : wd_k k = 2) : dp_gi (wd_h vi ar pr hh) k 2 1 = some (vi k 1) := by rw [dp_gi, wd_g hk (by decide)]; rfl
theorem pi_2_1 {k : Nat} {x : Int32} (hk : wd_k k = 2) : dp_p (wd_h vi ar pr hh) k 2 1 (.inl x) = some (wd_h (up2 vi k 1 x) ar pr hh) := wd_pi hk (by decide) (Nat.le_of_ble_eq_true rfl) rfl
theorem gi_2_2 {k : Nat} (hk : wd_k k = 2) : dp_gi (wd_h vi ar pr hh) k 2 2 = some (vi k 2) := by rw [dp_gi, wd_g hk (by decide)]; rfl
theorem pi_2_2 {k : Nat} {x : Int32} (hk : wd_k k = 2) : dp_p (wd_h vi ar pr hh) k 2 2 (.inl x) = some (wd_h (up2 vi k 2 x) ar pr hh) := wd_pi hk (by decide) (Nat.le_of_ble_eq_true rfl) rfl
theorem gi_2_3 {k : Nat} (hk : wd_k k = 2) : dp_gi (wd_h vi ar pr hh) k 2 3 = some (vi k 3) := by rw [dp_gi, wd_g hk (by decide)]; rfl
theorem pi_2_3 {k : Nat} {x : Int32} (hk : wd_k k = 2) : dp_p (wd_h vi ar pr hh) k 2 3 (.inl x) = some (wd_h (up2 vi k 3 x) ar pr hh) := wd_pi hk (by decide) (Nat.le_of_ble_eq_true rfl) rfl
theorem gr_3_0 {k : Nat} (hk : wd_k k = 3) : dp_gr (wd_h vi ar pr hh) k 3 0 = some (k + 1) := by rw [dp_gr, wd_g hk (by decide)]; rfl
theorem gi_3_1 {k : Nat} (hk : wd_k k = 3) : dp_gi (wd_h vi ar pr hh) k 3 1 = some (vi k 1) := by rw [dp_gi, wd_g hk (by decide)]; rfl
theorem pi_3_1 {k : Nat} {x : Int32} (hk : wd_k k = 3) : dp_p (wd_h vi ar pr hh) k 3 1 (.inl x) = some (wd_h (up2 vi k 1 x) ar pr hh) := wd_pi hk (by decide) (Nat.le_of_ble_eq_true rfl) rfl
theorem gr_4_0 {k : Nat} (hk : wd_k k = 4) : dp_gr (wd_h vi ar pr hh) k 4 0 = some (k + 1) := by rw [dp_gr, wd_g hk (by decide)]; rfl
theorem gr_4_1 {k : Nat} (hk : wd_k k = 4) : dp_gr (wd_h vi ar pr hh) k 4 1 = some (k + 3) := by rw [dp_gr, wd_g hk (by decide)]; rfl
theorem gi_4_2 {k : Nat} (hk : wd_k k = 4) : dp_gi (wd_h vi ar pr hh) k 4 2 = some (vi k 2) := by rw [dp_gi, wd_g hk (by decide)]; rfl
theorem pi_4_2 {k : Nat} {x : Int32} (hk : wd_k k = 4) : dp_p (wd_h vi ar pr hh) k 4 2 (.inl x) = some (wd_h (up2 vi k 2 x) ar pr hh) := wd_pi hk (by decide) (Nat.le_of_ble_eq_true rfl) rfl
theorem gi_4_3 {k : Nat} (hk : wd_k k = 4) : dp_gi (wd_h vi ar pr hh) k 4 3 = some (vi k 3) := by rw [dp_gi, wd_g hk (by decide)]; rfl
theorem pi_4_3 {k : Nat} {x : Int32} (hk : wd_k k = 4) : dp_p (wd_h vi ar pr hh) k 4 3 (.inl x) = some (wd_h (up2 vi k 3 x) ar pr hh) := wd_pi hk (by decide) (Nat.le_of_ble_eq_true rfl) rfl
theorem gr_5_0 {k : Nat} (hk : wd_k k = 5) : dp_gr (wd_h vi ar pr hh) k 5 0 = some (k + 1) := by rw [dp_gr, wd_g hk (by decide)]; rfl
theorem gi_5_1 {k : Nat} (hk : wd_k k = 5) : dp_gi (wd_h vi ar pr hh) k 5 1 = some (vi k 1) := by rw [dp_gi, wd_g hk (by decide)]; rfl
theorem pi_5_1 {k : Nat} {x : Int32} (hk : wd_k k = 5) : dp_p (wd_h vi ar pr hh) k 5 1 (.inl x) = some (wd_h (up2 vi k 1 x) ar pr hh) := wd_pi hk (by decide) (Nat.le_of_ble_eq_true rfl) rfl
theorem gr_6_0 {k : Nat} (hk : wd_k k = 6) : dp_gr (wd_h vi ar pr hh) k 6 0 = some (1) := by rw [dp_gr, wd_g hk (by decide)]; rfl
theorem gr_6_1 {k : Nat} (hk : wd_k k = 6) : dp_gr (wd_h vi ar pr hh) k 6 1 = some (3) := by rw [dp_gr, wd_g hk (by decide)]; rfl
theorem gr_6_2 {k : Nat} (hk : wd_k k = 6) : dp_gr (wd_h vi ar pr hh) k 6 2 = some (9) := by rw [dp_gr, wd_g hk (by decide)]; rfl
theorem gr_6_3 {k : Nat} (hk : wd_k k = 6) : dp_gr (wd_h vi ar pr hh) k 6 3 = some (61) := by rw [dp_gr, wd_g hk (by decide)]; rfl
theorem gr_6_4 {k : Nat} (hk : wd_k k = 6) : dp_gr (wd_h vi ar pr hh) k 6 4 = some (63) := by rw [dp_gr, wd_g hk (by decide)]; rfl
theorem gr_6_5 {k : Nat} (hk : wd_k k = 6) : dp_gr (wd_h vi ar pr hh) k 6 5 = some (68) := by rw [dp_gr, wd_g hk (by decide)]; rfl
theorem gi_7_0 {k : Nat} (hk : wd_k k = 7) : dp_gi (wd_h vi ar pr hh) k 7 0 = some (vi k 0) := by rw [dp_gi, wd_g hk (by decide)]; rfl
theorem pi_7_0 {k : Nat} {x : Int32} (hk : wd_k k = 7) : dp_p (wd_h vi ar pr hh) k 7 0 (.inl x) = some (wd_h (up2 vi k 0 x) ar pr hh) := wd_pi hk (by decide) (Nat.le_of_ble_eq_true rfl) rfl
theorem gr_7_1 {k : Nat} (hk : wd_k k = 7) : dp_gr (wd_h vi ar pr hh) k 7 1 = some (73) := by rw [dp_gr, wd_g hk (by decide)]; rfl
theorem gi_7_2 {k : Nat} (hk : wd_k k = 7) : dp_gi (wd_h vi ar pr hh) k 7 2 = some (vi k 2) := by rw [dp_gi, wd_g hk (by decide)]; rfl
theorem pi_7_2 {k : Nat} {x : Int32} (hk : wd_k k = 7) : dp_p (wd_h vi ar pr hh) k 7 2 (.inl x) = some (wd_h (up2 vi k 2 x) ar pr hh) := wd_pi hk (by decide) (Nat.le_of_ble_eq_true rfl) rfl
theorem gr_7_3 {k : Nat} (hk : wd_k k = 7) : dp_gr (wd_h vi ar pr hh) k 7 3 = some (74) := by rw [dp_gr, wd_g hk (by decide)]; rfl
theorem gr_7_4 {k : Nat} (hk : wd_k k = 7) : dp_gr (wd_h vi ar pr hh) k 7 4 = some (75) := by rw [dp_gr, wd_g hk (by decide)]; rfl
theorem gr_7_5 {k : Nat} (hk : wd_k k = 7) : dp_gr (wd_h vi ar pr hh) k 7 5 = some (76) := by rw [dp_gr, wd_g hk (by decide)]; rfl
theorem gr_7_6 {k : Nat} (hk : wd_k k = 7) : dp_gr (wd_h vi ar pr hh) k 7 6 = some (77) := by rw [dp_gr, wd_g hk (by decide)]; rfl
theorem gr_7_7 {k : Nat} (hk : wd_k k = 7) : dp_gr (wd_h vi ar pr hh) k 7 7 = some (78) := by rw [dp_gr, wd_g hk (by decide)]; rfl
theorem gr_7_8 {k : Nat} (hk : wd_k k = 7) : dp_gr (wd_h vi ar pr hh) k 7 8 = some (79) := by rw [dp_gr, wd_g hk (by decide)]; rfl
theorem gr_7_9 {k : Nat} (hk : wd_k k = 7) : dp_gr (wd_h vi ar pr hh) k 7 9 = some (80) := by rw [dp_gr, wd_g hk (by decide)]; rfl
theorem gr_7_10 {k : Nat} (hk : wd_k k = 7) : dp_gr (wd_h vi ar pr hh) k 7 10 = some (81) := by rw [dp_gr, wd_g hk (by decide)]; rfl
theorem gi_7_11 {k : Nat} (hk : wd_k k = 7) : dp_gi (wd_h vi ar pr hh) k 7 11 = some (vi k 11) := by rw [dp_gi, wd_g hk (by decide)]; rfl
theorem pi_7_11 {k : Nat} {x : Int32} (hk : wd_k k = 7) : dp_p (wd_h vi ar pr hh) k 7 11 (.inl x) = some (wd_h (up2 vi k 11 x) ar pr hh) := wd_pi hk (by decide) (Nat.le_of_ble_eq_true rfl) rfl
theorem gi_7_12 {k : Nat} (hk : wd_k k = 7) : dp_gi (wd_h vi ar pr hh) k 7 12 = some (vi k 12) := by rw [dp_gi, wd_g hk (by decide)]; rfl
theorem pi_7_12 {k : Nat} {x : Int32} (hk : wd_k k = 7) : dp_p (wd_h vi ar pr hh) k 7 12 (.inl x) = some (wd_h (up2 vi k 12 x) ar pr hh) := wd_pi hk (by decide) (Nat.le_of_ble_eq_true rfl) rfl
theorem gi_7_13 {k : Nat} (hk : wd_k k = 7) : dp_gi (wd_h vi ar pr hh) k 7 13 = some (vi k 13) := by rw [dp_gi, wd_g hk (by decide)]; rfl
theorem pi_7_13 {k : Nat} {x : Int32} (hk : wd_k k = 7) : dp_p (wd_h vi ar pr hh) k 7 13 (.inl x) = some (wd_h (up2 vi k 13 x) ar pr hh) := wd_pi hk (by decide) (Nat.le_of_ble_eq_true rfl) rfl
theorem gi_7_14 {k : Nat} (hk : wd_k k = 7) : dp_gi (wd_h vi ar pr hh) k 7 14 = some (vi k 14) := by rw [dp_gi, wd_g hk (by decide)]; rfl
theorem pi_7_14 {k : Nat} {x : Int32} (hk : wd_k k = 7) : dp_p (wd_h vi ar pr hh) k 7 14 (.inl x) = some (wd_h (up2 vi k 14 x) ar pr hh) := wd_pi hk (by decide) (Nat.le_of_ble_eq_true rfl) rfl
theorem gi_7_15 {k : Nat} (hk : wd_k k = 7) : dp_gi (wd_h vi ar pr hh) k 7 15 = some (vi k 15) := by rw [dp_gi, wd_g hk (by decide)]; rfl
theorem pi_7_15 {k : Nat} {x : Int32} (hk : wd_k k = 7) : dp_p (wd_h vi ar pr hh) k 7 15 (.inl x) = some (wd_h (up2 vi k 15 x) ar pr hh) := wd_pi hk (by decide) (Nat.le_of_ble_eq_true rfl) rfl
theorem gi_7_16 {k : Nat} (hk : wd_k k = 7) : dp_gi (wd_h vi ar pr hh) k 7 16 = some (vi k 16) := by rw [dp_gi, wd_g hk (by decide)]; rfl
theorem pi_7_16 {k : Nat} {x : Int32} (hk : wd_k k = 7) : dp_p (wd_h vi ar pr hh) k 7 16 (.inl x) = some (wd_h (up2 vi k 16 x) ar pr hh) := wd_pi hk (by decide) (Nat.le_of_ble_eq_true rfl) rfl
theorem gi_7_17 {k : Nat} (hk : wd_k k = 7) : dp_gi (wd_h vi ar pr hh) k 7 17 = some (vi k 17) := by rw [dp_gi, wd_g hk (by decide)]; rfl
theorem pi_7_17 {k : Nat} {x : Int32} (hk : wd_k k = 7) : dp_p (wd_h vi ar pr hh) k 7 17 (.inl x) = some (wd_h (up2 vi k 17 x) ar pr hh) := wd_pi hk (by decide) (Nat.le_of_ble_eq_true rfl) rfl
theorem gr_7_18 {k : Nat} (hk : wd_k k = 7) : dp_gr (wd_h vi ar pr hh) k 7 18 = some (82) := by rw [dp_gr, wd_g hk (by decide)]; rfl
theorem gi_7_19 {k : Nat} (hk : wd_k k = 7) : dp_gi (wd_h vi ar pr hh) k 7 19 = some (vi k 19) := by rw [dp_gi, wd_g hk (by decide)]; rfl
theorem pi_7_19 {k : Nat} {x : Int32} (hk : wd_k k = 7) : dp_p (wd_h vi ar pr hh) k 7 19 (.inl x) = some (wd_h (up2 vi k 19 x) ar pr hh) := wd_pi hk (by decide) (Nat.le_of_ble_eq_true rfl) rfl
theorem gi_7_20 {k : Nat} (hk : wd_k k = 7) : dp_gi (wd_h vi ar pr hh) k 7 20 = some (vi k 20) := by rw [dp_gi, wd_g hk (by decide)]; rfl
theorem pi_7_20 {k : Nat} {x : Int32} (hk : wd_k k = 7) : dp_p (wd_h vi ar pr hh) k 7 20 (.inl x) = some (wd_h (up2 vi k 20 x) ar pr hh) := wd_pi hk (by decide) (Nat.le_of_ble_eq_true rfl) rfl
theorem gi_7_21 {k : Nat} (hk : wd_k k = 7) : dp_gi (wd_h vi ar pr hh) k 7 21 = some (vi k 21) := by rw [dp_gi, wd_g hk (by decide)]; rfl
theorem pi_7_21 {k : Nat} {x : Int32} (hk : wd_k k = 7) : dp_p (wd_h vi ar pr hh) k 7 21 (.inl x) = some (wd_h (up2 vi k 21 x) ar pr hh) := wd_pi hk (by decide) (Nat.le_of_ble_eq_true rfl) rfl
theorem gi_7_22 {k : Nat} (hk : wd_k k = 7) : dp_gi (wd_h vi ar pr hh) k 7 22 = some (vi k 22) := by rw [dp_gi, wd_g hk (by decide)]; rfl
theorem pi_7_22 {k : Nat} {x : Int32} (hk : wd_k k = 7) : dp_p (wd_h vi ar pr hh) k 7 22 (.inl x) = some (wd_h (up2 vi k 22 x) ar pr hh) := wd_pi hk (by decide) (Nat.le_of_ble_eq_true rfl) rfl
theorem gr_7_23 {k : Nat} (hk : wd_k k = 7) : dp_gr (wd_h vi ar pr hh) k 7 23 = some (83) := by rw [dp_gr, wd_g hk (by decide)]; rfl
theorem gi_7_24 {k : Nat} (hk : wd_k k = 7) : dp_gi (wd_h vi ar pr hh) k 7 24 = some (vi k 24) := by rw [dp_gi, wd_g hk (by decide)]; rfl
theorem pi_7_24 {k : Nat} {x : Int32} (hk : wd_k k = 7) : dp_p (wd_h vi ar pr hh) k 7 24 (.inl x) = some (wd_h (up2 vi k 24 x) ar pr hh) := wd_pi hk (by decide) (Nat.le_of_ble_eq_true rfl) rfl
theorem gr_7_25 {k : Nat} (hk : wd_k k = 7) : dp_gr (wd_h vi ar pr hh) k 7 25 = some (84) := by rw [dp_gr, wd_g hk (by decide)]; rfl
theorem gi_7_26 {k : Nat} (hk : wd_k k = 7) : dp_gi (wd_h vi ar pr hh) k 7 26 = some (vi k 26) := by rw [dp_gi, wd_g hk (by decide)]; rfl
theorem pi_7_26 {k : Nat} {x : Int32} (hk : wd_k k = 7) : dp_p (wd_h vi ar pr hh) k 7 26 (.inl x) = some (wd_h (up2 vi k 26 x) ar pr hh) := wd_pi hk (by decide) (Nat.le_of_ble_eq_true rfl) rfl
theorem gi_7_27 {k : Nat} (hk : wd_k k = 7) : dp_gi (wd_h vi ar pr hh) k 7 27 = some (vi k 27) := by rw [dp_gi, wd_g hk (by decide)]; rfl
theorem pi_7_27 {k : Nat} {x : Int32} (hk : wd_k k = 7) : dp_p (wd_h vi ar pr hh) k 7 27 (.inl x) = some (wd_h (up2 vi k 27 x) ar pr hh) := wd_pi hk (by decide) (Nat.le_of_ble_eq_true rfl) rfl
theorem gi_7_28 {k : Nat} (hk : wd_k k = 7) : dp_gi (wd_h vi ar pr hh) k 7 28 = some (vi k 28) := by rw [dp_gi, wd_g hk (by decide)]; rfl
theorem pi_7_28 {k : Nat} {x : Int32} (hk : wd_k k = 7) : dp_p (wd_h vi ar pr hh) k 7 28 (.inl x) = some (wd_h (up2 vi k 28 x) ar pr hh) := wd_pi hk (by decide) (Nat.le_of_ble_eq_true rfl) rfl
theorem gr_7_29 {k : Nat} (hk : wd_k k = 7) : dp_gr (wd_h vi ar pr hh) k 7 29 = some (85) := by rw [dp_gr, wd_g hk (by decide)]; rfl
theorem gi_7_30 {k : Nat} (hk : wd_k k = 7) : dp_gi (wd_h vi ar pr hh) k 7 30 = some (vi k 30) := by rw [dp_gi, wd_g hk (by decide)]; rfl
theorem pi_7_30 {k : Nat} {x : Int32} (hk : wd_k k = 7) : dp_p (wd_h vi ar pr hh) k 7 30 (.inl x) = some (wd_h (up2 vi k 30 x) ar pr hh) := wd_pi hk (by decide) (Nat.le_of_ble_eq_true rfl) rfl
theorem gi_7_31 {k : Nat} (hk : wd_k k = 7) : dp_gi (wd_h vi ar pr hh) k 7 31 = some (vi k 31) := by rw [dp_gi, wd_g hk (by decide)]; rfl
theorem pi_7_31 {k : Nat} {x : Int32} (hk : wd_k k = 7) : dp_p (wd_h vi ar pr hh) k 7 31 (.inl x) = some (wd_h (up2 vi k 31 x) ar pr hh) := wd_pi hk (by decide) (Nat.le_of_ble_eq_true rfl) rfl
theorem gl_7_32 {k : Nat} (hk : wd_k k = 7) : dp_gl (wd_h vi ar pr hh) k 7 32 = some hh := by rw [dp_gl, wd_g hk (by decide)]; rfl
theorem pl_7_32 {x : Int64} : dp_p (wd_h vi ar pr hh) 72 7 32 (.inr (.inl x)) = some (wd_h vi ar pr x) := by
  rw [wd_p (k := 72) (c := 7) rfl (by decide) (Nat.le_of_ble_eq_true rfl)]
  refine congrArg some (wd_set rfl (fun i hi => ?_))
  unfold wd_c
  by_cases h8 : wd_k i < 8
  · rw [if_pos h8, if_pos h8]
    have h7 : wd_k i ≠ 7 := by
      intro q
      have hl := wd_lt (k := i) (by omega)
      have : ∀ n, n < 86 → wd_k n = 7 → n = 72 := by decide +kernel
      exact hi (this i hl q)
    have : wd_k i = 0 ∨ wd_k i = 1 ∨ wd_k i = 2 ∨ wd_k i = 3 ∨ wd_k i = 4 ∨ wd_k i = 5 ∨ wd_k i = 6 := by omega
    rcases this with e | e | e | e | e | e | e <;> rw [e] <;> rfl
  · rw [if_neg h8, if_neg h8]
theorem wd_arr {k : Nat} (h1 : 100 ≤ wd_k k) (h2 : wd_k k < 200) : (wd_h vi ar pr hh)[k]? = some (.inr (.inl (false, wd_k k - 100, ar k))) := by
  rw [wd_get (wd_lt (by omega))]
  unfold wd_c
  rw [if_neg (by omega), if_neg (by omega), if_neg (by omega)]
theorem wd_ln {k : Nat} (h1 : 100 ≤ wd_k k) (h2 : wd_k k < 200) : dp_ln (wd_h vi ar pr hh) k = some (nI (wd_k k - 100)) := by
  simp only [dp_ln, wd_arr (vi := vi) (ar := ar) (pr := pr) (hh := hh) h1 h2]
  rfl
theorem wd_in {i n : Nat} (hi : i < n) (hn : n < 200) : ¬ (nI i < 0 ∨ n ≤ (nI i).toNatClampNeg) := by
  rw [nI_clamp (by omega)]
  exact fun q => q.elim (fun q => nI_pos (by omega) q) (fun q => absurd q (by omega))
theorem wd_ai {k i : Nat} (h1 : 100 ≤ wd_k k) (h2 : wd_k k < 200) (hi : i < wd_k k - 100) : dp_ai false (wd_h vi ar pr hh) k (nI i) = some (ar k i) := by
  simp only [dp_ai, wd_arr (vi := vi) (ar := ar) (pr := pr) (hh := hh) h1 h2]
  rw [if_pos ⟨trivial, wd_in hi (by omega)⟩, nI_clamp (by omega)]
theorem wd_si {k i : Nat} {x : Int32} (h1 : 100 ≤ wd_k k) (h2 : wd_k k < 200) (hi : i < wd_k k - 100) : dp_si false (wd_h vi ar pr hh) k (nI i) x = some (wd_h vi (up2 ar k i x) pr hh) := by
  simp only [dp_si, wd_arr (vi := vi) (ar := ar) (pr := pr) (hh := hh) h1 h2]
  rw [if_pos ⟨trivial, wd_in hi (by omega)⟩, nI_clamp (by omega)]
  refine congrArg some (wd_set ?_ (fun i hi => by rw [up2_k hi]))
  unfold wd_c
  rw [if_neg (by omega), if_neg (by omega), if_neg (by omega), up2_r]
theorem wd_bar : (wd_h vi ar pr hh)[75]? = some (.inr (.inl (true, 10, ar 75))) := by
  rw [wd_get (by decide)]
  rfl
theorem wd_az {i : Nat} (hi : i < 10) : dp_ai true (wd_h vi ar pr hh) 75 (nI i) = some (ar 75 i) := by
  simp only [dp_ai, wd_bar (vi := vi) (ar := ar) (pr := pr) (hh := hh)]
  rw [if_pos ⟨trivial, wd_in hi (by omega)⟩, nI_clamp (by omega)]
theorem wd_sz {i : Nat} {x : Int32} (hi : i < 10) : dp_si true (wd_h vi ar pr hh) 75 (nI i) x = some (wd_h vi (up2 ar 75 i x) pr hh) := by
  simp only [dp_si, wd_bar (vi := vi) (ar := ar) (pr := pr) (hh := hh)]
  rw [if_pos ⟨trivial, wd_in hi (by omega)⟩, nI_clamp (by omega)]
  exact congrArg some (wd_set (by rw [up2_r]; rfl) (fun i hi => by rw [up2_k hi]))
theorem wd_ref : (wd_h vi ar pr hh)[10]? = some (.inr (.inr (10, fun i => if i < 10 then some (pr i) else none))) := by
  rw [wd_get (by decide)]
  rfl
theorem wd_ln10 : dp_ln (wd_h vi ar pr hh) 10 = some 10 := by
  simp only [dp_ln, wd_ref (vi := vi) (ar := ar) (pr := pr) (hh := hh)]
  rfl
theorem wd_ar {i : Nat} (hi : i < 10) : dp_ar (wd_h vi ar pr hh) 10 (nI i) = some (pr i) := by
  simp only [dp_ar, wd_ref (vi := vi) (ar := ar) (pr := pr) (hh := hh)]
  rw [if_pos (wd_in hi (by omega)), nI_clamp (by omega), if_pos hi]
theorem wd_sr {i v : Nat} (hi : i < 10) (hv : wd_k v = 1) : dp_sr (wd_h vi ar pr hh) 10 (nI i) v = some (wd_h vi ar (va_up pr i v) hh) := by
  simp only [dp_sr, wd_ref (vi := vi) (ar := ar) (pr := pr) (hh := hh)]
  rw [if_pos ⟨wd_in hi (by omega), wd_is hv (by decide)⟩, nI_clamp (by omega)]
  refine congrArg some (wd_set ?_ (fun k hk => ?_))
  · show (Sum.inr (Sum.inr (10, fun j => if j < 10 then some (va_up pr i v j) else none)) : dp_C) = Sum.inr (Sum.inr (10, va_up (fun j => if j < 10 then some (pr j) else none) i (some v)))
    refine congrArg (fun f => (Sum.inr (Sum.inr (10, f)) : dp_C)) (funext fun j => ?_)
    by_cases hj : j = i
    · simp [va_up, hj, hi]
    · simp [va_up, hj]
  · unfold wd_c
    have h3 : wd_k k ≠ 310 := by
      intro q
      have hl := wd_lt (k := k) (by omega)
      have : ∀ n, n < 86 → wd_k n = 310 → n = 10 := by decide +kernel
      exact hk (this k hl q)
    simp only [h3, if_false]
end WD
