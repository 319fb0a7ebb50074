def dp_b2 {α β : Type} (o : Option (dp_H × α)) (f : dp_H → α → Option β) : Option β := o.bind (fun q => f q.1 q.2)
theorem dp_ob2 {α β : Type} {o : Option (dp_H × α)} {f : dp_H → α → Option β} {b : β} (h : dp_b2 o f = some b) : ∃ h' v, o = some (h', v) ∧ f h' v = some b := by
  obtain ⟨⟨x, y⟩, h1, h2⟩ := dp_ob h
  exact ⟨x, y, h1, h2⟩
theorem dp_om_n {β : Type} {a : Option β} {f : Nat → Option β} {b : β} (h : dp_om none a f = some b) : a = some b := h
theorem dp_om_s {β : Type} {a : Option β} {f : Nat → Option β} {b : β} {k : Nat} (h : dp_om (some k) a f = some b) : f k = some b := h
def dp_nw (h : dp_H) (ci : Nat) (fs : List dp_V) : Option dp_H := some (h ++ [.inl (ci, fs)])
section DPN
variable {p : Program} {l : Launch} {e : Env} {R : Room} {s : State} {m : MethodId} {args : Array Value} {below : List Frame} {meth : Method} {c : Code} {H : Heap} {locs : List Loc} {cells slots : Nat} {Q : State → Prop}
variable {cc : ByteArray} {nL pc : Nat} {ls : Array Slot} {rest : List Value} {D : va_G} {a : dp_A} {B : Nat} {own : String} {h : dp_H}
theorem dp_newc (X : dp_X p s m meth c cc nL own D a B) (hw : dp_w D a B h s.heap H locs) {C : String} {T : u_T} {N ci index : Nat} {ty : Nat → FieldType} (hC : dp_Cl ci C T N ty) (hcl : Cond.classLink own index C ∈ lw_tbl) (hinst : Cond.instantiable C N ∈ lw_tbl) (hini : Cond.initialized C ∈ lw_tbl) {fs : List dp_V} (hfs : ∀ j, j < N → defaultValue (ty j) = vp_V (fs.map (dp_ev B)) j) {h' : dp_H} (hg : dp_nw h ci fs = some h') (hcells : cells + 1 ≤ R.cells) (hslots : slots + N ≤ R.slots) (hdg : decode cc pc = .ok (.new index, 3))
    (kk : ∀ (H1 : Heap), dp_w D a B h' s.heap H1 locs → W p l e R s m args below meth c H1 locs (cells + 1) (slots + N) Q (F0 m (pc + 3) ls (.ref (B + h.length) :: rest))) : W p l e R s m args below meth c H locs cells slots Q (F0 m pc ls rest) := by
  cases hg
  exact dp_new X hw hC hcl hinst hini hfs hcells hslots hdg kk
end DPN
abbrev rm_J6_bitCount_0f7a4 : Room := { frames := 0, cells := 0, slots := 0, locals := 0 }
def m_J6_bitCount_0f7a4 (h : dp_H) (x0 : Int32) : Option Int32 := some ((((((((x0 - (((Int32.toUInt32 x0 >>> (Int32.toUInt32 1 &&& Int32.toUInt32 31)).toInt32) &&& 1431655765)) &&& 858993459) + (((Int32.toUInt32 (x0 - (((Int32.toUInt32 x0 >>> (Int32.toUInt32 1 &&& Int32.toUInt32 31)).toInt32) &&& 1431655765)) >>> (Int32.toUInt32 2 &&& Int32.toUInt32 31)).toInt32) &&& 858993459)) + ((Int32.toUInt32 (((x0 - (((Int32.toUInt32 x0 >>> (Int32.toUInt32 1 &&& Int32.toUInt32 31)).toInt32) &&& 1431655765)) &&& 858993459) + (((Int32.toUInt32 (x0 - (((Int32.toUInt32 x0 >>> (Int32.toUInt32 1 &&& Int32.toUInt32 31)).toInt32) &&& 1431655765)) >>> (Int32.toUInt32 2 &&& Int32.toUInt32 31)).toInt32) &&& 858993459)) >>> (Int32.toUInt32 4 &&& Int32.toUInt32 31)).toInt32)) &&& 252645135) + ((Int32.toUInt32 (((((x0 - (((Int32.toUInt32 x0 >>> (Int32.toUInt32 1 &&& Int32.toUInt32 31)).toInt32) &&& 1431655765)) &&& 858993459) + (((Int32.toUInt32 (x0 - (((Int32.toUInt32 x0 >>> (Int32.toUInt32 1 &&& Int32.toUInt32 31)).toInt32) &&& 1431655765)) >>> (Int32.toUInt32 2 &&& Int32.toUInt32 31)).toInt32) &&& 858993459)) + ((Int32.toUInt32 (((x0 - (((Int32.toUInt32 x0 >>> (Int32.toUInt32 1 &&& Int32.toUInt32 31)).toInt32) &&& 1431655765)) &&& 858993459) + (((Int32.toUInt32 (x0 - (((Int32.toUInt32 x0 >>> (Int32.toUInt32 1 &&& Int32.toUInt32 31)).toInt32) &&& 1431655765)) >>> (Int32.toUInt32 2 &&& Int32.toUInt32 31)).toInt32) &&& 858993459)) >>> (Int32.toUInt32 4 &&& Int32.toUInt32 31)).toInt32)) &&& 252645135) >>> (Int32.toUInt32 8 &&& Int32.toUInt32 31)).toInt32)) + ((Int32.toUInt32 ((((((x0 - (((Int32.toUInt32 x0 >>> (Int32.toUInt32 1 &&& Int32.toUInt32 31)).toInt32) &&& 1431655765)) &&& 858993459) + (((Int32.toUInt32 (x0 - (((Int32.toUInt32 x0 >>> (Int32.toUInt32 1 &&& Int32.toUInt32 31)).toInt32) &&& 1431655765)) >>> (Int32.toUInt32 2 &&& Int32.toUInt32 31)).toInt32) &&& 858993459)) + ((Int32.toUInt32 (((x0 - (((Int32.toUInt32 x0 >>> (Int32.toUInt32 1 &&& Int32.toUInt32 31)).toInt32) &&& 1431655765)) &&& 858993459) + (((Int32.toUInt32 (x0 - (((Int32.toUInt32 x0 >>> (Int32.toUInt32 1 &&& Int32.toUInt32 31)).toInt32) &&& 1431655765)) >>> (Int32.toUInt32 2 &&& Int32.toUInt32 31)).toInt32) &&& 858993459)) >>> (Int32.toUInt32 4 &&& Int32.toUInt32 31)).toInt32)) &&& 252645135) + ((Int32.toUInt32 (((((x0 - (((Int32.toUInt32 x0 >>> (Int32.toUInt32 1 &&& Int32.toUInt32 31)).toInt32) &&& 1431655765)) &&& 858993459) + (((Int32.toUInt32 (x0 - (((Int32.toUInt32 x0 >>> (Int32.toUInt32 1 &&& Int32.toUInt32 31)).toInt32) &&& 1431655765)) >>> (Int32.toUInt32 2 &&& Int32.toUInt32 31)).toInt32) &&& 858993459)) + ((Int32.toUInt32 (((x0 - (((Int32.toUInt32 x0 >>> (Int32.toUInt32 1 &&& Int32.toUInt32 31)).toInt32) &&& 1431655765)) &&& 858993459) + (((Int32.toUInt32 (x0 - (((Int32.toUInt32 x0 >>> (Int32.toUInt32 1 &&& Int32.toUInt32 31)).toInt32) &&& 1431655765)) >>> (Int32.toUInt32 2 &&& Int32.toUInt32 31)).toInt32) &&& 858993459)) >>> (Int32.toUInt32 4 &&& Int32.toUInt32 31)).toInt32)) &&& 252645135) >>> (Int32.toUInt32 8 &&& Int32.toUInt32 31)).toInt32)) >>> (Int32.toUInt32 16 &&& Int32.toUInt32 31)).toInt32)) &&& 63)
abbrev rm_X5_init : Room := { frames := 1, cells := 1, slots := 80, locals := 21 }
def m_X5_init (h : dp_H) (x0 : Nat) (x1 : Int32) : Option dp_H := dp_ck h x0 5 ((dp_na false h (if x1 < 0 then 0 else x1)).bind fun h1 => (dp_p h1 x0 5 0 (.inr (.inr (some (List.length h))))).bind fun h2 => some h2)
abbrev rm_X0_init : Room := { frames := 2, cells := 3, slots := 162, locals := 42 }
def m_X0_init (h : dp_H) (x0 : Nat) : Option dp_H := dp_ck h x0 0 ((dp_nw h 5 bl_X5).bind fun h1 => (m_X5_init h1 (List.length h) 10).bind fun h2 => (dp_p h2 x0 0 0 (.inr (.inr (some (List.length h))))).bind fun h3 => (dp_na false h3 3).bind fun h4 => (dp_si false h4 (List.length h3) 0 15).bind fun h5 => (dp_si false h5 (List.length h3) 1 8).bind fun h6 => (dp_si false h6 (List.length h3) 2 4).bind fun h7 => (dp_p h7 x0 0 1 (.inr (.inr (some (List.length h3))))).bind fun h8 => (dp_p h8 x0 0 2 (.inl 0)).bind fun h9 => (dp_p h9 x0 0 3 (.inl 0)).bind fun h10 => some h10)
abbrev rm_X0_dialled : Room := { frames := 0, cells := 0, slots := 0, locals := 0 }
def m_X0_dialled (h : dp_H) (x0 : Nat) : Option Nat := dp_ck h x0 0 ((dp_gr h x0 0 0).bind fun v1 => some v1)
abbrev rm_X0_state : Room := { frames := 0, cells := 0, slots := 0, locals := 0 }
def m_X0_state (h : dp_H) (x0 : Nat) : Option Int32 := dp_ck h x0 0 ((dp_gi h x0 0 2).bind fun v1 => some v1)
abbrev rm_X0_isUp : Room := { frames := 0, cells := 0, slots := 0, locals := 0 }
def m_X0_isUp (h : dp_H) (x0 : Nat) : Option Int32 := dp_ck h x0 0 ((dp_gi h x0 0 2).bind fun v1 => if v1 = 0 then (some 0) else (some 1))
abbrev rm_X0_isWaiting : Room := { frames := 0, cells := 0, slots := 0, locals := 0 }
def m_X0_isWaiting (h : dp_H) (x0 : Nat) : Option Int32 := dp_ck h x0 0 ((dp_gi h x0 0 2).bind fun v1 => if v1 = 1 then (some 1) else (some 0))
abbrev rm_X0_ended : Room := { frames := 0, cells := 0, slots := 0, locals := 0 }
def m_X0_ended (h : dp_H) (x0 : Nat) : Option Int32 := dp_ck h x0 0 ((dp_gi h x0 0 3).bind fun v1 => some v1)
abbrev rm_X0_ticksLeft : Room := { frames := 0, cells := 0, slots := 0, locals := 0 }
def m_X0_ticksLeft (h : dp_H) (x0 : Nat) : Option Int32 := dp_ck h x0 0 ((dp_gi h x0 0 4).bind fun v1 => some v1)
abbrev rm_X0_timesLifted : Room := { frames := 0, cells := 0, slots := 0, locals := 0 }
def m_X0_timesLifted (h : dp_H) (x0 : Nat) : Option Int32 := dp_ck h x0 0 ((dp_gi h x0 0 5).bind fun v1 => some v1)
abbrev rm_X0_timesReady : Room := { frames := 0, cells := 0, slots := 0, locals := 0 }
def m_X0_timesReady (h : dp_H) (x0 : Nat) : Option Int32 := dp_ck h x0 0 ((dp_gi h x0 0 6).bind fun v1 => some v1)
abbrev rm_X0_timesLost : Room := { frames := 0, cells := 0, slots := 0, locals := 0 }
def m_X0_timesLost (h : dp_H) (x0 : Nat) : Option Int32 := dp_ck h x0 0 ((dp_gi h x0 0 7).bind fun v1 => some v1)
abbrev rm_X0_digitsEver : Room := { frames := 0, cells := 0, slots := 0, locals := 0 }
def m_X0_digitsEver (h : dp_H) (x0 : Nat) : Option Int32 := dp_ck h x0 0 ((dp_gi h x0 0 8).bind fun v1 => some v1)
abbrev rm_X0_ticksOf : Room := { frames := 0, cells := 0, slots := 0, locals := 0 }
def m_X0_ticksOf (h : dp_H) (x0 : Nat) (x1 : Int32) : Option Int32 := dp_ck h x0 0 (if x1 < 0 then (some 0) else ((dp_gr h x0 0 1).bind fun v1 => (dp_ln h v1).bind fun v2 => if v2 ≤ x1 then (some 0) else ((dp_gr h x0 0 1).bind fun v3 => (dp_ai false h v3 x1).bind fun v4 => some v4)))
abbrev rm_X0_setTicks : Room := { frames := 0, cells := 0, slots := 0, locals := 0 }
def m_X0_setTicks (h : dp_H) (x0 : Nat) (x1 : Int32) (x2 : Int32) : Option dp_H := dp_ck h x0 0 (if x1 < 0 then (some h) else ((dp_gr h x0 0 1).bind fun v1 => (dp_ln h v1).bind fun v2 => if v2 ≤ x1 then (some h) else ((dp_gr h x0 0 1).bind fun v3 => (dp_si false h v3 x1 x2).bind fun h4 => some h4)))
abbrev rm_X5_size : Room := { frames := 0, cells := 0, slots := 0, locals := 0 }
def m_X5_size (h : dp_H) (x0 : Nat) : Option Int32 := dp_ck h x0 5 ((dp_gi h x0 5 1).bind fun v1 => some v1)
abbrev rm_X3_at : Room := { frames := 0, cells := 0, slots := 0, locals := 0 }
def m_X3_at (h : dp_H) (x0 : Nat) (x1 : Int32) : Option (Option Nat) := dp_ck h x0 3 (if x1 < 0 then (some none) else ((dp_gi h x0 3 1).bind fun v1 => if v1 ≤ x1 then (some none) else ((dp_gr h x0 3 0).bind fun v2 => (dp_ln h v2).bind fun v3 => if v3 ≤ x1 then (some none) else ((dp_gr h x0 3 0).bind fun v4 => (dp_ar h v4 x1).bind fun v5 => some (some v5)))))
abbrev rm_X5_at : Room := { frames := 0, cells := 0, slots := 0, locals := 0 }
def m_X5_at (h : dp_H) (x0 : Nat) (x1 : Int32) : Option Int32 := dp_ck h x0 5 (if x1 < 0 then (some (-1)) else ((dp_gi h x0 5 1).bind fun v1 => if v1 ≤ x1 then (some (-1)) else ((dp_gr h x0 5 0).bind fun v2 => (dp_ln h v2).bind fun v3 => if v3 ≤ x1 then (some (-1)) else ((dp_gr h x0 5 0).bind fun v4 => (dp_ai false h v4 x1).bind fun v5 => some v5))))
abbrev rm_X1_reach : Room := { frames := 1, cells := 0, slots := 0, locals := 22 }
def b_X1_reach_87 (h : dp_H)  (x0 : Nat) (x2 : Int32) (x3 : Int32) : Option Int32 := (dp_gi h x0 1 3).bind fun v1 => if x2 < v1 then (some (x3 ||| 2)) else ((dp_gi h x0 1 4).bind fun v2 => if v2 = 0 then (some x3) else (if 10 ≤ x2 then (some x3) else (some (x3 ||| 2))))
def b_X1_reach_58 (h : dp_H)  (x0 : Nat) (x2 : Int32) : Option Int32 := (dp_gi h x0 1 3).bind fun v1 => if x2 = v1 then (b_X1_reach_87 h x0 x2 (0 ||| 1)) else ((dp_gi h x0 1 4).bind fun v2 => if v2 = 0 then (b_X1_reach_87 h x0 x2 0) else ((dp_gi h x0 1 3).bind fun v3 => if x2 ≤ v3 then (b_X1_reach_87 h x0 x2 0) else (b_X1_reach_87 h x0 x2 (0 ||| 1))))
def b_X1_reach_2 (h : dp_H) (k2 : Nat → Nat → Int32 → Int32 → Option Int32) (x0 : Nat) (x1 : Nat) (x2 : Int32) (x3 : Int32) : Option Int32 := if x2 ≤ x3 then (b_X1_reach_58 h x0 x2) else ((dp_gi h x0 1 3).bind fun v1 => if v1 ≤ x3 then (b_X1_reach_58 h x0 x2) else ((dp_gr h x0 1 0).bind fun v2 => (dp_ln h v2).bind fun v3 => if v3 ≤ x3 then (b_X1_reach_58 h x0 x2) else ((m_X5_at h x1 x3).bind fun v4 => if v4 < 0 then (some 0) else ((dp_gr h x0 1 0).bind fun v5 => (dp_ai false h v5 x3).bind fun v6 => if ((v6 >>> (v4 &&& 31)) &&& 1) = 0 then (some 0) else (k2 x0 x1 x2 (x3 + 1))))))
def m_X1_reach_2 (h : dp_H)  : Nat → Nat → Nat → Int32 → Int32 → Option Int32
  | 0 => fun _ _ _ _ => none
  | n + 1 => fun x0 x1 x2 x3 => b_X1_reach_2 h (m_X1_reach_2 h  n) x0 x1 x2 x3
def m_X1_reach (h : dp_H) (x0 : Nat) (x1 : Nat) (x2 : Int32) : Option Int32 := dp_ck h x0 1 (m_X1_reach_2 h 64 x0 x1 x2 0)
abbrev rm_X3_reached : Room := { frames := 2, cells := 0, slots := 0, locals := 46 }
def b_X3_reached_5 (h : dp_H) (k5 : Nat → Nat → Int32 → Int32 → Int32 → Option Int32) (x0 : Nat) (x1 : Nat) (x2 : Int32) (x3 : Int32) (x4 : Int32) : Option Int32 := (dp_gi h x0 3 1).bind fun v1 => if v1 ≤ x4 then (some x3) else ((m_X3_at h x0 x4).bind fun v2 => dp_om v2 (k5 x0 x1 x2 x3 (x4 + 1)) (fun u3 => (m_X5_size h x1).bind fun v4 => (m_X1_reach h u3 x1 v4).bind fun v5 => if (v5 &&& x2) = 0 then (k5 x0 x1 x2 x3 (x4 + 1)) else (k5 x0 x1 x2 (x3 ||| (1 <<< (x4 &&& 31))) (x4 + 1))))
def m_X3_reached_5 (h : dp_H)  : Nat → Nat → Nat → Int32 → Int32 → Int32 → Option Int32
  | 0 => fun _ _ _ _ _ => none
  | n + 1 => fun x0 x1 x2 x3 x4 => b_X3_reached_5 h (m_X3_reached_5 h  n) x0 x1 x2 x3 x4
def m_X3_reached (h : dp_H) (x0 : Nat) (x1 : Nat) (x2 : Int32) : Option Int32 := dp_ck h x0 3 (m_X3_reached_5 h 64 x0 x1 x2 0 0)
abbrev rm_X0_currentStage : Room := { frames := 3, cells := 0, slots := 0, locals := 71 }
def m_X0_currentStage (h : dp_H) (x0 : Nat) (x1 : Nat) : Option Int32 := dp_ck h x0 0 ((dp_gr h x0 0 0).bind fun v1 => (m_X5_size h v1).bind fun v2 => if v2 = 0 then (some 0) else ((dp_gr h x0 0 0).bind fun v3 => (m_X3_reached h x1 v3 1).bind fun v4 => if v4 = 0 then (some 1) else (some 2)))
abbrev rm_X1_way : Room := { frames := 0, cells := 0, slots := 0, locals := 0 }
def m_X1_way (h : dp_H) (x0 : Nat) : Option Int32 := dp_ck h x0 1 ((dp_gi h x0 1 5).bind fun v1 => some v1)
abbrev rm_X1_isNarrowerThan : Room := { frames := 0, cells := 0, slots := 0, locals := 0 }
def b_X1_isNarrowerThan_2 (h : dp_H) (k2 : Nat → Nat → Int32 → Option Int32) (x0 : Nat) (x1 : Nat) (x2 : Int32) : Option Int32 := (dp_gr h x0 1 1).bind fun v1 => (dp_ln h v1).bind fun v2 => if v2 ≤ x2 then (some 0) else ((dp_gr h x1 1 1).bind fun v3 => (dp_ln h v3).bind fun v4 => if v4 ≤ x2 then (some 0) else ((dp_gr h x0 1 1).bind fun v5 => (dp_ai false h v5 x2).bind fun v6 => (dp_gr h x1 1 1).bind fun v7 => (dp_ai false h v7 x2).bind fun v8 => if v6 = v8 then (k2 x0 x1 (x2 + 1)) else ((dp_gr h x0 1 1).bind fun v9 => (dp_ai false h v9 x2).bind fun v10 => (dp_gr h x1 1 1).bind fun v11 => (dp_ai false h v11 x2).bind fun v12 => if v12 ≤ v10 then (some 0) else (some 1))))
def m_X1_isNarrowerThan_2 (h : dp_H)  : Nat → Nat → Nat → Int32 → Option Int32
  | 0 => fun _ _ _ => none
  | n + 1 => fun x0 x1 x2 => b_X1_isNarrowerThan_2 h (m_X1_isNarrowerThan_2 h  n) x0 x1 x2
def m_X1_isNarrowerThan (h : dp_H) (x0 : Nat) (x1 : Nat) : Option Int32 := dp_ck h x0 1 (m_X1_isNarrowerThan_2 h 64 x0 x1 0)
abbrev rm_X3_winner : Room := { frames := 2, cells := 0, slots := 0, locals := 46 }
def b_X3_winner_44 (h : dp_H) (k8 : Nat → Nat → Int32 → Int32 → Option Nat → Int32 → Option Int32) (x0 : Nat) (x1 : Nat) (x2 : Int32) (x3 : Int32) (x4 : Option Nat) (x5 : Int32) (x6 : Nat) : Option Int32 := (m_X5_size h x1).bind fun v1 => (m_X1_reach h x6 x1 v1).bind fun v2 => if (v2 &&& 1) = 0 then (k8 x0 x1 x2 x3 x4 (x5 + 1)) else (dp_om x4 (k8 x0 x1 x2 x5 (some x6) (x5 + 1)) (fun u3 => (m_X1_isNarrowerThan h x6 u3).bind fun v4 => if v4 = 0 then (k8 x0 x1 x2 x3 (some u3) (x5 + 1)) else (k8 x0 x1 x2 x5 (some x6) (x5 + 1))))
def b_X3_winner_8 (h : dp_H) (k8 : Nat → Nat → Int32 → Int32 → Option Nat → Int32 → Option Int32) (x0 : Nat) (x1 : Nat) (x2 : Int32) (x3 : Int32) (x4 : Option Nat) (x5 : Int32) : Option Int32 := (dp_gi h x0 3 1).bind fun v1 => if v1 ≤ x5 then (some x3) else ((m_X3_at h x0 x5).bind fun v2 => dp_om v2 (k8 x0 x1 x2 x3 x4 (x5 + 1)) (fun u3 => if x2 = 0 then (b_X3_winner_44 h k8 x0 x1 x2 x3 x4 x5 u3) else ((m_X1_way h u3).bind fun v4 => if v4 = 9 then (b_X3_winner_44 h k8 x0 x1 x2 x3 x4 x5 u3) else (k8 x0 x1 x2 x3 x4 (x5 + 1)))))
def m_X3_winner_8 (h : dp_H)  : Nat → Nat → Nat → Int32 → Int32 → Option Nat → Int32 → Option Int32
  | 0 => fun _ _ _ _ _ _ => none
  | n + 1 => fun x0 x1 x2 x3 x4 x5 => b_X3_winner_8 h (m_X3_winner_8 h  n) x0 x1 x2 x3 x4 x5
def m_X3_winner (h : dp_H) (x0 : Nat) (x1 : Nat) (x2 : Int32) : Option Int32 := dp_ck h x0 3 (m_X3_winner_8 h 64 x0 x1 x2 (-1) none 0)
abbrev rm_X0_winner : Room := { frames := 3, cells := 0, slots := 0, locals := 72 }
def m_X0_winner (h : dp_H) (x0 : Nat) (x1 : Nat) : Option Int32 := dp_ck h x0 0 ((dp_gi h x0 0 2).bind fun v1 => if v1 = 2 then ((dp_gr h x0 0 0).bind fun v2 => (dp_gi h x0 0 3).bind fun v3 => if v3 = 4 then ((m_X3_winner h x1 v2 1).bind fun v5 => some v5) else ((m_X3_winner h x1 v2 0).bind fun v4 => some v4)) else (some (-1)))
abbrev rm_X0_goOnWaiting : Room := { frames := 4, cells := 0, slots := 0, locals := 92 }
def m_X0_goOnWaiting (h : dp_H) (x0 : Nat) (x1 : Nat) : Option dp_H := dp_ck h x0 0 ((dp_p h x0 0 2 (.inl 1)).bind fun h1 => (m_X0_currentStage h1 x0 x1).bind fun v2 => (m_X0_ticksOf h1 x0 v2).bind fun v3 => (dp_p h1 x0 0 4 (.inl v3)).bind fun h4 => some h4)
abbrev rm_X0_putUp : Room := { frames := 5, cells := 0, slots := 0, locals := 113 }
def m_X0_putUp (h : dp_H) (x0 : Nat) (x1 : Nat) : Option dp_H := dp_ck h x0 0 ((dp_gi h x0 0 5).bind fun v1 => (dp_p h x0 0 5 (.inl (v1 + 1))).bind fun h2 => (m_X0_goOnWaiting h2 x0 x1).bind fun h3 => some h3)
abbrev rm_X5_clear : Room := { frames := 0, cells := 0, slots := 0, locals := 0 }
def m_X5_clear (h : dp_H) (x0 : Nat) : Option dp_H := dp_ck h x0 5 ((dp_p h x0 5 1 (.inl 0)).bind fun h1 => some h1)
abbrev rm_X0_putDown : Room := { frames := 1, cells := 0, slots := 0, locals := 20 }
def m_X0_putDown (h : dp_H) (x0 : Nat) : Option dp_H := dp_ck h x0 0 ((dp_gr h x0 0 0).bind fun v1 => (m_X5_clear h v1).bind fun h2 => (dp_p h2 x0 0 3 (.inl 0)).bind fun h3 => (dp_p h3 x0 0 4 (.inl 0)).bind fun h4 => (dp_p h4 x0 0 2 (.inl 0)).bind fun h5 => some h5)
abbrev rm_X5_append : Room := { frames := 0, cells := 0, slots := 0, locals := 0 }
def m_X5_append (h : dp_H) (x0 : Nat) (x1 : Int32) : Option (dp_H × Int32) := dp_ck h x0 5 ((dp_gi h x0 5 1).bind fun v1 => if v1 < 0 then (some (h, 0)) else ((dp_gi h x0 5 1).bind fun v2 => (dp_gr h x0 5 0).bind fun v3 => (dp_ln h v3).bind fun v4 => if v2 < v4 then ((dp_gr h x0 5 0).bind fun v5 => (dp_gi h x0 5 1).bind fun v6 => (dp_si false h v5 v6 x1).bind fun h7 => (dp_gi h7 x0 5 1).bind fun v8 => (dp_p h7 x0 5 1 (.inl (v8 + 1))).bind fun h9 => some (h9, 1)) else (some (h, 0))))
abbrev rm_X0_settle : Room := { frames := 3, cells := 0, slots := 0, locals := 71 }
def m_X0_settle (h : dp_H) (x0 : Nat) (x1 : Int32) (x2 : Nat) : Option dp_H := dp_ck h x0 0 ((dp_p h x0 0 3 (.inl x1)).bind fun h1 => (dp_p h1 x0 0 4 (.inl 0)).bind fun h2 => (dp_gr h2 x0 0 0).bind fun v3 => (m_X3_reached h2 x2 v3 1).bind fun v4 => if v4 = 0 then ((dp_p h2 x0 0 2 (.inl 3)).bind fun h5 => (dp_gi h5 x0 0 7).bind fun v6 => (dp_p h5 x0 0 7 (.inl (v6 + 1))).bind fun h7 => some h7) else ((dp_p h2 x0 0 2 (.inl 2)).bind fun h8 => (dp_gi h8 x0 0 6).bind fun v9 => (dp_p h8 x0 0 6 (.inl (v9 + 1))).bind fun h10 => some h10))
abbrev rm_X0_take : Room := { frames := 5, cells := 0, slots := 0, locals := 113 }
def b_X0_take_70  (h : dp_H) (x0 : Nat) (x2 : Nat) (x3 : Int32) (y0 : Int32) : Option dp_H := if x3 = 0 then (if y0 = 0 then ((m_X0_goOnWaiting h x0 x2).bind fun h1 => some h1) else ((m_X0_settle h x0 1 x2).bind fun h2 => some h2)) else ((m_X0_settle h x0 4 x2).bind fun h3 => some h3)
def b_X0_take_40  (h : dp_H) (x0 : Nat) (x2 : Nat) (y0 : Int32) : Option dp_H := (dp_gr h x0 0 0).bind fun v1 => (m_X5_size h v1).bind fun v2 => if 10 ≤ v2 then (b_X0_take_70 h x0 x2 y0 1) else ((dp_gr h x0 0 0).bind fun v3 => (m_X3_reached h x2 v3 2).bind fun v4 => if v4 = 0 then (b_X0_take_70 h x0 x2 y0 1) else (b_X0_take_70 h x0 x2 y0 0))
def m_X0_take (h : dp_H) (x0 : Nat) (x1 : Int32) (x2 : Nat) : Option dp_H := dp_ck h x0 0 ((dp_gr h x0 0 0).bind fun v1 => dp_b2 (m_X5_append h v1 x1) fun h2 v3 => if v3 = 0 then (some h2) else ((dp_gi h2 x0 0 8).bind fun v4 => (dp_p h2 x0 0 8 (.inl (v4 + 1))).bind fun h5 => (dp_gr h5 x0 0 0).bind fun v6 => (m_X3_winner h5 x2 v6 1).bind fun v7 => if v7 = (-1) then (b_X0_take_40 h5 x0 x2 0) else (b_X0_take_40 h5 x0 x2 1)))
abbrev rm_X0_letTicksGo : Room := { frames := 4, cells := 0, slots := 0, locals := 93 }
def m_X0_letTicksGo (h : dp_H) (x0 : Nat) (x1 : Int32) (x2 : Nat) : Option dp_H := dp_ck h x0 0 ((dp_gi h x0 0 4).bind fun v1 => if v1 ≤ x1 then ((m_X0_settle h x0 2 x2).bind fun h2 => some h2) else ((dp_gi h x0 0 4).bind fun v3 => (dp_p h x0 0 4 (.inl (v3 - x1))).bind fun h4 => some h4))
abbrev rm_X1_init : Room := { frames := 2, cells := 4, slots := 242, locals := 42 }
def m_X1_init (h : dp_H) (x0 : Nat) : Option dp_H := dp_ck h x0 1 ((dp_na false h 10).bind fun h1 => (dp_p h1 x0 1 0 (.inr (.inr (some (List.length h))))).bind fun h2 => (dp_na false h2 10).bind fun h3 => (dp_p h3 x0 1 1 (.inr (.inr (some (List.length h2))))).bind fun h4 => (dp_nw h4 5 bl_X5).bind fun h5 => (m_X5_init h5 (List.length h4) 4).bind fun h6 => (dp_p h6 x0 1 2 (.inr (.inr (some (List.length h4))))).bind fun h7 => some h7)
abbrev rm_X1_places : Room := { frames := 0, cells := 0, slots := 0, locals := 0 }
def m_X1_places (h : dp_H) (x0 : Nat) : Option Int32 := dp_ck h x0 1 ((dp_gi h x0 1 3).bind fun v1 => some v1)
abbrev rm_X1_isOpen : Room := { frames := 0, cells := 0, slots := 0, locals := 0 }
def m_X1_isOpen (h : dp_H) (x0 : Nat) : Option Int32 := dp_ck h x0 1 ((dp_gi h x0 1 4).bind fun v1 => dp_b v1 (some v1))
abbrev rm_X1_dropped : Room := { frames := 0, cells := 0, slots := 0, locals := 0 }
def m_X1_dropped (h : dp_H) (x0 : Nat) : Option Int32 := dp_ck h x0 1 ((dp_gi h x0 1 6).bind fun v1 => some v1)
abbrev rm_X1_ahead : Room := { frames := 0, cells := 0, slots := 0, locals := 0 }
def m_X1_ahead (h : dp_H) (x0 : Nat) : Option Nat := dp_ck h x0 1 ((dp_gr h x0 1 2).bind fun v1 => some v1)
abbrev rm_X1_digitsAt : Room := { frames := 0, cells := 0, slots := 0, locals := 0 }
def m_X1_digitsAt (h : dp_H) (x0 : Nat) (x1 : Int32) : Option Int32 := dp_ck h x0 1 (if x1 < 0 then (some 0) else ((dp_gr h x0 1 0).bind fun v1 => (dp_ln h v1).bind fun v2 => if v2 ≤ x1 then (some 0) else ((dp_gr h x0 1 0).bind fun v3 => (dp_ai false h v3 x1).bind fun v4 => some v4)))
abbrev rm_X1_setFrom : Room := { frames := 1, cells := 0, slots := 0, locals := 21 }
def b_X1_setFrom_7 (k7 : dp_H → Nat → Int32 → Int32 → Int32 → Option dp_H) (h : dp_H) (x0 : Nat) (x2 : Int32) (x3 : Int32) (x4 : Int32) : Option dp_H := (dp_gr h x0 1 0).bind fun v1 => (dp_ln h v1).bind fun v2 => if v2 ≤ x4 then (some h) else ((dp_gr h x0 1 1).bind fun v3 => (dp_ln h v3).bind fun v4 => if v4 ≤ x4 then (some h) else ((dp_gr h x0 1 0).bind fun v5 => (dp_si false h v5 x4 x2).bind fun h6 => (dp_gr h6 x0 1 1).bind fun v7 => (dp_si false h6 v7 x4 x3).bind fun h8 => k7 h8 x0 x2 x3 (x4 + 1)))
def m_X1_setFrom_7  : Nat → dp_H → Nat → Int32 → Int32 → Int32 → Option dp_H
  | 0 => fun _ _ _ _ _ => none
  | n + 1 => fun h x0 x2 x3 x4 => b_X1_setFrom_7 (m_X1_setFrom_7  n) h x0 x2 x3 x4
def m_X1_setFrom (h : dp_H) (x0 : Nat) (x1 : Int32) (x2 : Int32) (x3 : Int32) : Option dp_H := dp_ck h x0 1 (m_X1_setFrom_7 64 h x0 x2 x3 (if x1 < 0 then 0 else x1))
abbrev rm_X1_clear : Room := { frames := 2, cells := 0, slots := 0, locals := 45 }
def m_X1_clear (h : dp_H) (x0 : Nat) : Option dp_H := dp_ck h x0 1 ((m_X1_setFrom h x0 0 0 0).bind fun h1 => (dp_gr h1 x0 1 2).bind fun v2 => (m_X5_clear h1 v2).bind fun h3 => (dp_p h3 x0 1 3 (.inl 0)).bind fun h4 => (dp_p h4 x0 1 4 (.inl 0)).bind fun h5 => (dp_p h5 x0 1 5 (.inl 0)).bind fun h6 => (dp_p h6 x0 1 6 (.inl 0)).bind fun h7 => some h7)
abbrev rm_X1_hasRoom : Room := { frames := 0, cells := 0, slots := 0, locals := 0 }
def m_X1_hasRoom (h : dp_H) (x0 : Nat) : Option Int32 := dp_ck h x0 1 ((dp_gi h x0 1 3).bind fun v1 => if v1 < 0 then (some 0) else ((dp_gi h x0 1 3).bind fun v2 => if 8 ≤ v2 then (some 0) else (some 1)))
abbrev rm_X1_appendPlace : Room := { frames := 1, cells := 0, slots := 0, locals := 21 }
def b_X1_appendPlace_76  (h : dp_H) (x0 : Nat) (x3 : Int32) : Option dp_H := (dp_gr h x0 1 0).bind fun v1 => (dp_gi h x0 1 3).bind fun v2 => (dp_si false h v1 v2 x3).bind fun h3 => (dp_gr h3 x0 1 1).bind fun v4 => (dp_gi h3 x0 1 3).bind fun v5 => (m_J6_bitCount_0f7a4 h3 x3).bind fun v6 => (dp_si false h3 v4 v5 v6).bind fun h7 => (dp_gi h7 x0 1 3).bind fun v8 => (dp_p h7 x0 1 3 (.inl (v8 + 1))).bind fun h9 => some h9
def b_X1_appendPlace_50 (k50 : dp_H → Nat → Int32 → Int32 → Int32 → Option dp_H) (h : dp_H) (x0 : Nat) (x2 : Int32) (x3 : Int32) (x4 : Int32) : Option dp_H := if x2 < x4 then (b_X1_appendPlace_76 h x0 x3) else (if 9 < x4 then (b_X1_appendPlace_76 h x0 x3) else (k50 h x0 x2 (x3 ||| (1 <<< (x4 &&& 31))) (x4 + 1)))
def m_X1_appendPlace_50  : Nat → dp_H → Nat → Int32 → Int32 → Int32 → Option dp_H
  | 0 => fun _ _ _ _ _ => none
  | n + 1 => fun h x0 x2 x3 x4 => b_X1_appendPlace_50 (m_X1_appendPlace_50  n) h x0 x2 x3 x4
def m_X1_appendPlace (h : dp_H) (x0 : Nat) (x1 : Int32) (x2 : Int32) : Option dp_H := dp_ck h x0 1 ((dp_gi h x0 1 3).bind fun v1 => if v1 < 0 then (some h) else ((dp_gi h x0 1 3).bind fun v2 => if 8 ≤ v2 then (some h) else ((dp_gi h x0 1 3).bind fun v3 => (dp_gr h x0 1 0).bind fun v4 => (dp_ln h v4).bind fun v5 => if v5 ≤ v3 then (some h) else ((dp_gi h x0 1 3).bind fun v6 => (dp_gr h x0 1 1).bind fun v7 => (dp_ln h v7).bind fun v8 => if v6 < v8 then (m_X1_appendPlace_50 64 h x0 x2 0 (if x1 < 0 then 0 else x1)) else (some h)))))
abbrev rm_X1_makeOpen : Room := { frames := 2, cells := 0, slots := 0, locals := 45 }
def m_X1_makeOpen (h : dp_H) (x0 : Nat) : Option dp_H := dp_ck h x0 1 ((dp_p h x0 1 4 (.inl 1)).bind fun h1 => (dp_gi h1 x0 1 3).bind fun v2 => (m_X1_setFrom h1 x0 v2 1023 11).bind fun h3 => some h3)
abbrev rm_X1_setWay : Room := { frames := 0, cells := 0, slots := 0, locals := 0 }
def m_X1_setWay (h : dp_H) (x0 : Nat) (x1 : Int32) : Option dp_H := dp_ck h x0 1 ((dp_p h x0 1 5 (.inl x1)).bind fun h1 => some h1)
abbrev rm_X1_setDropped : Room := { frames := 0, cells := 0, slots := 0, locals := 0 }
def m_X1_setDropped (h : dp_H) (x0 : Nat) (x1 : Int32) : Option dp_H := dp_ck h x0 1 ((dp_p h x0 1 6 (.inl x1)).bind fun h1 => some h1)
abbrev rm_X5_copyFrom : Room := { frames := 1, cells := 0, slots := 0, locals := 22 }
def b_X5_copyFrom_6 (k6 : dp_H → Nat → Nat → Int32 → Option dp_H) (h : dp_H) (x0 : Nat) (x1 : Nat) (x2 : Int32) : Option dp_H := (m_X5_size h x1).bind fun v1 => if v1 ≤ x2 then (some h) else ((m_X5_at h x1 x2).bind fun v2 => dp_b2 (m_X5_append h x0 v2) fun h3 v4 => k6 h3 x0 x1 (x2 + 1))
def m_X5_copyFrom_6  : Nat → dp_H → Nat → Nat → Int32 → Option dp_H
  | 0 => fun _ _ _ _ => none
  | n + 1 => fun h x0 x1 x2 => b_X5_copyFrom_6 (m_X5_copyFrom_6  n) h x0 x1 x2
def m_X5_copyFrom (h : dp_H) (x0 : Nat) (x1 : Nat) : Option dp_H := dp_ck h x0 5 ((m_X5_clear h x0).bind fun h1 => m_X5_copyFrom_6 64 h1 x0 x1 0)
abbrev rm_X1_copyFrom : Room := { frames := 2, cells := 0, slots := 0, locals := 44 }
def b_X1_copyFrom_76  (h : dp_H) (x0 : Nat) (x1 : Nat) : Option dp_H := (dp_gr h x0 1 2).bind fun v1 => (dp_gr h x1 1 2).bind fun v2 => (m_X5_copyFrom h v1 v2).bind fun h3 => (dp_gi h3 x1 1 3).bind fun v4 => (dp_p h3 x0 1 3 (.inl v4)).bind fun h5 => (dp_gi h5 x1 1 4).bind fun v6 => dp_b v6 ((dp_p h5 x0 1 4 (.inl v6)).bind fun h7 => (dp_gi h7 x1 1 5).bind fun v8 => (dp_p h7 x0 1 5 (.inl v8)).bind fun h9 => (dp_gi h9 x1 1 6).bind fun v10 => (dp_p h9 x0 1 6 (.inl v10)).bind fun h11 => some h11)
def b_X1_copyFrom_40 (k40 : dp_H → Nat → Nat → Int32 → Option dp_H) (h : dp_H) (x0 : Nat) (x1 : Nat) (x2 : Int32) : Option dp_H := (dp_gr h x0 1 1).bind fun v1 => (dp_ln h v1).bind fun v2 => if v2 ≤ x2 then (b_X1_copyFrom_76 h x0 x1) else ((dp_gr h x1 1 1).bind fun v3 => (dp_ln h v3).bind fun v4 => if v4 ≤ x2 then (b_X1_copyFrom_76 h x0 x1) else ((dp_gr h x0 1 1).bind fun v5 => (dp_gr h x1 1 1).bind fun v6 => (dp_ai false h v6 x2).bind fun v7 => (dp_si false h v5 x2 v7).bind fun h8 => k40 h8 x0 x1 (x2 + 1)))
def m_X1_copyFrom_40  : Nat → dp_H → Nat → Nat → Int32 → Option dp_H
  | 0 => fun _ _ _ _ => none
  | n + 1 => fun h x0 x1 x2 => b_X1_copyFrom_40 (m_X1_copyFrom_40  n) h x0 x1 x2
def b_X1_copyFrom_2 (k2 : dp_H → Nat → Nat → Int32 → Option dp_H) (h : dp_H) (x0 : Nat) (x1 : Nat) (x2 : Int32) : Option dp_H := (dp_gr h x0 1 0).bind fun v1 => (dp_ln h v1).bind fun v2 => if v2 ≤ x2 then (m_X1_copyFrom_40 64 h x0 x1 0) else ((dp_gr h x1 1 0).bind fun v3 => (dp_ln h v3).bind fun v4 => if v4 ≤ x2 then (m_X1_copyFrom_40 64 h x0 x1 0) else ((dp_gr h x0 1 0).bind fun v5 => (dp_gr h x1 1 0).bind fun v6 => (dp_ai false h v6 x2).bind fun v7 => (dp_si false h v5 x2 v7).bind fun h8 => k2 h8 x0 x1 (x2 + 1)))
def m_X1_copyFrom_2  : Nat → dp_H → Nat → Nat → Int32 → Option dp_H
  | 0 => fun _ _ _ _ => none
  | n + 1 => fun h x0 x1 x2 => b_X1_copyFrom_2 (m_X1_copyFrom_2  n) h x0 x1 x2
def m_X1_copyFrom (h : dp_H) (x0 : Nat) (x1 : Nat) : Option dp_H := dp_ck h x0 1 (m_X1_copyFrom_2 64 h x0 x1 0)
abbrev rm_X5_isLike : Room := { frames := 0, cells := 0, slots := 0, locals := 0 }
def b_X5_isLike_15 (h : dp_H) (k15 : Nat → Nat → Int32 → Option Int32) (x0 : Nat) (x1 : Nat) (x2 : Int32) : Option Int32 := (dp_gi h x0 5 1).bind fun v1 => if v1 ≤ x2 then (some 1) else ((dp_gr h x0 5 0).bind fun v2 => (dp_ln h v2).bind fun v3 => if v3 ≤ x2 then (some 1) else ((dp_gr h x1 5 0).bind fun v4 => (dp_ln h v4).bind fun v5 => if v5 ≤ x2 then (some 1) else ((dp_gr h x0 5 0).bind fun v6 => (dp_ai false h v6 x2).bind fun v7 => (dp_gr h x1 5 0).bind fun v8 => (dp_ai false h v8 x2).bind fun v9 => if v7 = v9 then (k15 x0 x1 (x2 + 1)) else (some 0))))
def m_X5_isLike_15 (h : dp_H)  : Nat → Nat → Nat → Int32 → Option Int32
  | 0 => fun _ _ _ => none
  | n + 1 => fun x0 x1 x2 => b_X5_isLike_15 h (m_X5_isLike_15 h  n) x0 x1 x2
def m_X5_isLike (h : dp_H) (x0 : Nat) (x1 : Nat) : Option Int32 := dp_ck h x0 5 ((dp_gi h x0 5 1).bind fun v1 => (dp_gi h x1 5 1).bind fun v2 => if v1 = v2 then (m_X5_isLike_15 h 64 x0 x1 0) else (some 0))
abbrev rm_X1_doesLike : Room := { frames := 1, cells := 0, slots := 0, locals := 22 }
def m_X1_doesLike (h : dp_H) (x0 : Nat) (x1 : Nat) : Option Int32 := dp_ck h x0 1 ((dp_gi h x0 1 5).bind fun v1 => (dp_gi h x1 1 5).bind fun v2 => if v1 = v2 then ((dp_gi h x0 1 6).bind fun v3 => (dp_gi h x1 1 6).bind fun v4 => if v3 = v4 then ((dp_gr h x0 1 2).bind fun v5 => (dp_gr h x1 1 2).bind fun v6 => (m_X5_isLike h v5 v6).bind fun v7 => if v7 = 0 then (some 0) else (some 1)) else (some 0)) else (some 0))
abbrev rm_X1_sharesRowWith : Room := { frames := 1, cells := 0, slots := 0, locals := 21 }
def b_X1_sharesRowWith_2 (h : dp_H) (k2 : Nat → Nat → Int32 → Option Int32) (x0 : Nat) (x1 : Nat) (x2 : Int32) : Option Int32 := (dp_gi h x0 1 3).bind fun v1 => if v1 ≤ x2 then (some 1) else ((m_X1_digitsAt h x0 x2).bind fun v2 => (m_X1_digitsAt h x1 x2).bind fun v3 => if (v2 &&& v3) = 0 then (some 0) else (k2 x0 x1 (x2 + 1)))
def m_X1_sharesRowWith_2 (h : dp_H)  : Nat → Nat → Nat → Int32 → Option Int32
  | 0 => fun _ _ _ => none
  | n + 1 => fun x0 x1 x2 => b_X1_sharesRowWith_2 h (m_X1_sharesRowWith_2 h  n) x0 x1 x2
def m_X1_sharesRowWith (h : dp_H) (x0 : Nat) (x1 : Nat) : Option Int32 := dp_ck h x0 1 (m_X1_sharesRowWith_2 h 64 x0 x1 0)
abbrev rm_X1_clashesWith : Room := { frames := 2, cells := 0, slots := 0, locals := 43 }
def m_X1_clashesWith (h : dp_H) (x0 : Nat) (x1 : Nat) : Option Int32 := dp_ck h x0 1 ((m_X1_isNarrowerThan h x0 x1).bind fun v1 => if v1 = 0 then ((m_X1_isNarrowerThan h x1 x0).bind fun v2 => if v2 = 0 then ((m_X1_sharesRowWith h x0 x1).bind fun v3 => if v3 = 0 then (some 0) else ((m_X1_doesLike h x0 x1).bind fun v4 => if v4 = 0 then (some 1) else (some 0))) else (some 0)) else (some 0))
abbrev rm_X2_init : Room := { frames := 3, cells := 5, slots := 249, locals := 62 }
def m_X2_init (h : dp_H) (x0 : Nat) : Option dp_H := dp_ck h x0 2 ((dp_nw h 1 bl_X1).bind fun h1 => (m_X1_init h1 (List.length h)).bind fun h2 => (dp_p h2 x0 2 0 (.inr (.inr (some (List.length h))))).bind fun h3 => some h3)
abbrev rm_X2_draft : Room := { frames := 0, cells := 0, slots := 0, locals := 0 }
def m_X2_draft (h : dp_H) (x0 : Nat) : Option Nat := dp_ck h x0 2 ((dp_gr h x0 2 0).bind fun v1 => some v1)
abbrev rm_X2_isWhole : Room := { frames := 0, cells := 0, slots := 0, locals := 0 }
def m_X2_isWhole (h : dp_H) (x0 : Nat) : Option Int32 := dp_ck h x0 2 ((dp_gi h x0 2 1).bind fun v1 => if v1 = 9 then (some 1) else (some 0))
abbrev rm_X6_isFigure : Room := { frames := 0, cells := 0, slots := 0, locals := 0 }
def m_X6_isFigure (h : dp_H) (x0 : Int32) : Option Int32 := if x0 < 48 then (some 0) else (if 57 < x0 then (some 0) else (some 1))
abbrev rm_X2_takePlace : Room := { frames := 2, cells := 0, slots := 0, locals := 45 }
def m_X2_takePlace (h : dp_H) (x0 : Nat) (x1 : Int32) : Option (dp_H × Int32) := dp_ck h x0 2 (if x1 = 91 then ((dp_p h x0 2 1 (.inl 1)).bind fun h8 => some (h8, 1)) else (if x1 = 78 then ((dp_gr h x0 2 0).bind fun v6 => (m_X1_appendPlace h v6 2 9).bind fun h7 => some (h7, 1)) else (if x1 = 88 then ((dp_gr h x0 2 0).bind fun v4 => (m_X1_appendPlace h v4 0 9).bind fun h5 => some (h5, 1)) else ((m_X6_isFigure h x1).bind fun v1 => if v1 = 0 then (some (h, 0)) else ((dp_gr h x0 2 0).bind fun v2 => (m_X1_appendPlace h v2 (x1 - 48) (x1 - 48)).bind fun h3 => some (h3, 1))))))
abbrev rm_X2_takePlaceOrTail : Room := { frames := 3, cells := 0, slots := 0, locals := 66 }
def b_X2_takePlaceOrTail_54  (h : dp_H) (x0 : Nat) (x1 : Int32) : Option (dp_H × Int32) := (dp_gr h x0 2 0).bind fun v1 => (m_X1_hasRoom h v1).bind fun v2 => if v2 = 0 then (some (h, 0)) else (dp_b2 (m_X2_takePlace h x0 x1) fun h3 v4 => if v4 = 0 then (some (h3, 0)) else (some (h3, 1)))
def m_X2_takePlaceOrTail (h : dp_H) (x0 : Nat) (x1 : Int32) : Option (dp_H × Int32) := dp_ck h x0 2 ((dp_gr h x0 2 0).bind fun v1 => (m_X1_places h v1).bind fun v2 => if v2 ≤ 0 then ((dp_gr h x0 2 0).bind fun v3 => (m_X1_places h v3).bind fun v4 => if v4 ≤ 0 then (b_X2_takePlaceOrTail_54 h x0 x1) else (if x1 = 61 then ((dp_p h x0 2 1 (.inl 6)).bind fun h5 => some (h5, 1)) else (b_X2_takePlaceOrTail_54 h x0 x1))) else (if x1 = 46 then ((dp_gr h x0 2 0).bind fun v9 => (m_X1_makeOpen h v9).bind fun h10 => (dp_p h10 x0 2 1 (.inl 5)).bind fun h11 => some (h11, 1)) else ((dp_gr h x0 2 0).bind fun v6 => (m_X1_places h v6).bind fun v7 => if v7 ≤ 0 then (b_X2_takePlaceOrTail_54 h x0 x1) else (if x1 = 61 then ((dp_p h x0 2 1 (.inl 6)).bind fun h8 => some (h8, 1)) else (b_X2_takePlaceOrTail_54 h x0 x1)))))
abbrev rm_X2_takeLow : Room := { frames := 1, cells := 0, slots := 0, locals := 20 }
def m_X2_takeLow (h : dp_H) (x0 : Nat) (x1 : Int32) : Option (dp_H × Int32) := dp_ck h x0 2 ((m_X6_isFigure h x1).bind fun v1 => if v1 = 0 then (some (h, 0)) else (if x1 = 57 then (some (h, 0)) else ((dp_p h x0 2 2 (.inl (x1 - 48))).bind fun h2 => (dp_p h2 x0 2 1 (.inl 2)).bind fun h3 => some (h3, 1))))
abbrev rm_X2_takeSign : Room := { frames := 0, cells := 0, slots := 0, locals := 0 }
def m_X2_takeSign (h : dp_H) (x0 : Nat) (x1 : Int32) (x2 : Int32) (x3 : Int32) : Option (dp_H × Int32) := dp_ck h x0 2 (if x1 = x2 then ((dp_p h x0 2 1 (.inl x3)).bind fun h1 => some (h1, 1)) else (some (h, 0)))
abbrev rm_X2_takeHigh : Room := { frames := 1, cells := 0, slots := 0, locals := 20 }
def m_X2_takeHigh (h : dp_H) (x0 : Nat) (x1 : Int32) : Option (dp_H × Int32) := dp_ck h x0 2 ((m_X6_isFigure h x1).bind fun v1 => if v1 = 0 then (some (h, 0)) else ((dp_gi h x0 2 2).bind fun v2 => if v2 < (x1 - 48) then ((dp_p h x0 2 3 (.inl (x1 - 48))).bind fun h3 => (dp_p h3 x0 2 1 (.inl 4)).bind fun h4 => some (h4, 1)) else (some (h, 0))))
abbrev rm_X2_takeBracket : Room := { frames := 2, cells := 0, slots := 0, locals := 45 }
def m_X2_takeBracket (h : dp_H) (x0 : Nat) (x1 : Int32) : Option (dp_H × Int32) := dp_ck h x0 2 (if x1 = 93 then ((dp_gr h x0 2 0).bind fun v1 => (dp_gi h x0 2 2).bind fun v2 => (dp_gi h x0 2 3).bind fun v3 => (m_X1_appendPlace h v1 v2 v3).bind fun h4 => (dp_p h4 x0 2 1 (.inl 0)).bind fun h5 => some (h5, 1)) else (some (h, 0)))
abbrev rm_X2_wayOf : Room := { frames := 0, cells := 0, slots := 0, locals := 0 }
def m_X2_wayOf (h : dp_H) (x0 : Int32) : Option Int32 := if x0 < 97 then (if x0 = 33 then (some 9) else if x0 = 42 then (some 10) else if x0 = 45 then (some 8) else (some (-1))) else (if 104 < x0 then (if x0 = 33 then (some 9) else if x0 = 42 then (some 10) else if x0 = 45 then (some 8) else (some (-1))) else (some (x0 - 97)))
abbrev rm_X2_takeWay : Room := { frames := 1, cells := 0, slots := 0, locals := 21 }
def m_X2_takeWay (h : dp_H) (x0 : Nat) (x1 : Int32) : Option (dp_H × Int32) := dp_ck h x0 2 ((m_X2_wayOf h x1).bind fun v1 => if v1 = (-1) then (some (h, 0)) else ((dp_gr h x0 2 0).bind fun v2 => (m_X1_setWay h v2 v1).bind fun h3 => (dp_p h3 x0 2 1 (.inl 7)).bind fun h4 => some (h4, 1)))
abbrev rm_X2_takeDrop : Room := { frames := 1, cells := 0, slots := 0, locals := 21 }
def m_X2_takeDrop (h : dp_H) (x0 : Nat) (x1 : Int32) : Option (dp_H × Int32) := dp_ck h x0 2 ((m_X6_isFigure h x1).bind fun v1 => if v1 = 0 then (some (h, 0)) else ((dp_gr h x0 2 0).bind fun v2 => (m_X1_places h v2).bind fun v3 => if (x1 - 48) ≤ v3 then ((dp_gr h x0 2 0).bind fun v4 => (m_X1_setDropped h v4 (x1 - 48)).bind fun h5 => (dp_p h5 x0 2 1 (.inl 9)).bind fun h6 => some (h6, 1)) else (some (h, 0))))
abbrev rm_X2_takeAhead : Room := { frames := 1, cells := 0, slots := 0, locals := 21 }
def m_X2_takeAhead (h : dp_H) (x0 : Nat) (x1 : Int32) : Option (dp_H × Int32) := dp_ck h x0 2 ((m_X6_isFigure h x1).bind fun v1 => if v1 = 0 then (some (h, 0)) else ((dp_gr h x0 2 0).bind fun v2 => (m_X1_ahead h v2).bind fun v3 => dp_b2 (m_X5_append h v3 (x1 - 48)) fun h4 v5 => if v5 = 0 then (some (h4, 0)) else (some (h4, 1))))
abbrev rm_X2_take : Room := { frames := 4, cells := 0, slots := 0, locals := 87 }
def m_X2_take (h : dp_H) (x0 : Nat) (x1 : Int32) : Option (dp_H × Int32) := dp_ck h x0 2 ((dp_gi h x0 2 1).bind fun v1 => if v1 = 0 then (dp_b2 (m_X2_takePlaceOrTail h x0 x1) fun h2 v3 => dp_b v3 (some (h2, v3))) else if v1 = 1 then (dp_b2 (m_X2_takeLow h x0 x1) fun h4 v5 => dp_b v5 (some (h4, v5))) else if v1 = 2 then (dp_b2 (m_X2_takeSign h x0 x1 45 3) fun h6 v7 => dp_b v7 (some (h6, v7))) else if v1 = 3 then (dp_b2 (m_X2_takeHigh h x0 x1) fun h8 v9 => dp_b v9 (some (h8, v9))) else if v1 = 4 then (dp_b2 (m_X2_takeBracket h x0 x1) fun h10 v11 => dp_b v11 (some (h10, v11))) else if v1 = 5 then (dp_b2 (m_X2_takeSign h x0 x1 61 6) fun h12 v13 => dp_b v13 (some (h12, v13))) else if v1 = 6 then (dp_b2 (m_X2_takeWay h x0 x1) fun h14 v15 => dp_b v15 (some (h14, v15))) else if v1 = 7 then (dp_b2 (m_X2_takeSign h x0 x1 58 8) fun h16 v17 => dp_b v17 (some (h16, v17))) else if v1 = 8 then (dp_b2 (m_X2_takeDrop h x0 x1) fun h18 v19 => dp_b v19 (some (h18, v19))) else (dp_b2 (m_X2_takeAhead h x0 x1) fun h20 v21 => dp_b v21 (some (h20, v21))))
abbrev rm_X2_scan : Room := { frames := 5, cells := 0, slots := 0, locals := 108 }
def b_X2_scan_14 (k14 : dp_H → Nat → Nat → Int32 → Option (dp_H × Int32)) (h : dp_H) (x0 : Nat) (x1 : Nat) (x2 : Int32) : Option (dp_H × Int32) := (m_X5_size h x1).bind fun v1 => if v1 ≤ x2 then ((m_X5_size h x1).bind fun v2 => some (h, v2)) else ((m_X5_at h x1 x2).bind fun v3 => dp_b2 (m_X2_take h x0 v3) fun h4 v5 => if v5 = 0 then (some (h4, x2)) else (k14 h4 x0 x1 (x2 + 1)))
def m_X2_scan_14  : Nat → dp_H → Nat → Nat → Int32 → Option (dp_H × Int32)
  | 0 => fun _ _ _ _ => none
  | n + 1 => fun h x0 x1 x2 => b_X2_scan_14 (m_X2_scan_14  n) h x0 x1 x2
def m_X2_scan (h : dp_H) (x0 : Nat) (x1 : Nat) : Option (dp_H × Int32) := dp_ck h x0 2 ((dp_gr h x0 2 0).bind fun v1 => (m_X1_clear h v1).bind fun h2 => (dp_p h2 x0 2 1 (.inl 0)).bind fun h3 => m_X2_scan_14 64 h3 x0 x1 0)
abbrev rm_X3_init : Room := { frames := 3, cells := 321, slots := 16016, locals := 62 }
def b_X3_init_15 (k15 : dp_H → Nat → Int32 → Option dp_H) (h : dp_H) (x0 : Nat) (x1 : Int32) : Option dp_H := (dp_gr h x0 3 0).bind fun v1 => (dp_ln h v1).bind fun v2 => if v2 ≤ x1 then (some h) else ((dp_gr h x0 3 0).bind fun v3 => (dp_nw h 1 bl_X1).bind fun h4 => (m_X1_init h4 (List.length h)).bind fun h5 => (dp_sr h5 v3 x1 (List.length h)).bind fun h6 => k15 h6 x0 (x1 + 1))
def m_X3_init_15  : Nat → dp_H → Nat → Int32 → Option dp_H
  | 0 => fun _ _ _ => none
  | n + 1 => fun h x0 x1 => b_X3_init_15 (m_X3_init_15  n) h x0 x1
def m_X3_init (h : dp_H) (x0 : Nat) : Option dp_H := dp_ck h x0 3 ((dp_nr h 10).bind fun h1 => (dp_p h1 x0 3 0 (.inr (.inr (some (List.length h))))).bind fun h2 => m_X3_init_15 64 h2 x0 0)
abbrev rm_X3_size : Room := { frames := 0, cells := 0, slots := 0, locals := 0 }
def m_X3_size (h : dp_H) (x0 : Nat) : Option Int32 := dp_ck h x0 3 ((dp_gi h x0 3 1).bind fun v1 => some v1)
abbrev rm_X3_append : Room := { frames := 3, cells := 0, slots := 0, locals := 66 }
def m_X3_append (h : dp_H) (x0 : Nat) (x1 : Nat) : Option (dp_H × Int32) := dp_ck h x0 3 ((dp_gi h x0 3 1).bind fun v1 => if v1 < 0 then (some (h, 0)) else ((dp_gi h x0 3 1).bind fun v2 => (dp_gr h x0 3 0).bind fun v3 => (dp_ln h v3).bind fun v4 => if v2 < v4 then ((dp_gr h x0 3 0).bind fun v5 => (dp_gi h x0 3 1).bind fun v6 => (dp_ar h v5 v6).bind fun v7 => (m_X1_copyFrom h v7 x1).bind fun h8 => (dp_gi h8 x0 3 1).bind fun v9 => (dp_p h8 x0 3 1 (.inl (v9 + 1))).bind fun h10 => some (h10, 1)) else (some (h, 0))))
abbrev rm_X3_remove : Room := { frames := 0, cells := 0, slots := 0, locals := 0 }
def b_X3_remove_34 (k34 : dp_H → Nat → Nat → Int32 → Option dp_H) (h : dp_H) (x0 : Nat) (x2 : Nat) (x3 : Int32) : Option dp_H := (dp_gi h x0 3 1).bind fun v1 => if v1 ≤ (x3 + 1) then ((dp_gi h x0 3 1).bind fun v2 => (dp_p h x0 3 1 (.inl (v2 - 1))).bind fun h3 => (dp_gr h3 x0 3 0).bind fun v4 => (dp_gi h3 x0 3 1).bind fun v5 => (dp_sr h3 v4 v5 x2).bind fun h6 => some h6) else ((dp_gr h x0 3 0).bind fun v7 => (dp_gr h x0 3 0).bind fun v8 => (dp_ar h v8 (x3 + 1)).bind fun v9 => (dp_sr h v7 x3 v9).bind fun h10 => k34 h10 x0 x2 (x3 + 1))
def m_X3_remove_34  : Nat → dp_H → Nat → Nat → Int32 → Option dp_H
  | 0 => fun _ _ _ _ => none
  | n + 1 => fun h x0 x2 x3 => b_X3_remove_34 (m_X3_remove_34  n) h x0 x2 x3
def m_X3_remove (h : dp_H) (x0 : Nat) (x1 : Int32) : Option dp_H := dp_ck h x0 3 (if x1 < 0 then (some h) else ((dp_gi h x0 3 1).bind fun v1 => if v1 ≤ x1 then (some h) else ((dp_gi h x0 3 1).bind fun v2 => (dp_gr h x0 3 0).bind fun v3 => (dp_ln h v3).bind fun v4 => if v2 ≤ v4 then ((dp_gr h x0 3 0).bind fun v5 => (dp_ar h v5 x1).bind fun v6 => m_X3_remove_34 64 h x0 v6 x1) else (some h))))
abbrev rm_X3_isSureBy : Room := { frames := 2, cells := 0, slots := 0, locals := 46 }
def b_X3_isSureBy_5 (h : dp_H) (k5 : Nat → Nat → Int32 → Option Nat → Int32 → Option Int32) (x0 : Nat) (x1 : Nat) (x2 : Int32) (x3 : Option Nat) (x4 : Int32) : Option Int32 := (dp_gi h x0 3 1).bind fun v1 => if v1 ≤ x4 then (dp_om x3 (some 0) (fun u2 => some 1)) else ((m_X3_at h x0 x4).bind fun v3 => dp_om v3 (k5 x0 x1 x2 x3 (x4 + 1)) (fun u4 => (m_X1_reach h u4 x1 x2).bind fun v5 => if v5 = 0 then (k5 x0 x1 x2 x3 (x4 + 1)) else (dp_om x3 (k5 x0 x1 x2 (some u4) (x4 + 1)) (fun u6 => (m_X1_doesLike h u4 u6).bind fun v7 => if v7 = 0 then (some 0) else (k5 x0 x1 x2 (some u6) (x4 + 1))))))
def m_X3_isSureBy_5 (h : dp_H)  : Nat → Nat → Nat → Int32 → Option Nat → Int32 → Option Int32
  | 0 => fun _ _ _ _ _ => none
  | n + 1 => fun x0 x1 x2 x3 x4 => b_X3_isSureBy_5 h (m_X3_isSureBy_5 h  n) x0 x1 x2 x3 x4
def m_X3_isSureBy (h : dp_H) (x0 : Nat) (x1 : Nat) (x2 : Int32) : Option Int32 := dp_ck h x0 3 (m_X3_isSureBy_5 h 64 x0 x1 x2 none 0)
abbrev rm_X3_sureFrom : Room := { frames := 3, cells := 0, slots := 0, locals := 71 }
def b_X3_sureFrom_2 (h : dp_H) (k2 : Nat → Nat → Int32 → Option Int32) (x0 : Nat) (x1 : Nat) (x2 : Int32) : Option Int32 := (m_X5_size h x1).bind fun v1 => if v1 < x2 then (some (-1)) else ((m_X3_isSureBy h x0 x1 x2).bind fun v2 => if v2 = 0 then (k2 x0 x1 (x2 + 1)) else (some x2))
def m_X3_sureFrom_2 (h : dp_H)  : Nat → Nat → Nat → Int32 → Option Int32
  | 0 => fun _ _ _ => none
  | n + 1 => fun x0 x1 x2 => b_X3_sureFrom_2 h (m_X3_sureFrom_2 h  n) x0 x1 x2
def m_X3_sureFrom (h : dp_H) (x0 : Nat) (x1 : Nat) : Option Int32 := dp_ck h x0 3 (m_X3_sureFrom_2 h 64 x0 x1 0)
abbrev rm_X3_isClash : Room := { frames := 3, cells := 0, slots := 0, locals := 64 }
def m_X3_isClash (h : dp_H) (x0 : Nat) (x1 : Int32) (x2 : Int32) : Option Int32 := dp_ck h x0 3 ((m_X3_at h x0 x1).bind fun v1 => (m_X3_at h x0 x2).bind fun v2 => dp_om v1 (some 0) (fun u3 => dp_om v2 (some 0) (fun u4 => (m_X1_clashesWith h u3 u4).bind fun v5 => if v5 = 0 then (some 0) else (some 1))))
abbrev rm_X3_clashes : Room := { frames := 4, cells := 0, slots := 0, locals := 88 }
def b_X3_clashes_16 (h : dp_H) (k4 : Nat → Int32 → Int32 → Option Int32) (k16 : Nat → Int32 → Int32 → Int32 → Option Int32) (x0 : Nat) (x1 : Int32) (x2 : Int32) (x3 : Int32) : Option Int32 := (dp_gi h x0 3 1).bind fun v1 => if v1 ≤ x3 then (k4 x0 x1 (x2 + 1)) else ((m_X3_isClash h x0 x2 x3).bind fun v2 => if v2 = 0 then (k16 x0 x1 x2 (x3 + 1)) else (k16 x0 (x1 + 1) x2 (x3 + 1)))
def m_X3_clashes_16 (h : dp_H) (k4 : Nat → Int32 → Int32 → Option Int32) : Nat → Nat → Int32 → Int32 → Int32 → Option Int32
  | 0 => fun _ _ _ _ => none
  | n + 1 => fun x0 x1 x2 x3 => b_X3_clashes_16 h k4 (m_X3_clashes_16 h k4 n) x0 x1 x2 x3
def b_X3_clashes_4 (h : dp_H) (k4 : Nat → Int32 → Int32 → Option Int32) (x0 : Nat) (x1 : Int32) (x2 : Int32) : Option Int32 := (dp_gi h x0 3 1).bind fun v1 => if v1 ≤ x2 then (some x1) else (m_X3_clashes_16 h k4 64 x0 x1 x2 (x2 + 1))
def m_X3_clashes_4 (h : dp_H)  : Nat → Nat → Int32 → Int32 → Option Int32
  | 0 => fun _ _ _ => none
  | n + 1 => fun x0 x1 x2 => b_X3_clashes_4 h (m_X3_clashes_4 h  n) x0 x1 x2
def m_X3_clashes (h : dp_H) (x0 : Nat) : Option Int32 := dp_ck h x0 3 (m_X3_clashes_4 h 64 x0 0 0)
abbrev rm_X4_init : Room := { frames := 2, cells := 4, slots := 164, locals := 42 }
def m_X4_init (h : dp_H) (x0 : Nat) : Option dp_H := dp_ck h x0 4 ((dp_nw h 5 bl_X5).bind fun h1 => (m_X5_init h1 (List.length h) 10).bind fun h2 => (dp_p h2 x0 4 0 (.inr (.inr (some (List.length h))))).bind fun h3 => (dp_nw h3 5 bl_X5).bind fun h4 => (m_X5_init h4 (List.length h3) 10).bind fun h5 => (dp_p h5 x0 4 1 (.inr (.inr (some (List.length h3))))).bind fun h6 => (dp_p h6 x0 4 2 (.inl (-1))).bind fun h7 => some h7)
abbrev rm_X4_way : Room := { frames := 0, cells := 0, slots := 0, locals := 0 }
def m_X4_way (h : dp_H) (x0 : Nat) : Option Int32 := dp_ck h x0 4 ((dp_gi h x0 4 2).bind fun v1 => some v1)
abbrev rm_X4_times : Room := { frames := 0, cells := 0, slots := 0, locals := 0 }
def m_X4_times (h : dp_H) (x0 : Nat) : Option Int32 := dp_ck h x0 4 ((dp_gi h x0 4 3).bind fun v1 => some v1)
abbrev rm_X4_result : Room := { frames := 0, cells := 0, slots := 0, locals := 0 }
def m_X4_result (h : dp_H) (x0 : Nat) : Option Nat := dp_ck h x0 4 ((dp_gr h x0 4 0).bind fun v1 => some v1)
abbrev rm_X4_rewrite : Room := { frames := 2, cells := 0, slots := 0, locals := 44 }
def b_X4_rewrite_18 (k18 : dp_H → Nat → Int32 → Int32 → Option (dp_H × Int32)) (h : dp_H) (x0 : Nat) (x2 : Int32) (x3 : Int32) : Option (dp_H × Int32) := (dp_gr h x0 4 0).bind fun v1 => (m_X5_size h v1).bind fun v2 => if v2 ≤ x3 then ((dp_gr h x0 4 0).bind fun v3 => (dp_gr h x0 4 1).bind fun v4 => (m_X5_copyFrom h v3 v4).bind fun h5 => if x2 = 0 then (some (h5, 0)) else ((dp_gr h5 x0 4 0).bind fun v6 => (m_X5_size h5 v6).bind fun v7 => if v7 ≤ 0 then (some (h5, 0)) else (some (h5, 1)))) else ((dp_gr h x0 4 1).bind fun v8 => (dp_gr h x0 4 0).bind fun v9 => (m_X5_at h v9 x3).bind fun v10 => dp_b2 (m_X5_append h v8 v10) fun h11 v12 => if v12 = 0 then (k18 h11 x0 0 (x3 + 1)) else (if x2 = 0 then (k18 h11 x0 0 (x3 + 1)) else (k18 h11 x0 1 (x3 + 1))))
def m_X4_rewrite_18  : Nat → dp_H → Nat → Int32 → Int32 → Option (dp_H × Int32)
  | 0 => fun _ _ _ _ => none
  | n + 1 => fun h x0 x2 x3 => b_X4_rewrite_18 (m_X4_rewrite_18  n) h x0 x2 x3
def m_X4_rewrite (h : dp_H) (x0 : Nat) (x1 : Nat) : Option (dp_H × Int32) := dp_ck h x0 4 ((dp_gr h x0 4 1).bind fun v1 => (m_X1_ahead h x1).bind fun v2 => (m_X5_copyFrom h v1 v2).bind fun h3 => (m_X1_dropped h3 x1).bind fun v4 => m_X4_rewrite_18 64 h3 x0 1 v4)
abbrev rm_X4_read : Room := { frames := 3, cells := 0, slots := 0, locals := 72 }
def b_X4_read_18 (k18 : dp_H → Nat → Nat → Option dp_H) (h : dp_H) (x0 : Nat) (x1 : Nat) : Option dp_H := (dp_gi h x0 4 3).bind fun v1 => if 6 ≤ v1 then ((dp_gr h x0 4 0).bind fun v2 => (m_X5_clear h v2).bind fun h3 => some h3) else ((dp_gi h x0 4 3).bind fun v4 => (dp_p h x0 4 3 (.inl (v4 + 1))).bind fun h5 => (dp_gr h5 x0 4 0).bind fun v6 => (m_X3_winner h5 x1 v6 0).bind fun v7 => (m_X3_at h5 x1 v7).bind fun v8 => dp_om v8 ((dp_gr h5 x0 4 0).bind fun v10 => (m_X5_clear h5 v10).bind fun h11 => some h11) (fun u9 => dp_b2 (m_X4_rewrite h5 x0 u9) fun h12 v13 => if v13 = 0 then ((dp_gr h12 x0 4 0).bind fun v17 => (m_X5_clear h12 v17).bind fun h18 => some h18) else ((m_X1_way h12 u9).bind fun v14 => if v14 = 10 then (k18 h12 x0 x1) else ((m_X1_way h12 u9).bind fun v15 => (dp_p h12 x0 4 2 (.inl v15)).bind fun h16 => some h16))))
def m_X4_read_18  : Nat → dp_H → Nat → Nat → Option dp_H
  | 0 => fun _ _ _ => none
  | n + 1 => fun h x0 x1 => b_X4_read_18 (m_X4_read_18  n) h x0 x1
def m_X4_read (h : dp_H) (x0 : Nat) (x1 : Nat) (x2 : Nat) : Option dp_H := dp_ck h x0 4 ((dp_gr h x0 4 0).bind fun v1 => (m_X5_copyFrom h v1 x2).bind fun h2 => (dp_p h2 x0 4 2 (.inl (-1))).bind fun h3 => (dp_p h3 x0 4 3 (.inl 0)).bind fun h4 => m_X4_read_18 64 h4 x0 x1)
abbrev rm_X5_asNumber : Room := { frames := 1, cells := 0, slots := 0, locals := 22 }
def b_X5_asNumber_4 (h : dp_H) (k4 : Nat → Int32 → Int32 → Option Int32) (x0 : Nat) (x1 : Int32) (x2 : Int32) : Option Int32 := (dp_gi h x0 5 1).bind fun v1 => if v1 ≤ x2 then (some x1) else ((m_X5_at h x0 x2).bind fun v2 => k4 x0 ((10 * x1) + v2) (x2 + 1))
def m_X5_asNumber_4 (h : dp_H)  : Nat → Nat → Int32 → Int32 → Option Int32
  | 0 => fun _ _ _ => none
  | n + 1 => fun x0 x1 x2 => b_X5_asNumber_4 h (m_X5_asNumber_4 h  n) x0 x1 x2
def m_X5_asNumber (h : dp_H) (x0 : Nat) : Option Int32 := dp_ck h x0 5 (m_X5_asNumber_4 h 64 x0 0 0)
abbrev rm_X6_init : Room := { frames := 4, cells := 341, slots := 16774, locals := 83 }
def m_X6_init (h : dp_H) (x0 : Nat) : Option dp_H := dp_ck h x0 6 ((dp_nw h 5 bl_X5).bind fun h1 => (m_X5_init h1 (List.length h) 52).bind fun h2 => (dp_p h2 x0 6 0 (.inr (.inr (some (List.length h))))).bind fun h3 => (dp_nw h3 2 bl_X2).bind fun h4 => (m_X2_init h4 (List.length h3)).bind fun h5 => (dp_p h5 x0 6 1 (.inr (.inr (some (List.length h3))))).bind fun h6 => (dp_nw h6 3 bl_X3).bind fun h7 => (m_X3_init h7 (List.length h6)).bind fun h8 => (dp_p h8 x0 6 2 (.inr (.inr (some (List.length h6))))).bind fun h9 => (dp_nw h9 5 bl_X5).bind fun h10 => (m_X5_init h10 (List.length h9) 10).bind fun h11 => (dp_p h11 x0 6 3 (.inr (.inr (some (List.length h9))))).bind fun h12 => (dp_nw h12 4 bl_X4).bind fun h13 => (m_X4_init h13 (List.length h12)).bind fun h14 => (dp_p h14 x0 6 4 (.inr (.inr (some (List.length h12))))).bind fun h15 => (dp_nw h15 0 bl_X0).bind fun h16 => (m_X0_init h16 (List.length h15)).bind fun h17 => (dp_p h17 x0 6 5 (.inr (.inr (some (List.length h15))))).bind fun h18 => some h18)
abbrev rm_X6_letter : Room := { frames := 1, cells := 0, slots := 0, locals := 21 }
def m_X6_letter (h : dp_H) (x0 : Nat) (x1 : Int32) : Option (dp_H × Int32) := dp_ck h x0 6 (if x1 < 32 then (some (h, (-1002))) else (if x1 ≤ 126 then ((dp_gr h x0 6 0).bind fun v1 => dp_b2 (m_X5_append h v1 x1) fun h2 v3 => if v3 = 0 then (some (h2, (-1004))) else ((dp_gr h2 x0 6 0).bind fun v4 => (m_X5_size h2 v4).bind fun v5 => some (h2, v5))) else (some (h, (-1002)))))
abbrev rm_X6_blank : Room := { frames := 1, cells := 0, slots := 0, locals := 20 }
def m_X6_blank (h : dp_H) (x0 : Nat) : Option (dp_H × Int32) := dp_ck h x0 6 ((dp_gr h x0 6 0).bind fun v1 => (m_X5_size h v1).bind fun v2 => (dp_gr h x0 6 0).bind fun v3 => (m_X5_clear h v3).bind fun h4 => some (h4, v2))
abbrev rm_X6_fault : Room := { frames := 6, cells := 0, slots := 0, locals := 130 }
def m_X6_fault (h : dp_H) (x0 : Nat) : Option (dp_H × Int32) := dp_ck h x0 6 ((dp_gr h x0 6 1).bind fun v1 => (dp_gr h x0 6 0).bind fun v2 => dp_b2 (m_X2_scan h v1 v2) fun h3 v4 => some (h3, v4))
abbrev rm_X6_add : Room := { frames := 6, cells := 0, slots := 0, locals := 130 }
def b_X6_add_36  (h : dp_H) (x0 : Nat) (y0 : Int32) : Option (dp_H × Int32) := if y0 = 0 then (some (h, (-1003))) else ((dp_gr h x0 6 5).bind fun v1 => (m_X0_isUp h v1).bind fun v2 => if v2 = 0 then ((dp_gr h x0 6 2).bind fun v3 => (dp_gr h x0 6 1).bind fun v4 => (m_X2_draft h v4).bind fun v5 => dp_b2 (m_X3_append h v3 v5) fun h6 v7 => if v7 = 0 then (some (h6, (-1004))) else ((dp_gr h6 x0 6 0).bind fun v8 => (m_X5_clear h6 v8).bind fun h9 => (dp_gr h9 x0 6 2).bind fun v10 => (m_X3_size h9 v10).bind fun v11 => some (h9, (v11 - 1)))) else (some (h, (-1003))))
def m_X6_add (h : dp_H) (x0 : Nat) : Option (dp_H × Int32) := dp_ck h x0 6 ((dp_gr h x0 6 1).bind fun v1 => (dp_gr h x0 6 0).bind fun v2 => dp_b2 (m_X2_scan h v1 v2) fun h3 v4 => (dp_gr h3 x0 6 0).bind fun v5 => (m_X5_size h3 v5).bind fun v6 => if v4 = v6 then ((dp_gr h3 x0 6 1).bind fun v7 => (m_X2_isWhole h3 v7).bind fun v8 => if v8 = 0 then (b_X6_add_36 h3 x0 0) else (b_X6_add_36 h3 x0 1)) else (b_X6_add_36 h3 x0 0))
abbrev rm_X6_drop : Room := { frames := 1, cells := 0, slots := 0, locals := 23 }
def m_X6_drop (h : dp_H) (x0 : Nat) (x1 : Int32) : Option (dp_H × Int32) := dp_ck h x0 6 ((dp_gr h x0 6 2).bind fun v1 => (m_X3_at h v1 x1).bind fun v2 => dp_om v2 (some (h, (-1001))) (fun u3 => (dp_gr h x0 6 5).bind fun v4 => (m_X0_isUp h v4).bind fun v5 => if v5 = 0 then ((dp_gr h x0 6 2).bind fun v6 => (m_X3_remove h v6 x1).bind fun h7 => (dp_gr h7 x0 6 2).bind fun v8 => (m_X3_size h7 v8).bind fun v9 => some (h7, v9)) else (some (h, (-1003)))))
abbrev rm_X6_pattern : Room := { frames := 2, cells := 0, slots := 0, locals := 44 }
def m_X6_pattern (h : dp_H) (x0 : Nat) (x1 : Int32) (x2 : Int32) : Option Int32 := dp_ck h x0 6 ((dp_gr h x0 6 2).bind fun v1 => (m_X3_at h v1 x1).bind fun v2 => dp_om v2 (some (-1001)) (fun u3 => if x2 = 0 then ((m_X1_places h u3).bind fun v4 => some v4) else if x2 = 1 then ((m_X1_isOpen h u3).bind fun v5 => if v5 = 0 then (some 0) else (some 1)) else if x2 = 2 then ((m_X1_way h u3).bind fun v6 => some v6) else if x2 = 3 then ((m_X1_dropped h u3).bind fun v7 => some v7) else if x2 = 4 then ((m_X1_ahead h u3).bind fun v8 => (m_X5_size h v8).bind fun v9 => some v9) else if x2 = 5 then ((m_X1_ahead h u3).bind fun v10 => (m_X5_asNumber h v10).bind fun v11 => some v11) else (some (-1002))))
abbrev rm_X6_lets : Room := { frames := 1, cells := 0, slots := 0, locals := 22 }
def m_X6_lets (h : dp_H) (x0 : Nat) (x1 : Int32) (x2 : Int32) : Option Int32 := dp_ck h x0 6 ((dp_gr h x0 6 2).bind fun v1 => (m_X3_at h v1 x1).bind fun v2 => dp_om v2 (some (-1001)) (fun u3 => if x2 < 0 then (some (-1002)) else (if x2 < 10 then ((m_X1_digitsAt h u3 x2).bind fun v4 => some v4) else (some (-1002)))))
abbrev rm_X6_narrower : Room := { frames := 1, cells := 0, slots := 0, locals := 22 }
def m_X6_narrower (h : dp_H) (x0 : Nat) (x1 : Int32) (x2 : Int32) : Option Int32 := dp_ck h x0 6 ((dp_gr h x0 6 2).bind fun v1 => (m_X3_at h v1 x1).bind fun v2 => (dp_gr h x0 6 2).bind fun v3 => (m_X3_at h v3 x2).bind fun v4 => dp_om v2 (some (-1001)) (fun u5 => dp_om v4 (some (-1001)) (fun u6 => (m_X1_isNarrowerThan h u5 u6).bind fun v7 => if v7 = 0 then ((m_X1_isNarrowerThan h u6 u5).bind fun v8 => if v8 = 0 then (some 2) else (some 1)) else (some 0))))
abbrev rm_X6_clash : Room := { frames := 4, cells := 0, slots := 0, locals := 88 }
def b_X6_clash_24 (h : dp_H) (k4 : Nat → Int32 → Int32 → Option Int32) (k24 : Nat → Int32 → Int32 → Int32 → Option Int32) (x0 : Nat) (x2 : Int32) (x3 : Int32) (x4 : Int32) : Option Int32 := (dp_gr h x0 6 2).bind fun v1 => (m_X3_size h v1).bind fun v2 => if v2 ≤ x4 then (k4 x0 x2 (x3 + 1)) else ((dp_gr h x0 6 2).bind fun v3 => (m_X3_isClash h v3 x3 x4).bind fun v4 => if v4 = 0 then (k24 x0 x2 x3 (x4 + 1)) else (if x2 = 0 then (some ((16 * x3) + x4)) else (k24 x0 (x2 + (-1)) x3 (x4 + 1))))
def m_X6_clash_24 (h : dp_H) (k4 : Nat → Int32 → Int32 → Option Int32) : Nat → Nat → Int32 → Int32 → Int32 → Option Int32
  | 0 => fun _ _ _ _ => none
  | n + 1 => fun x0 x2 x3 x4 => b_X6_clash_24 h k4 (m_X6_clash_24 h k4 n) x0 x2 x3 x4
def b_X6_clash_4 (h : dp_H) (k4 : Nat → Int32 → Int32 → Option Int32) (x0 : Nat) (x2 : Int32) (x3 : Int32) : Option Int32 := (dp_gr h x0 6 2).bind fun v1 => (m_X3_size h v1).bind fun v2 => if v2 ≤ x3 then (some (-1001)) else (if x2 < 0 then (some (-1001)) else (m_X6_clash_24 h k4 64 x0 x2 x3 (x3 + 1)))
def m_X6_clash_4 (h : dp_H)  : Nat → Nat → Int32 → Int32 → Option Int32
  | 0 => fun _ _ _ => none
  | n + 1 => fun x0 x2 x3 => b_X6_clash_4 h (m_X6_clash_4 h  n) x0 x2 x3
def m_X6_clash (h : dp_H) (x0 : Nat) (x1 : Int32) : Option Int32 := dp_ck h x0 6 (m_X6_clash_4 h 64 x0 x1 0)
abbrev rm_X6_readsPageAsRow : Room := { frames := 1, cells := 0, slots := 0, locals := 22 }
def b_X6_readsPageAsRow_9 (k9 : dp_H → Nat → Int32 → Option (dp_H × Int32)) (h : dp_H) (x0 : Nat) (x1 : Int32) : Option (dp_H × Int32) := (dp_gr h x0 6 0).bind fun v1 => (m_X5_size h v1).bind fun v2 => if v2 ≤ x1 then ((dp_gr h x0 6 0).bind fun v3 => (m_X5_size h v3).bind fun v4 => if v4 ≤ 0 then (some (h, 0)) else (some (h, 1))) else ((dp_gr h x0 6 0).bind fun v5 => (m_X5_at h v5 x1).bind fun v6 => (m_X6_isFigure h v6).bind fun v7 => if v7 = 0 then (some (h, 0)) else ((dp_gr h x0 6 3).bind fun v8 => (dp_gr h x0 6 0).bind fun v9 => (m_X5_at h v9 x1).bind fun v10 => dp_b2 (m_X5_append h v8 (v10 - 48)) fun h11 v12 => if v12 = 0 then (some (h11, 0)) else (k9 h11 x0 (x1 + 1))))
def m_X6_readsPageAsRow_9  : Nat → dp_H → Nat → Int32 → Option (dp_H × Int32)
  | 0 => fun _ _ _ => none
  | n + 1 => fun h x0 x1 => b_X6_readsPageAsRow_9 (m_X6_readsPageAsRow_9  n) h x0 x1
def m_X6_readsPageAsRow (h : dp_H) (x0 : Nat) : Option (dp_H × Int32) := dp_ck h x0 6 ((dp_gr h x0 6 3).bind fun v1 => (m_X5_clear h v1).bind fun h2 => m_X6_readsPageAsRow_9 64 h2 x0 0)
abbrev rm_X6_row : Room := { frames := 4, cells := 0, slots := 0, locals := 95 }
def b_X6_row_35  (h : dp_H) (x0 : Nat) (x1 : Int32) : Option (dp_H × Int32) := dp_b2 (m_X6_readsPageAsRow h x0) fun h1 v2 => if v2 = 0 then (some (h1, (-1003))) else (if x1 = 0 then ((dp_gr h1 x0 6 2).bind fun v3 => (dp_gr h1 x0 6 3).bind fun v4 => (m_X3_winner h1 v3 v4 0).bind fun v5 => some (h1, v5)) else if x1 = 1 then ((dp_gr h1 x0 6 2).bind fun v6 => (dp_gr h1 x0 6 3).bind fun v7 => (m_X3_reached h1 v6 v7 1).bind fun v8 => some (h1, v8)) else if x1 = 2 then ((dp_gr h1 x0 6 2).bind fun v9 => (dp_gr h1 x0 6 3).bind fun v10 => (m_X3_reached h1 v9 v10 2).bind fun v11 => some (h1, v11)) else ((dp_gr h1 x0 6 4).bind fun v12 => (dp_gr h1 x0 6 2).bind fun v13 => (dp_gr h1 x0 6 3).bind fun v14 => (m_X4_read h1 v12 v13 v14).bind fun h15 => if x1 = 3 then ((dp_gr h15 x0 6 4).bind fun v16 => (m_X4_way h15 v16).bind fun v17 => some (h15, v17)) else if x1 = 4 then ((dp_gr h15 x0 6 4).bind fun v18 => (m_X4_times h15 v18).bind fun v19 => some (h15, v19)) else if x1 = 5 then ((dp_gr h15 x0 6 4).bind fun v20 => (m_X4_result h15 v20).bind fun v21 => (m_X5_size h15 v21).bind fun v22 => some (h15, v22)) else ((dp_gr h15 x0 6 4).bind fun v23 => (m_X4_result h15 v23).bind fun v24 => (m_X5_at h15 v24 (x1 - 10)).bind fun v25 => some (h15, v25))))
def b_X6_row_16  (h : dp_H) (x0 : Nat) (x1 : Int32) : Option (dp_H × Int32) := if x1 < 0 then (some (h, (-1002))) else (if x1 ≤ 5 then (b_X6_row_35 h x0 x1) else (some (h, (-1002))))
def m_X6_row (h : dp_H) (x0 : Nat) (x1 : Int32) : Option (dp_H × Int32) := dp_ck h x0 6 (if x1 < 10 then (b_X6_row_16 h x0 x1) else (if 20 ≤ x1 then (b_X6_row_16 h x0 x1) else (b_X6_row_35 h x0 x1)))
abbrev rm_X6_stage : Room := { frames := 1, cells := 0, slots := 0, locals := 22 }
def m_X6_stage (h : dp_H) (x0 : Nat) (x1 : Int32) (x2 : Int32) : Option (dp_H × Int32) := dp_ck h x0 6 (if x1 < 0 then (some (h, (-1002))) else (if 3 ≤ x1 then (some (h, (-1002))) else (if x2 < 1 then (some (h, (-1002))) else (if x2 ≤ 99 then ((dp_gr h x0 6 5).bind fun v1 => (m_X0_ticksOf h v1 x1).bind fun v2 => (dp_gr h x0 6 5).bind fun v3 => (m_X0_setTicks h v3 x1 x2).bind fun h4 => some (h4, v2)) else (some (h, (-1002)))))))
abbrev rm_X6_lift : Room := { frames := 6, cells := 0, slots := 0, locals := 134 }
def m_X6_lift (h : dp_H) (x0 : Nat) : Option (dp_H × Int32) := dp_ck h x0 6 ((dp_gr h x0 6 5).bind fun v1 => (m_X0_isUp h v1).bind fun v2 => if v2 = 0 then ((dp_gr h x0 6 5).bind fun v3 => (dp_gr h x0 6 2).bind fun v4 => (m_X0_putUp h v3 v4).bind fun h5 => (dp_gr h5 x0 6 5).bind fun v6 => (m_X0_ticksLeft h5 v6).bind fun v7 => some (h5, v7)) else (some (h, (-1003))))
abbrev rm_X6_hang : Room := { frames := 2, cells := 0, slots := 0, locals := 40 }
def m_X6_hang (h : dp_H) (x0 : Nat) : Option (dp_H × Int32) := dp_ck h x0 6 ((dp_gr h x0 6 5).bind fun v1 => (m_X0_isUp h v1).bind fun v2 => if v2 = 0 then (some (h, (-1003))) else ((dp_gr h x0 6 5).bind fun v3 => (m_X0_dialled h v3).bind fun v4 => (m_X5_size h v4).bind fun v5 => (dp_gr h x0 6 5).bind fun v6 => (m_X0_putDown h v6).bind fun h7 => some (h7, v5)))
abbrev rm_X6_press : Room := { frames := 6, cells := 0, slots := 0, locals := 137 }
def m_X6_press (h : dp_H) (x0 : Nat) (x1 : Int32) : Option (dp_H × Int32) := dp_ck h x0 6 (if x1 < 0 then (some (h, (-1002))) else (if x1 ≤ 9 then ((dp_gr h x0 6 5).bind fun v1 => (m_X0_isWaiting h v1).bind fun v2 => if v2 = 0 then (some (h, (-1003))) else ((dp_gr h x0 6 5).bind fun v3 => (dp_gr h x0 6 2).bind fun v4 => (m_X0_take h v3 x1 v4).bind fun h5 => (dp_gr h5 x0 6 5).bind fun v6 => (m_X0_state h5 v6).bind fun v7 => some (h5, v7))) else (some (h, (-1002)))))
abbrev rm_X6_pass : Room := { frames := 5, cells := 0, slots := 0, locals := 115 }
def m_X6_pass (h : dp_H) (x0 : Nat) (x1 : Int32) : Option (dp_H × Int32) := dp_ck h x0 6 (if x1 < 1 then (some (h, (-1002))) else (if x1 ≤ 99 then ((dp_gr h x0 6 5).bind fun v1 => (m_X0_isWaiting h v1).bind fun v2 => if v2 = 0 then (some (h, (-1003))) else ((dp_gr h x0 6 5).bind fun v3 => (dp_gr h x0 6 2).bind fun v4 => (m_X0_letTicksGo h v3 x1 v4).bind fun h5 => (dp_gr h5 x0 6 5).bind fun v6 => (m_X0_state h5 v6).bind fun v7 => some (h5, v7))) else (some (h, (-1002)))))
abbrev rm_X6_end : Room := { frames := 4, cells := 0, slots := 0, locals := 93 }
def m_X6_end (h : dp_H) (x0 : Nat) : Option (dp_H × Int32) := dp_ck h x0 6 ((dp_gr h x0 6 5).bind fun v1 => (m_X0_isWaiting h v1).bind fun v2 => if v2 = 0 then (some (h, (-1003))) else ((dp_gr h x0 6 5).bind fun v3 => (dp_gr h x0 6 2).bind fun v4 => (m_X0_settle h v3 3 v4).bind fun h5 => (dp_gr h5 x0 6 5).bind fun v6 => (m_X0_state h5 v6).bind fun v7 => some (h5, v7)))
abbrev rm_X6_wayOfTheLine : Room := { frames := 4, cells := 0, slots := 0, locals := 95 }
def m_X6_wayOfTheLine (h : dp_H) (x0 : Nat) : Option (dp_H × Int32) := dp_ck h x0 6 ((dp_gr h x0 6 5).bind fun v1 => (m_X0_state h v1).bind fun v2 => if v2 = 2 then ((dp_gr h x0 6 5).bind fun v3 => (m_X0_ended h v3).bind fun v4 => if v4 = 4 then (some (h, 9)) else ((dp_gr h x0 6 4).bind fun v5 => (dp_gr h x0 6 2).bind fun v6 => (dp_gr h x0 6 5).bind fun v7 => (m_X0_dialled h v7).bind fun v8 => (m_X4_read h v5 v6 v8).bind fun h9 => (dp_gr h9 x0 6 4).bind fun v10 => (m_X4_way h9 v10).bind fun v11 => some (h9, v11))) else (some (h, (-1))))
abbrev rm_X6_line : Room := { frames := 5, cells := 0, slots := 0, locals := 115 }
def b_X6_line_27  (h : dp_H) (x0 : Nat) (x1 : Int32) : Option (dp_H × Int32) := if x1 = 0 then ((dp_gr h x0 6 5).bind fun v1 => (m_X0_state h v1).bind fun v2 => some (h, v2)) else if x1 = 1 then ((dp_gr h x0 6 5).bind fun v3 => (m_X0_dialled h v3).bind fun v4 => (m_X5_size h v4).bind fun v5 => some (h, v5)) else if x1 = 2 then ((dp_gr h x0 6 5).bind fun v6 => (m_X0_ticksLeft h v6).bind fun v7 => some (h, v7)) else if x1 = 3 then ((dp_gr h x0 6 5).bind fun v8 => (m_X0_isWaiting h v8).bind fun v9 => if v9 = 0 then (some (h, (-1))) else ((dp_gr h x0 6 5).bind fun v10 => (dp_gr h x0 6 2).bind fun v11 => (m_X0_currentStage h v10 v11).bind fun v12 => some (h, v12))) else if x1 = 4 then ((dp_gr h x0 6 5).bind fun v13 => (dp_gr h x0 6 2).bind fun v14 => (m_X0_winner h v13 v14).bind fun v15 => some (h, v15)) else if x1 = 5 then ((dp_gr h x0 6 2).bind fun v16 => (dp_gr h x0 6 5).bind fun v17 => (m_X0_dialled h v17).bind fun v18 => (m_X3_sureFrom h v16 v18).bind fun v19 => some (h, v19)) else if x1 = 6 then ((dp_gr h x0 6 5).bind fun v20 => (m_X0_ended h v20).bind fun v21 => some (h, v21)) else if x1 = 7 then (dp_b2 (m_X6_wayOfTheLine h x0) fun h22 v23 => some (h22, v23)) else (some (h, (-1002)))
def m_X6_line (h : dp_H) (x0 : Nat) (x1 : Int32) : Option (dp_H × Int32) := dp_ck h x0 6 (if x1 < 10 then (b_X6_line_27 h x0 x1) else (if 20 ≤ x1 then (b_X6_line_27 h x0 x1) else ((dp_gr h x0 6 5).bind fun v1 => (m_X0_dialled h v1).bind fun v2 => (m_X5_at h v2 (x1 - 10)).bind fun v3 => some (h, v3))))
abbrev rm_X6_count : Room := { frames := 5, cells := 0, slots := 0, locals := 111 }
def m_X6_count (h : dp_H) (x0 : Nat) (x1 : Int32) : Option Int32 := dp_ck h x0 6 (if x1 = 0 then ((dp_gr h x0 6 2).bind fun v1 => (m_X3_size h v1).bind fun v2 => some v2) else if x1 = 1 then ((dp_gr h x0 6 0).bind fun v3 => (m_X5_size h v3).bind fun v4 => some v4) else if x1 = 2 then ((dp_gr h x0 6 2).bind fun v5 => (m_X3_clashes h v5).bind fun v6 => some v6) else if x1 = 3 then ((dp_gr h x0 6 5).bind fun v7 => (m_X0_ticksOf h v7 0).bind fun v8 => some v8) else if x1 = 4 then ((dp_gr h x0 6 5).bind fun v9 => (m_X0_ticksOf h v9 1).bind fun v10 => some v10) else if x1 = 5 then ((dp_gr h x0 6 5).bind fun v11 => (m_X0_ticksOf h v11 2).bind fun v12 => some v12) else if x1 = 6 then ((dp_gr h x0 6 5).bind fun v13 => (m_X0_timesLifted h v13).bind fun v14 => some v14) else if x1 = 7 then ((dp_gr h x0 6 5).bind fun v15 => (m_X0_timesReady h v15).bind fun v16 => some v16) else if x1 = 8 then ((dp_gr h x0 6 5).bind fun v17 => (m_X0_timesLost h v17).bind fun v18 => some v18) else if x1 = 9 then ((dp_gr h x0 6 5).bind fun v19 => (m_X0_digitsEver h v19).bind fun v20 => some v20) else (some (-1002)))
abbrev rm_X6_digestOfPatterns : Room := { frames := 3, cells := 0, slots := 0, locals := 67 }
def b_X6_digestOfPatterns_52 (h : dp_H) (k5 : Nat → Int64 → Int32 → Option Int64) (k52 : Nat → Int64 → Int32 → Int32 → Option Int64) (x0 : Nat) (x3 : Int64) (x5 : Int32) (x6 : Int32) : Option Int64 := if 10 ≤ x6 then (k5 x0 x3 (x5 + 1)) else ((m_X6_lets h x0 x5 x6).bind fun v1 => k52 x0 ((31 * x3) + (Int32.toInt64 v1)) x5 (x6 + 1))
def m_X6_digestOfPatterns_52 (h : dp_H) (k5 : Nat → Int64 → Int32 → Option Int64) : Nat → Nat → Int64 → Int32 → Int32 → Option Int64
  | 0 => fun _ _ _ _ => none
  | n + 1 => fun x0 x3 x5 x6 => b_X6_digestOfPatterns_52 h k5 (m_X6_digestOfPatterns_52 h k5 n) x0 x3 x5 x6
def b_X6_digestOfPatterns_20 (h : dp_H) (k5 : Nat → Int64 → Int32 → Option Int64) (k20 : Nat → Int64 → Int32 → Int32 → Option Int64) (x0 : Nat) (x3 : Int64) (x5 : Int32) (x6 : Int32) : Option Int64 := if 6 ≤ x6 then (m_X6_digestOfPatterns_52 h k5 64 x0 x3 x5 0) else ((m_X6_pattern h x0 x5 x6).bind fun v1 => k20 x0 ((31 * x3) + (Int32.toInt64 v1)) x5 (x6 + 1))
def m_X6_digestOfPatterns_20 (h : dp_H) (k5 : Nat → Int64 → Int32 → Option Int64) : Nat → Nat → Int64 → Int32 → Int32 → Option Int64
  | 0 => fun _ _ _ _ => none
  | n + 1 => fun x0 x3 x5 x6 => b_X6_digestOfPatterns_20 h k5 (m_X6_digestOfPatterns_20 h k5 n) x0 x3 x5 x6
def b_X6_digestOfPatterns_5 (h : dp_H) (k5 : Nat → Int64 → Int32 → Option Int64) (x0 : Nat) (x3 : Int64) (x5 : Int32) : Option Int64 := (dp_gr h x0 6 2).bind fun v1 => (m_X3_size h v1).bind fun v2 => if v2 ≤ x5 then (some x3) else (m_X6_digestOfPatterns_20 h k5 64 x0 x3 x5 0)
def m_X6_digestOfPatterns_5 (h : dp_H)  : Nat → Nat → Int64 → Int32 → Option Int64
  | 0 => fun _ _ _ => none
  | n + 1 => fun x0 x3 x5 => b_X6_digestOfPatterns_5 h (m_X6_digestOfPatterns_5 h  n) x0 x3 x5
def m_X6_digestOfPatterns (h : dp_H) (x0 : Nat) (x1 : Int64) : Option Int64 := dp_ck h x0 6 (m_X6_digestOfPatterns_5 h 64 x0 x1 0)
abbrev rm_X6_digestOfClashes : Room := { frames := 4, cells := 0, slots := 0, locals := 88 }
def b_X6_digestOfClashes_23 (h : dp_H) (k5 : Nat → Int64 → Int32 → Option Int64) (k23 : Nat → Int64 → Int32 → Int32 → Option Int64) (x0 : Nat) (x3 : Int64) (x5 : Int32) (x6 : Int32) : Option Int64 := (dp_gr h x0 6 2).bind fun v1 => (m_X3_size h v1).bind fun v2 => if v2 ≤ x6 then (k5 x0 x3 (x5 + 1)) else ((dp_gr h x0 6 2).bind fun v3 => (m_X3_isClash h v3 x5 x6).bind fun v4 => if v4 = 0 then (k23 x0 x3 x5 (x6 + 1)) else (k23 x0 ((31 * x3) + (Int32.toInt64 ((16 * x5) + x6))) x5 (x6 + 1)))
def m_X6_digestOfClashes_23 (h : dp_H) (k5 : Nat → Int64 → Int32 → Option Int64) : Nat → Nat → Int64 → Int32 → Int32 → Option Int64
  | 0 => fun _ _ _ _ => none
  | n + 1 => fun x0 x3 x5 x6 => b_X6_digestOfClashes_23 h k5 (m_X6_digestOfClashes_23 h k5 n) x0 x3 x5 x6
def b_X6_digestOfClashes_5 (h : dp_H) (k5 : Nat → Int64 → Int32 → Option Int64) (x0 : Nat) (x3 : Int64) (x5 : Int32) : Option Int64 := (dp_gr h x0 6 2).bind fun v1 => (m_X3_size h v1).bind fun v2 => if v2 ≤ x5 then (some x3) else (m_X6_digestOfClashes_23 h k5 64 x0 x3 x5 (x5 + 1))
def m_X6_digestOfClashes_5 (h : dp_H)  : Nat → Nat → Int64 → Int32 → Option Int64
  | 0 => fun _ _ _ => none
  | n + 1 => fun x0 x3 x5 => b_X6_digestOfClashes_5 h (m_X6_digestOfClashes_5 h  n) x0 x3 x5
def m_X6_digestOfClashes (h : dp_H) (x0 : Nat) (x1 : Int64) : Option Int64 := dp_ck h x0 6 (m_X6_digestOfClashes_5 h 64 x0 x1 0)
abbrev rm_X6_digest : Room := { frames := 6, cells := 0, slots := 0, locals := 136 }
def b_X6_digest_108 (k108 : dp_H → Nat → Int64 → Int32 → Option (dp_H × Int64)) (h : dp_H) (x0 : Nat) (x1 : Int64) (x3 : Int32) : Option (dp_H × Int64) := if 10 ≤ x3 then (some (h, x1)) else ((m_X6_count h x0 x3).bind fun v1 => k108 h x0 ((31 * x1) + (Int32.toInt64 v1)) (x3 + 1))
def m_X6_digest_108  : Nat → dp_H → Nat → Int64 → Int32 → Option (dp_H × Int64)
  | 0 => fun _ _ _ _ => none
  | n + 1 => fun h x0 x1 x3 => b_X6_digest_108 (m_X6_digest_108  n) h x0 x1 x3
def b_X6_digest_73 (k73 : dp_H → Nat → Int64 → Int32 → Option (dp_H × Int64)) (h : dp_H) (x0 : Nat) (x1 : Int64) (x3 : Int32) : Option (dp_H × Int64) := (dp_gr h x0 6 0).bind fun v1 => (m_X5_size h v1).bind fun v2 => if v2 ≤ x3 then (m_X6_digest_108 64 h x0 x1 0) else ((dp_gr h x0 6 0).bind fun v3 => (m_X5_at h v3 x3).bind fun v4 => k73 h x0 ((31 * x1) + (Int32.toInt64 v4)) (x3 + 1))
def m_X6_digest_73  : Nat → dp_H → Nat → Int64 → Int32 → Option (dp_H × Int64)
  | 0 => fun _ _ _ _ => none
  | n + 1 => fun h x0 x1 x3 => b_X6_digest_73 (m_X6_digest_73  n) h x0 x1 x3
def b_X6_digest_43 (k43 : dp_H → Nat → Int64 → Int32 → Option (dp_H × Int64)) (h : dp_H) (x0 : Nat) (x1 : Int64) (x3 : Int32) : Option (dp_H × Int64) := if 10 ≤ x3 then (m_X6_digest_73 64 h x0 x1 0) else (dp_b2 (m_X6_line h x0 (10 + x3)) fun h1 v2 => k43 h1 x0 ((31 * x1) + (Int32.toInt64 v2)) (x3 + 1))
def m_X6_digest_43  : Nat → dp_H → Nat → Int64 → Int32 → Option (dp_H × Int64)
  | 0 => fun _ _ _ _ => none
  | n + 1 => fun h x0 x1 x3 => b_X6_digest_43 (m_X6_digest_43  n) h x0 x1 x3
def b_X6_digest_16 (k16 : dp_H → Nat → Int64 → Int32 → Option (dp_H × Int64)) (h : dp_H) (x0 : Nat) (x1 : Int64) (x3 : Int32) : Option (dp_H × Int64) := if 8 ≤ x3 then (m_X6_digest_43 64 h x0 x1 0) else (dp_b2 (m_X6_line h x0 x3) fun h1 v2 => k16 h1 x0 ((31 * x1) + (Int32.toInt64 v2)) (x3 + 1))
def m_X6_digest_16  : Nat → dp_H → Nat → Int64 → Int32 → Option (dp_H × Int64)
  | 0 => fun _ _ _ _ => none
  | n + 1 => fun h x0 x1 x3 => b_X6_digest_16 (m_X6_digest_16  n) h x0 x1 x3
def m_X6_digest (h : dp_H) (x0 : Nat) : Option (dp_H × Int64) := dp_ck h x0 6 ((m_X6_digestOfPatterns h x0 1669).bind fun v1 => (m_X6_digestOfClashes h x0 v1).bind fun v2 => m_X6_digest_16 64 h x0 v2 0)
abbrev rm_X7_init : Room := { frames := 1, cells := 13, slots := 1040, locals := 20 }
def m_X7_init (h : dp_H) (x0 : Nat) : Option dp_H := dp_ck h x0 7 ((dp_na false h 52).bind fun h1 => (dp_p h1 x0 7 1 (.inr (.inr (some (List.length h))))).bind fun h2 => (dp_na false h2 10).bind fun h3 => (dp_p h3 x0 7 3 (.inr (.inr (some (List.length h2))))).bind fun h4 => (dp_na true h4 10).bind fun h5 => (dp_p h5 x0 7 4 (.inr (.inr (some (List.length h4))))).bind fun h6 => (dp_na false h6 80).bind fun h7 => (dp_p h7 x0 7 5 (.inr (.inr (some (List.length h6))))).bind fun h8 => (dp_na false h8 10).bind fun h9 => (dp_p h9 x0 7 6 (.inr (.inr (some (List.length h8))))).bind fun h10 => (dp_na false h10 10).bind fun h11 => (dp_p h11 x0 7 7 (.inr (.inr (some (List.length h10))))).bind fun h12 => (dp_na false h12 10).bind fun h13 => (dp_p h13 x0 7 8 (.inr (.inr (some (List.length h12))))).bind fun h14 => (dp_na false h14 40).bind fun h15 => (dp_p h15 x0 7 9 (.inr (.inr (some (List.length h14))))).bind fun h16 => (dp_na false h16 3).bind fun h17 => (dp_p h17 x0 7 10 (.inr (.inr (some (List.length h16))))).bind fun h18 => (dp_na false h18 8).bind fun h19 => (dp_p h19 x0 7 18 (.inr (.inr (some (List.length h18))))).bind fun h20 => (dp_na false h20 4).bind fun h21 => (dp_p h21 x0 7 23 (.inr (.inr (some (List.length h20))))).bind fun h22 => (dp_na false h22 14).bind fun h23 => (dp_p h23 x0 7 25 (.inr (.inr (some (List.length h22))))).bind fun h24 => (dp_na false h24 10).bind fun h25 => (dp_p h25 x0 7 29 (.inr (.inr (some (List.length h24))))).bind fun h26 => (dp_gr h26 x0 7 10).bind fun v27 => (dp_si false h26 v27 0 15).bind fun h28 => (dp_gr h28 x0 7 10).bind fun v29 => (dp_si false h28 v29 1 8).bind fun h30 => (dp_gr h30 x0 7 10).bind fun v31 => (dp_si false h30 v31 2 4).bind fun h32 => some h32)
abbrev rm_X7_within : Room := { frames := 0, cells := 0, slots := 0, locals := 0 }
def m_X7_within (h : dp_H) (x0 : Int32) (x1 : Int32) (x2 : Int32) : Option Int32 := if x0 < x1 then (some 0) else (if x2 < x0 then (some 0) else (some 1))
abbrev rm_X7_ones : Room := { frames := 0, cells := 0, slots := 0, locals := 0 }
def b_X7_ones_4 (h : dp_H) (k4 : Int32 → Int32 → Int32 → Option Int32) (x0 : Int32) (x1 : Int32) (x2 : Int32) : Option Int32 := if 10 ≤ x2 then (some x1) else (k4 x0 (x1 + ((x0 >>> (x2 &&& 31)) &&& 1)) (x2 + 1))
def m_X7_ones_4 (h : dp_H)  : Nat → Int32 → Int32 → Int32 → Option Int32
  | 0 => fun _ _ _ => none
  | n + 1 => fun x0 x1 x2 => b_X7_ones_4 h (m_X7_ones_4 h  n) x0 x1 x2
def m_X7_ones (h : dp_H) (x0 : Int32) : Option Int32 := m_X7_ones_4 h 64 x0 0 0
abbrev rm_X7_letter : Room := { frames := 1, cells := 0, slots := 0, locals := 22 }
def m_X7_letter (h : dp_H) (x0 : Nat) (x1 : Int32) : Option (dp_H × Int32) := dp_ck h x0 7 ((m_X7_within h x1 32 126).bind fun v1 => if v1 = 0 then (some (h, (-1002))) else ((dp_gi h x0 7 0).bind fun v2 => if v2 = 52 then (some (h, (-1004))) else ((dp_gr h x0 7 1).bind fun v3 => (dp_gi h x0 7 0).bind fun v4 => (dp_si false h v3 v4 x1).bind fun h5 => (dp_gi h5 x0 7 0).bind fun v6 => (dp_p h5 x0 7 0 (.inl (v6 + 1))).bind fun h7 => (dp_gi h7 x0 7 0).bind fun v8 => some (h7, v8))))
abbrev rm_X7_blank : Room := { frames := 0, cells := 0, slots := 0, locals := 0 }
def m_X7_blank (h : dp_H) (x0 : Nat) : Option (dp_H × Int32) := dp_ck h x0 7 ((dp_gi h x0 7 0).bind fun v1 => (dp_p h x0 7 0 (.inl 0)).bind fun h2 => some (h2, v1))
abbrev rm_X7_letsNext : Room := { frames := 0, cells := 0, slots := 0, locals := 0 }
def m_X7_letsNext (h : dp_H) (x0 : Nat) (x1 : Int32) : Option (dp_H × Int32) := dp_ck h x0 7 ((dp_gr h x0 7 18).bind fun v1 => (dp_gi h x0 7 16).bind fun v2 => (dp_si false h v1 v2 x1).bind fun h3 => (dp_gi h3 x0 7 16).bind fun v4 => (dp_p h3 x0 7 16 (.inl (v4 + 1))).bind fun h5 => (dp_p h5 x0 7 15 (.inl 0)).bind fun h6 => some (h6, 1))
abbrev rm_X7_takesPlace : Room := { frames := 1, cells := 0, slots := 0, locals := 22 }
def b_X7_takesPlace_98  (h : dp_H) (x0 : Nat) (x1 : Int32) (y0 : Int32) : Option (dp_H × Int32) := if y0 = 0 then (some (h, 0)) else (if x1 = 78 then (dp_b2 (m_X7_letsNext h x0 1020) fun h5 v6 => if v6 = 0 then (some (h5, 0)) else (some (h5, 1))) else (if x1 = 88 then (dp_b2 (m_X7_letsNext h x0 1023) fun h3 v4 => if v4 = 0 then (some (h3, 0)) else (some (h3, 1))) else (dp_b2 (m_X7_letsNext h x0 (1 <<< ((x1 - 48) &&& 31))) fun h1 v2 => if v2 = 0 then (some (h1, 0)) else (some (h1, 1)))))
def b_X7_takesPlace_46  (h : dp_H) (x0 : Nat) (x1 : Int32) : Option (dp_H × Int32) := (dp_gi h x0 7 16).bind fun v1 => if v1 = 8 then (some (h, 0)) else (if x1 = 91 then ((dp_p h x0 7 15 (.inl 1)).bind fun h3 => some (h3, 1)) else ((m_X7_within h x1 48 57).bind fun v2 => if v2 = 0 then (if x1 = 78 then (b_X7_takesPlace_98 h x0 x1 1) else (if x1 = 88 then (b_X7_takesPlace_98 h x0 x1 1) else (b_X7_takesPlace_98 h x0 x1 0))) else (b_X7_takesPlace_98 h x0 x1 1)))
def b_X7_takesPlace_21  (h : dp_H) (x0 : Nat) (x1 : Int32) : Option (dp_H × Int32) := if x1 = 46 then ((dp_gi h x0 7 16).bind fun v1 => if v1 ≤ 0 then (b_X7_takesPlace_46 h x0 x1) else ((dp_p h x0 7 17 (.inl 1)).bind fun h2 => (dp_p h2 x0 7 15 (.inl 5)).bind fun h3 => some (h3, 1))) else (b_X7_takesPlace_46 h x0 x1)
def m_X7_takesPlace (h : dp_H) (x0 : Nat) (x1 : Int32) : Option (dp_H × Int32) := dp_ck h x0 7 (if x1 = 61 then ((dp_gi h x0 7 16).bind fun v1 => if v1 ≤ 0 then (b_X7_takesPlace_21 h x0 x1) else ((dp_p h x0 7 15 (.inl 6)).bind fun h2 => some (h2, 1))) else (b_X7_takesPlace_21 h x0 x1))
abbrev rm_X7_takesSpan : Room := { frames := 1, cells := 0, slots := 0, locals := 22 }
def b_X7_takesSpan_149  (h : dp_H) (x0 : Nat) (x3 : Int32) (y0 : Int32) (y1 : Nat) : Option (dp_H × Int32) := (dp_p h y1 7 21 (.inl y0)).bind fun h1 => (dp_gi h1 x0 7 15).bind fun v2 => if x3 = 0 then ((dp_p h1 x0 7 15 (.inl (v2 + 0))).bind fun h3 => dp_b x3 (some (h3, x3))) else ((dp_p h1 x0 7 15 (.inl (v2 + 1))).bind fun h4 => dp_b x3 (some (h4, x3)))
def b_X7_takesSpan_112  (h : dp_H) (x0 : Nat) (x2 : Int32) (x3 : Int32) : Option (dp_H × Int32) := (dp_gi h x0 7 15).bind fun v1 => if v1 = 1 then ((dp_p h x0 7 19 (.inl x2)).bind fun h6 => (dp_gi h6 x0 7 15).bind fun v7 => if v7 = 3 then (b_X7_takesSpan_149 h6 x0 x3 x2 x0) else ((dp_gi h6 x0 7 21).bind fun v8 => b_X7_takesSpan_149 h6 x0 x3 v8 x0)) else ((dp_gi h x0 7 19).bind fun v2 => (dp_p h x0 7 19 (.inl v2)).bind fun h3 => (dp_gi h3 x0 7 15).bind fun v4 => if v4 = 3 then (b_X7_takesSpan_149 h3 x0 x3 x2 x0) else ((dp_gi h3 x0 7 21).bind fun v5 => b_X7_takesSpan_149 h3 x0 x3 v5 x0))
def b_X7_takesSpan_79  (h : dp_H) (x0 : Nat) (x2 : Int32) (y0 : Int32) : Option (dp_H × Int32) := if y0 = 0 then (b_X7_takesSpan_112 h x0 x2 y0) else ((dp_gi h x0 7 15).bind fun v1 => if v1 = 4 then ((dp_gi h x0 7 21).bind fun v2 => (dp_gi h x0 7 19).bind fun v3 => dp_b2 (m_X7_letsNext h x0 ((1 <<< ((v2 + 1) &&& 31)) - (1 <<< (v3 &&& 31)))) fun h4 v5 => dp_b v5 (some (h4, v5))) else (b_X7_takesSpan_112 h x0 x2 y0))
def m_X7_takesSpan (h : dp_H) (x0 : Nat) (x1 : Int32) : Option (dp_H × Int32) := dp_ck h x0 7 ((dp_gi h x0 7 15).bind fun v1 => if v1 = 1 then ((m_X7_within h (x1 - 48) 0 8).bind fun v6 => b_X7_takesSpan_79 h x0 (x1 - 48) v6) else ((dp_gi h x0 7 15).bind fun v2 => if v2 = 2 then (if x1 = 45 then (b_X7_takesSpan_79 h x0 (x1 - 48) 1) else (b_X7_takesSpan_79 h x0 (x1 - 48) 0)) else ((dp_gi h x0 7 15).bind fun v3 => if v3 = 3 then ((dp_gi h x0 7 19).bind fun v4 => (m_X7_within h (x1 - 48) (v4 + 1) 9).bind fun v5 => b_X7_takesSpan_79 h x0 (x1 - 48) v5) else (if x1 = 93 then (b_X7_takesSpan_79 h x0 (x1 - 48) 1) else (b_X7_takesSpan_79 h x0 (x1 - 48) 0)))))
abbrev rm_X7_takesWay : Room := { frames := 1, cells := 0, slots := 0, locals := 22 }
def m_X7_takesWay (h : dp_H) (x0 : Nat) (x1 : Int32) : Option (dp_H × Int32) := dp_ck h x0 7 ((m_X7_within h x1 97 104).bind fun v1 => if v1 = 0 then (if x1 = 45 then ((dp_p h x0 7 20 (.inl 8)).bind fun h11 => (dp_p h11 x0 7 15 (.inl 7)).bind fun h12 => (dp_gi h12 x0 7 20).bind fun v13 => if v13 = (-1) then (some (h12, 0)) else (some (h12, 1))) else (if x1 = 33 then ((dp_p h x0 7 20 (.inl 9)).bind fun h8 => (dp_p h8 x0 7 15 (.inl 7)).bind fun h9 => (dp_gi h9 x0 7 20).bind fun v10 => if v10 = (-1) then (some (h9, 0)) else (some (h9, 1))) else (if x1 = 42 then ((dp_p h x0 7 20 (.inl 10)).bind fun h5 => (dp_p h5 x0 7 15 (.inl 7)).bind fun h6 => (dp_gi h6 x0 7 20).bind fun v7 => if v7 = (-1) then (some (h6, 0)) else (some (h6, 1))) else ((dp_p h x0 7 20 (.inl (-1))).bind fun h2 => (dp_p h2 x0 7 15 (.inl 7)).bind fun h3 => (dp_gi h3 x0 7 20).bind fun v4 => if v4 = (-1) then (some (h3, 0)) else (some (h3, 1)))))) else ((dp_p h x0 7 20 (.inl (x1 - 97))).bind fun h14 => (dp_p h14 x0 7 15 (.inl 7)).bind fun h15 => (dp_gi h15 x0 7 20).bind fun v16 => if v16 = (-1) then (some (h15, 0)) else (some (h15, 1))))
abbrev rm_X7_takesDrop : Room := { frames := 1, cells := 0, slots := 0, locals := 22 }
def m_X7_takesDrop (h : dp_H) (x0 : Nat) (x1 : Int32) : Option (dp_H × Int32) := dp_ck h x0 7 ((dp_p h x0 7 21 (.inl x1)).bind fun h1 => (dp_p h1 x0 7 15 (.inl 9)).bind fun h2 => (dp_gi h2 x0 7 16).bind fun v3 => (m_X7_within h2 x1 0 v3).bind fun v4 => dp_b v4 (some (h2, v4)))
abbrev rm_X7_takesAhead : Room := { frames := 1, cells := 0, slots := 0, locals := 22 }
def b_X7_takesAhead_23  (h : dp_H) (x0 : Nat) (x1 : Int32) (y0 : Int32) : Option (dp_H × Int32) := if y0 = 0 then (dp_b y0 (some (h, y0))) else ((dp_gr h x0 7 23).bind fun v1 => (dp_gi h x0 7 22).bind fun v2 => (dp_si false h v1 v2 x1).bind fun h3 => (dp_gi h3 x0 7 22).bind fun v4 => (dp_p h3 x0 7 22 (.inl (v4 + 1))).bind fun h5 => dp_b y0 (some (h5, y0)))
def m_X7_takesAhead (h : dp_H) (x0 : Nat) (x1 : Int32) : Option (dp_H × Int32) := dp_ck h x0 7 ((m_X7_within h x1 0 9).bind fun v1 => if v1 = 0 then (b_X7_takesAhead_23 h x0 x1 0) else ((dp_gi h x0 7 22).bind fun v2 => if 4 ≤ v2 then (b_X7_takesAhead_23 h x0 x1 0) else (b_X7_takesAhead_23 h x0 x1 1)))
abbrev rm_X7_takes : Room := { frames := 2, cells := 0, slots := 0, locals := 45 }
def m_X7_takes (h : dp_H) (x0 : Nat) (x1 : Int32) : Option (dp_H × Int32) := dp_ck h x0 7 ((dp_gi h x0 7 15).bind fun v1 => if v1 = 0 then (dp_b2 (m_X7_takesPlace h x0 x1) fun h14 v15 => dp_b v15 (some (h14, v15))) else ((dp_gi h x0 7 15).bind fun v2 => if 5 ≤ v2 then ((dp_gi h x0 7 15).bind fun v3 => if v3 = 5 then ((dp_p h x0 7 15 (.inl 6)).bind fun h4 => if x1 = 61 then (some (h4, 1)) else (some (h4, 0))) else if v3 = 6 then (dp_b2 (m_X7_takesWay h x0 x1) fun h5 v6 => dp_b v6 (some (h5, v6))) else if v3 = 7 then ((dp_p h x0 7 15 (.inl 8)).bind fun h7 => if x1 = 58 then (some (h7, 1)) else (some (h7, 0))) else if v3 = 8 then (dp_b2 (m_X7_takesDrop h x0 (x1 - 48)) fun h8 v9 => dp_b v9 (some (h8, v9))) else (dp_b2 (m_X7_takesAhead h x0 (x1 - 48)) fun h10 v11 => dp_b v11 (some (h10, v11)))) else (dp_b2 (m_X7_takesSpan h x0 x1) fun h12 v13 => dp_b v13 (some (h12, v13)))))
abbrev rm_X7_goAlong : Room := { frames := 3, cells := 0, slots := 0, locals := 66 }
def b_X7_goAlong_22 (k22 : dp_H → Nat → Int32 → Option (dp_H × Int32)) (h : dp_H) (x0 : Nat) (x1 : Int32) : Option (dp_H × Int32) := (dp_gi h x0 7 0).bind fun v1 => if v1 ≤ x1 then (some (h, x1)) else ((dp_gr h x0 7 1).bind fun v2 => (dp_ai false h v2 x1).bind fun v3 => dp_b2 (m_X7_takes h x0 v3) fun h4 v5 => if v5 = 0 then (some (h4, x1)) else (k22 h4 x0 (x1 + 1)))
def m_X7_goAlong_22  : Nat → dp_H → Nat → Int32 → Option (dp_H × Int32)
  | 0 => fun _ _ _ => none
  | n + 1 => fun h x0 x1 => b_X7_goAlong_22 (m_X7_goAlong_22  n) h x0 x1
def m_X7_goAlong (h : dp_H) (x0 : Nat) : Option (dp_H × Int32) := dp_ck h x0 7 ((dp_p h x0 7 15 (.inl 0)).bind fun h1 => (dp_p h1 x0 7 16 (.inl 0)).bind fun h2 => (dp_p h2 x0 7 17 (.inl 0)).bind fun h3 => (dp_p h3 x0 7 22 (.inl 0)).bind fun h4 => m_X7_goAlong_22 64 h4 x0 0)
abbrev rm_X7_fault : Room := { frames := 4, cells := 0, slots := 0, locals := 87 }
def m_X7_fault (h : dp_H) (x0 : Nat) : Option (dp_H × Int32) := dp_ck h x0 7 (dp_b2 (m_X7_goAlong h x0) fun h1 v2 => some (h1, v2))
abbrev rm_X7_keepPattern : Room := { frames := 0, cells := 0, slots := 0, locals := 0 }
def b_X7_keepPattern_85 (k85 : dp_H → Nat → Int32 → Int32 → Option dp_H) (h : dp_H) (x0 : Nat) (x1 : Int32) (x2 : Int32) : Option dp_H := (dp_gi h x0 7 22).bind fun v1 => if v1 ≤ x2 then (some h) else ((dp_gr h x0 7 9).bind fun v2 => (dp_gr h x0 7 23).bind fun v3 => (dp_ai false h v3 x2).bind fun v4 => (dp_si false h v2 ((4 * x1) + x2) v4).bind fun h5 => k85 h5 x0 x1 (x2 + 1))
def m_X7_keepPattern_85  : Nat → dp_H → Nat → Int32 → Int32 → Option dp_H
  | 0 => fun _ _ _ _ => none
  | n + 1 => fun h x0 x1 x2 => b_X7_keepPattern_85 (m_X7_keepPattern_85  n) h x0 x1 x2
def b_X7_keepPattern_52 (k52 : dp_H → Nat → Int32 → Int32 → Option dp_H) (h : dp_H) (x0 : Nat) (x1 : Int32) (x2 : Int32) : Option dp_H := (dp_gi h x0 7 16).bind fun v1 => if v1 ≤ x2 then (m_X7_keepPattern_85 64 h x0 x1 0) else ((dp_gr h x0 7 5).bind fun v2 => (dp_gr h x0 7 18).bind fun v3 => (dp_ai false h v3 x2).bind fun v4 => (dp_si false h v2 ((8 * x1) + x2) v4).bind fun h5 => k52 h5 x0 x1 (x2 + 1))
def m_X7_keepPattern_52  : Nat → dp_H → Nat → Int32 → Int32 → Option dp_H
  | 0 => fun _ _ _ _ => none
  | n + 1 => fun h x0 x1 x2 => b_X7_keepPattern_52 (m_X7_keepPattern_52  n) h x0 x1 x2
def m_X7_keepPattern (h : dp_H) (x0 : Nat) (x1 : Int32) : Option dp_H := dp_ck h x0 7 ((dp_gr h x0 7 3).bind fun v1 => (dp_gi h x0 7 16).bind fun v2 => (dp_si false h v1 x1 v2).bind fun h3 => (dp_gr h3 x0 7 4).bind fun v4 => (dp_gi h3 x0 7 17).bind fun v5 => dp_b v5 ((dp_si true h3 v4 x1 v5).bind fun h6 => (dp_gr h6 x0 7 6).bind fun v7 => (dp_gi h6 x0 7 20).bind fun v8 => (dp_si false h6 v7 x1 v8).bind fun h9 => (dp_gr h9 x0 7 7).bind fun v10 => (dp_gi h9 x0 7 21).bind fun v11 => (dp_si false h9 v10 x1 v11).bind fun h12 => (dp_gr h12 x0 7 8).bind fun v13 => (dp_gi h12 x0 7 22).bind fun v14 => (dp_si false h12 v13 x1 v14).bind fun h15 => m_X7_keepPattern_52 64 h15 x0 x1 0))
abbrev rm_X7_add : Room := { frames := 4, cells := 0, slots := 0, locals := 87 }
def m_X7_add (h : dp_H) (x0 : Nat) : Option (dp_H × Int32) := dp_ck h x0 7 (dp_b2 (m_X7_goAlong h x0) fun h1 v2 => (dp_gi h1 x0 7 0).bind fun v3 => if v2 < v3 then (some (h1, (-1003))) else ((dp_gi h1 x0 7 15).bind fun v4 => if v4 = 9 then ((dp_gi h1 x0 7 27).bind fun v5 => if v5 = 0 then ((dp_gi h1 x0 7 2).bind fun v6 => if v6 = 10 then (some (h1, (-1004))) else ((dp_gi h1 x0 7 2).bind fun v7 => (m_X7_keepPattern h1 x0 v7).bind fun h8 => (dp_gi h8 x0 7 2).bind fun v9 => (dp_p h8 x0 7 2 (.inl (v9 + 1))).bind fun h10 => (dp_p h10 x0 7 0 (.inl 0)).bind fun h11 => (dp_gi h11 x0 7 2).bind fun v12 => some (h11, (v12 - 1)))) else (some (h1, (-1003)))) else (some (h1, (-1003)))))
abbrev rm_X7_isPattern : Room := { frames := 1, cells := 0, slots := 0, locals := 22 }
def m_X7_isPattern (h : dp_H) (x0 : Nat) (x1 : Int32) : Option Int32 := dp_ck h x0 7 ((dp_gi h x0 7 2).bind fun v1 => (m_X7_within h x1 0 (v1 - 1)).bind fun v2 => dp_b v2 (some v2))
abbrev rm_X7_copy : Room := { frames := 0, cells := 0, slots := 0, locals := 0 }
def b_X7_copy_98 (k98 : dp_H → Nat → Int32 → Int32 → Int32 → Option dp_H) (h : dp_H) (x0 : Nat) (x1 : Int32) (x2 : Int32) (x3 : Int32) : Option dp_H := if 4 ≤ x3 then (some h) else ((dp_gr h x0 7 9).bind fun v1 => (dp_gr h x0 7 9).bind fun v2 => (dp_ai false h v2 ((4 * x1) + x3)).bind fun v3 => (dp_si false h v1 ((4 * x2) + x3) v3).bind fun h4 => k98 h4 x0 x1 x2 (x3 + 1))
def m_X7_copy_98  : Nat → dp_H → Nat → Int32 → Int32 → Int32 → Option dp_H
  | 0 => fun _ _ _ _ _ => none
  | n + 1 => fun h x0 x1 x2 x3 => b_X7_copy_98 (m_X7_copy_98  n) h x0 x1 x2 x3
def b_X7_copy_62 (k62 : dp_H → Nat → Int32 → Int32 → Int32 → Option dp_H) (h : dp_H) (x0 : Nat) (x1 : Int32) (x2 : Int32) (x3 : Int32) : Option dp_H := if 8 ≤ x3 then (m_X7_copy_98 64 h x0 x1 x2 0) else ((dp_gr h x0 7 5).bind fun v1 => (dp_gr h x0 7 5).bind fun v2 => (dp_ai false h v2 ((8 * x1) + x3)).bind fun v3 => (dp_si false h v1 ((8 * x2) + x3) v3).bind fun h4 => k62 h4 x0 x1 x2 (x3 + 1))
def m_X7_copy_62  : Nat → dp_H → Nat → Int32 → Int32 → Int32 → Option dp_H
  | 0 => fun _ _ _ _ _ => none
  | n + 1 => fun h x0 x1 x2 x3 => b_X7_copy_62 (m_X7_copy_62  n) h x0 x1 x2 x3
def m_X7_copy (h : dp_H) (x0 : Nat) (x1 : Int32) (x2 : Int32) : Option dp_H := dp_ck h x0 7 ((dp_gr h x0 7 3).bind fun v1 => (dp_gr h x0 7 3).bind fun v2 => (dp_ai false h v2 x1).bind fun v3 => (dp_si false h v1 x2 v3).bind fun h4 => (dp_gr h4 x0 7 4).bind fun v5 => (dp_gr h4 x0 7 4).bind fun v6 => (dp_ai true h4 v6 x1).bind fun v7 => dp_b v7 ((dp_si true h4 v5 x2 v7).bind fun h8 => (dp_gr h8 x0 7 6).bind fun v9 => (dp_gr h8 x0 7 6).bind fun v10 => (dp_ai false h8 v10 x1).bind fun v11 => (dp_si false h8 v9 x2 v11).bind fun h12 => (dp_gr h12 x0 7 7).bind fun v13 => (dp_gr h12 x0 7 7).bind fun v14 => (dp_ai false h12 v14 x1).bind fun v15 => (dp_si false h12 v13 x2 v15).bind fun h16 => (dp_gr h16 x0 7 8).bind fun v17 => (dp_gr h16 x0 7 8).bind fun v18 => (dp_ai false h16 v18 x1).bind fun v19 => (dp_si false h16 v17 x2 v19).bind fun h20 => m_X7_copy_62 64 h20 x0 x1 x2 0))
abbrev rm_X7_drop : Room := { frames := 2, cells := 0, slots := 0, locals := 43 }
def b_X7_drop_35 (k35 : dp_H → Nat → Int32 → Option (dp_H × Int32)) (h : dp_H) (x0 : Nat) (x2 : Int32) : Option (dp_H × Int32) := (dp_gi h x0 7 2).bind fun v1 => if v1 ≤ x2 then ((dp_gi h x0 7 2).bind fun v2 => some (h, v2)) else ((m_X7_copy h x0 (x2 + 1) x2).bind fun h3 => k35 h3 x0 (x2 + 1))
def m_X7_drop_35  : Nat → dp_H → Nat → Int32 → Option (dp_H × Int32)
  | 0 => fun _ _ _ => none
  | n + 1 => fun h x0 x2 => b_X7_drop_35 (m_X7_drop_35  n) h x0 x2
def m_X7_drop (h : dp_H) (x0 : Nat) (x1 : Int32) : Option (dp_H × Int32) := dp_ck h x0 7 ((m_X7_isPattern h x0 x1).bind fun v1 => if v1 = 0 then (some (h, (-1001))) else ((dp_gi h x0 7 27).bind fun v2 => if v2 = 0 then ((dp_gi h x0 7 2).bind fun v3 => (dp_p h x0 7 2 (.inl (v3 - 1))).bind fun h4 => m_X7_drop_35 64 h4 x0 x1) else (some (h, (-1003)))))
abbrev rm_X7_letsOf : Room := { frames := 0, cells := 0, slots := 0, locals := 0 }
def m_X7_letsOf (h : dp_H) (x0 : Nat) (x1 : Int32) (x2 : Int32) : Option Int32 := dp_ck h x0 7 ((dp_gr h x0 7 3).bind fun v1 => (dp_ai false h v1 x1).bind fun v2 => if v2 ≤ x2 then ((dp_gr h x0 7 4).bind fun v3 => (dp_ai true h v3 x1).bind fun v4 => if v4 = 0 then (some 0) else (some 1023)) else ((dp_gr h x0 7 5).bind fun v5 => (dp_ai false h v5 ((8 * x1) + x2)).bind fun v6 => some v6))
abbrev rm_X7_aheadNumber : Room := { frames := 0, cells := 0, slots := 0, locals := 0 }
def b_X7_aheadNumber_4 (h : dp_H) (k4 : Nat → Int32 → Int32 → Int32 → Option Int32) (x0 : Nat) (x1 : Int32) (x2 : Int32) (x3 : Int32) : Option Int32 := (dp_gr h x0 7 8).bind fun v1 => (dp_ai false h v1 x1).bind fun v2 => if v2 ≤ x3 then (some x2) else ((dp_gr h x0 7 9).bind fun v3 => (dp_ai false h v3 ((4 * x1) + x3)).bind fun v4 => k4 x0 x1 ((10 * x2) + v4) (x3 + 1))
def m_X7_aheadNumber_4 (h : dp_H)  : Nat → Nat → Int32 → Int32 → Int32 → Option Int32
  | 0 => fun _ _ _ _ => none
  | n + 1 => fun x0 x1 x2 x3 => b_X7_aheadNumber_4 h (m_X7_aheadNumber_4 h  n) x0 x1 x2 x3
def m_X7_aheadNumber (h : dp_H) (x0 : Nat) (x1 : Int32) : Option Int32 := dp_ck h x0 7 (m_X7_aheadNumber_4 h 64 x0 x1 0 0)
abbrev rm_X7_patternNow : Room := { frames := 1, cells := 0, slots := 0, locals := 23 }
def m_X7_patternNow (h : dp_H) (x0 : Nat) (x1 : Int32) (x2 : Int32) : Option Int32 := dp_ck h x0 7 (if x2 = 0 then ((dp_gr h x0 7 3).bind fun v1 => (dp_ai false h v1 x1).bind fun v2 => some v2) else if x2 = 1 then ((dp_gr h x0 7 4).bind fun v3 => (dp_ai true h v3 x1).bind fun v4 => if v4 = 0 then (some 0) else (some 1)) else if x2 = 2 then ((dp_gr h x0 7 6).bind fun v5 => (dp_ai false h v5 x1).bind fun v6 => some v6) else if x2 = 3 then ((dp_gr h x0 7 7).bind fun v7 => (dp_ai false h v7 x1).bind fun v8 => some v8) else if x2 = 4 then ((dp_gr h x0 7 8).bind fun v9 => (dp_ai false h v9 x1).bind fun v10 => some v10) else ((m_X7_aheadNumber h x0 x1).bind fun v11 => some v11))
abbrev rm_X7_pattern : Room := { frames := 2, cells := 0, slots := 0, locals := 45 }
def m_X7_pattern (h : dp_H) (x0 : Nat) (x1 : Int32) (x2 : Int32) : Option Int32 := dp_ck h x0 7 ((m_X7_isPattern h x0 x1).bind fun v1 => if v1 = 0 then (some (-1001)) else ((m_X7_within h x2 0 5).bind fun v2 => if v2 = 0 then (some (-1002)) else ((m_X7_patternNow h x0 x1 x2).bind fun v3 => some v3)))
abbrev rm_X7_lets : Room := { frames := 2, cells := 0, slots := 0, locals := 43 }
def m_X7_lets (h : dp_H) (x0 : Nat) (x1 : Int32) (x2 : Int32) : Option Int32 := dp_ck h x0 7 ((m_X7_isPattern h x0 x1).bind fun v1 => if v1 = 0 then (some (-1001)) else ((m_X7_within h x2 0 9).bind fun v2 => if v2 = 0 then (some (-1002)) else ((m_X7_letsOf h x0 x1 x2).bind fun v3 => some v3)))
abbrev rm_X7_wide : Room := { frames := 1, cells := 0, slots := 0, locals := 22 }
def m_X7_wide (h : dp_H) (x0 : Nat) (x1 : Int32) (x2 : Int32) : Option Int32 := dp_ck h x0 7 ((dp_gr h x0 7 3).bind fun v1 => (dp_ai false h v1 x1).bind fun v2 => if v2 ≤ x2 then ((dp_gr h x0 7 4).bind fun v3 => (dp_ai true h v3 x1).bind fun v4 => if v4 = 0 then (some 0) else (some 11)) else ((dp_gr h x0 7 5).bind fun v5 => (dp_ai false h v5 ((8 * x1) + x2)).bind fun v6 => (m_X7_ones h v6).bind fun v7 => some v7))
abbrev rm_X7_compare : Room := { frames := 2, cells := 0, slots := 0, locals := 44 }
def b_X7_compare_5 (h : dp_H) (k5 : Nat → Int32 → Int32 → Int32 → Int32 → Option Int32) (x0 : Nat) (x1 : Int32) (x2 : Int32) (x3 : Int32) (x4 : Int32) : Option Int32 := if 10 ≤ x4 then (some x3) else (if x3 = 0 then ((m_X7_wide h x0 x1 x4).bind fun v1 => (m_X7_wide h x0 x2 x4).bind fun v2 => k5 x0 x1 x2 (v1 - v2) (x4 + 1)) else (some x3))
def m_X7_compare_5 (h : dp_H)  : Nat → Nat → Int32 → Int32 → Int32 → Int32 → Option Int32
  | 0 => fun _ _ _ _ _ => none
  | n + 1 => fun x0 x1 x2 x3 x4 => b_X7_compare_5 h (m_X7_compare_5 h  n) x0 x1 x2 x3 x4
def m_X7_compare (h : dp_H) (x0 : Nat) (x1 : Int32) (x2 : Int32) : Option Int32 := dp_ck h x0 7 (m_X7_compare_5 h 64 x0 x1 x2 0 0)
abbrev rm_X7_narrower : Room := { frames := 3, cells := 0, slots := 0, locals := 68 }
def m_X7_narrower (h : dp_H) (x0 : Nat) (x1 : Int32) (x2 : Int32) : Option Int32 := dp_ck h x0 7 ((m_X7_isPattern h x0 x1).bind fun v1 => if v1 = 0 then (some (-1001)) else ((m_X7_isPattern h x0 x2).bind fun v2 => if v2 = 0 then (some (-1001)) else ((m_X7_compare h x0 x1 x2).bind fun v3 => if 0 ≤ v3 then (if v3 ≤ 0 then (some 2) else (some 1)) else (some 0))))
abbrev rm_X7_areLike : Room := { frames := 1, cells := 0, slots := 0, locals := 23 }
def b_X7_areLike_50 (h : dp_H)  (x0 : Nat) (x1 : Int32) (x2 : Int32) (y0 : Int32) : Option Int32 := if y0 = 0 then (some 0) else ((m_X7_aheadNumber h x0 x1).bind fun v1 => (m_X7_aheadNumber h x0 x2).bind fun v2 => if v1 = v2 then (some 1) else (some 0))
def m_X7_areLike (h : dp_H) (x0 : Nat) (x1 : Int32) (x2 : Int32) : Option Int32 := dp_ck h x0 7 ((dp_gr h x0 7 6).bind fun v1 => (dp_ai false h v1 x1).bind fun v2 => (dp_gr h x0 7 6).bind fun v3 => (dp_ai false h v3 x2).bind fun v4 => if v2 = v4 then ((dp_gr h x0 7 7).bind fun v5 => (dp_ai false h v5 x1).bind fun v6 => (dp_gr h x0 7 7).bind fun v7 => (dp_ai false h v7 x2).bind fun v8 => if v6 = v8 then ((dp_gr h x0 7 8).bind fun v9 => (dp_ai false h v9 x1).bind fun v10 => (dp_gr h x0 7 8).bind fun v11 => (dp_ai false h v11 x2).bind fun v12 => if v10 = v12 then (b_X7_areLike_50 h x0 x1 x2 1) else (b_X7_areLike_50 h x0 x1 x2 0)) else (b_X7_areLike_50 h x0 x1 x2 0)) else (b_X7_areLike_50 h x0 x1 x2 0))
abbrev rm_X7_isClash : Room := { frames := 3, cells := 0, slots := 0, locals := 68 }
def b_X7_isClash_27 (h : dp_H) (k27 : Nat → Int32 → Int32 → Int32 → Int32 → Option Int32) (x0 : Nat) (x1 : Int32) (x2 : Int32) (x3 : Int32) (x4 : Int32) : Option Int32 := (dp_gr h x0 7 3).bind fun v1 => (dp_ai false h v1 x1).bind fun v2 => if v2 ≤ x4 then (dp_b x3 (some x3)) else (if x3 = 0 then (dp_b x3 (some x3)) else ((m_X7_letsOf h x0 x1 x4).bind fun v3 => (m_X7_letsOf h x0 x2 x4).bind fun v4 => if (v3 &&& v4) = 0 then (k27 x0 x1 x2 0 (x4 + 1)) else (k27 x0 x1 x2 1 (x4 + 1))))
def m_X7_isClash_27 (h : dp_H)  : Nat → Nat → Int32 → Int32 → Int32 → Int32 → Option Int32
  | 0 => fun _ _ _ _ _ => none
  | n + 1 => fun x0 x1 x2 x3 x4 => b_X7_isClash_27 h (m_X7_isClash_27 h  n) x0 x1 x2 x3 x4
def m_X7_isClash (h : dp_H) (x0 : Nat) (x1 : Int32) (x2 : Int32) : Option Int32 := dp_ck h x0 7 ((m_X7_compare h x0 x1 x2).bind fun v1 => if v1 = 0 then ((m_X7_areLike h x0 x1 x2).bind fun v2 => if v2 = 0 then (m_X7_isClash_27 h 64 x0 x1 x2 1 0) else (m_X7_isClash_27 h 64 x0 x1 x2 0 0)) else (m_X7_isClash_27 h 64 x0 x1 x2 0 0))
abbrev rm_X7_clashAt : Room := { frames := 4, cells := 0, slots := 0, locals := 92 }
def b_X7_clashAt_21 (h : dp_H) (k4 : Nat → Int32 → Int32 → Option Int32) (k21 : Nat → Int32 → Int32 → Int32 → Option Int32) (x0 : Nat) (x2 : Int32) (x3 : Int32) (x4 : Int32) : Option Int32 := (dp_gi h x0 7 2).bind fun v1 => if v1 ≤ x4 then (k4 x0 x2 (x3 + 1)) else ((m_X7_isClash h x0 x3 x4).bind fun v2 => if v2 = 0 then (k21 x0 x2 x3 (x4 + 1)) else (if x2 = 0 then (some ((16 * x3) + x4)) else (k21 x0 (x2 + (-1)) x3 (x4 + 1))))
def m_X7_clashAt_21 (h : dp_H) (k4 : Nat → Int32 → Int32 → Option Int32) : Nat → Nat → Int32 → Int32 → Int32 → Option Int32
  | 0 => fun _ _ _ _ => none
  | n + 1 => fun x0 x2 x3 x4 => b_X7_clashAt_21 h k4 (m_X7_clashAt_21 h k4 n) x0 x2 x3 x4
def b_X7_clashAt_4 (h : dp_H) (k4 : Nat → Int32 → Int32 → Option Int32) (x0 : Nat) (x2 : Int32) (x3 : Int32) : Option Int32 := (dp_gi h x0 7 2).bind fun v1 => if v1 ≤ x3 then (some (-1)) else (if x2 < 0 then (some (-1)) else (m_X7_clashAt_21 h k4 64 x0 x2 x3 (x3 + 1)))
def m_X7_clashAt_4 (h : dp_H)  : Nat → Nat → Int32 → Int32 → Option Int32
  | 0 => fun _ _ _ => none
  | n + 1 => fun x0 x2 x3 => b_X7_clashAt_4 h (m_X7_clashAt_4 h  n) x0 x2 x3
def m_X7_clashAt (h : dp_H) (x0 : Nat) (x1 : Int32) : Option Int32 := dp_ck h x0 7 (m_X7_clashAt_4 h 64 x0 x1 0)
abbrev rm_X7_clash : Room := { frames := 5, cells := 0, slots := 0, locals := 116 }
def m_X7_clash (h : dp_H) (x0 : Nat) (x1 : Int32) : Option Int32 := dp_ck h x0 7 ((m_X7_clashAt h x0 x1).bind fun v1 => if v1 = (-1) then (some (-1001)) else (some v1))
abbrev rm_X7_clashes : Room := { frames := 4, cells := 0, slots := 0, locals := 92 }
def b_X7_clashes_16 (h : dp_H) (k4 : Nat → Int32 → Int32 → Option Int32) (k16 : Nat → Int32 → Int32 → Int32 → Option Int32) (x0 : Nat) (x1 : Int32) (x2 : Int32) (x3 : Int32) : Option Int32 := (dp_gi h x0 7 2).bind fun v1 => if v1 ≤ x3 then (k4 x0 x1 (x2 + 1)) else ((m_X7_isClash h x0 x2 x3).bind fun v2 => if v2 = 0 then (k16 x0 (x1 + 0) x2 (x3 + 1)) else (k16 x0 (x1 + 1) x2 (x3 + 1)))
def m_X7_clashes_16 (h : dp_H) (k4 : Nat → Int32 → Int32 → Option Int32) : Nat → Nat → Int32 → Int32 → Int32 → Option Int32
  | 0 => fun _ _ _ _ => none
  | n + 1 => fun x0 x1 x2 x3 => b_X7_clashes_16 h k4 (m_X7_clashes_16 h k4 n) x0 x1 x2 x3
def b_X7_clashes_4 (h : dp_H) (k4 : Nat → Int32 → Int32 → Option Int32) (x0 : Nat) (x1 : Int32) (x2 : Int32) : Option Int32 := (dp_gi h x0 7 2).bind fun v1 => if v1 ≤ x2 then (some x1) else (m_X7_clashes_16 h k4 64 x0 x1 x2 (x2 + 1))
def m_X7_clashes_4 (h : dp_H)  : Nat → Nat → Int32 → Int32 → Option Int32
  | 0 => fun _ _ _ => none
  | n + 1 => fun x0 x1 x2 => b_X7_clashes_4 h (m_X7_clashes_4 h  n) x0 x1 x2
def m_X7_clashes (h : dp_H) (x0 : Nat) : Option Int32 := dp_ck h x0 7 (m_X7_clashes_4 h 64 x0 0 0)
abbrev rm_X7_begins : Room := { frames := 1, cells := 0, slots := 0, locals := 22 }
def b_X7_begins_5 (h : dp_H) (k5 : Nat → Int32 → Int32 → Int32 → Int32 → Option Int32) (x0 : Nat) (x1 : Int32) (x2 : Int32) (x3 : Int32) (x4 : Int32) : Option Int32 := if x2 ≤ x4 then (dp_b x3 (some x3)) else (if x3 = 0 then (k5 x0 x1 x2 0 (x4 + 1)) else ((m_X7_letsOf h x0 x1 x4).bind fun v1 => (dp_gr h x0 7 25).bind fun v2 => (dp_ai false h v2 x4).bind fun v3 => if ((v1 >>> (v3 &&& 31)) &&& 1) = 1 then (k5 x0 x1 x2 1 (x4 + 1)) else (k5 x0 x1 x2 0 (x4 + 1))))
def m_X7_begins_5 (h : dp_H)  : Nat → Nat → Int32 → Int32 → Int32 → Int32 → Option Int32
  | 0 => fun _ _ _ _ _ => none
  | n + 1 => fun x0 x1 x2 x3 x4 => b_X7_begins_5 h (m_X7_begins_5 h  n) x0 x1 x2 x3 x4
def m_X7_begins (h : dp_H) (x0 : Nat) (x1 : Int32) (x2 : Int32) : Option Int32 := dp_ck h x0 7 (m_X7_begins_5 h 64 x0 x1 x2 1 0)
abbrev rm_X7_fits : Room := { frames := 2, cells := 0, slots := 0, locals := 46 }
def m_X7_fits (h : dp_H) (x0 : Nat) (x1 : Int32) (x2 : Int32) : Option Int32 := dp_ck h x0 7 ((dp_gr h x0 7 4).bind fun v1 => (dp_ai true h v1 x1).bind fun v2 => if v2 = 0 then ((dp_gr h x0 7 3).bind fun v3 => (dp_ai false h v3 x1).bind fun v4 => if x2 = v4 then ((m_X7_begins h x0 x1 x2).bind fun v5 => if v5 = 0 then (some 0) else (some 1)) else (some 0)) else ((dp_gr h x0 7 3).bind fun v6 => (dp_ai false h v6 x1).bind fun v7 => if x2 < v7 then (some 0) else ((m_X7_begins h x0 x1 x2).bind fun v8 => if v8 = 0 then (some 0) else (some 1))))
abbrev rm_X7_leads : Room := { frames := 2, cells := 0, slots := 0, locals := 46 }
def m_X7_leads (h : dp_H) (x0 : Nat) (x1 : Int32) (x2 : Int32) : Option Int32 := dp_ck h x0 7 ((dp_gr h x0 7 4).bind fun v1 => (dp_ai true h v1 x1).bind fun v2 => if v2 = 0 then ((dp_gr h x0 7 3).bind fun v3 => (dp_ai false h v3 x1).bind fun v4 => if v4 ≤ x2 then (some 0) else ((m_X7_begins h x0 x1 x2).bind fun v5 => if v5 = 0 then (some 0) else (some 1))) else (if 10 ≤ x2 then (some 0) else ((m_X7_begins h x0 x1 x2).bind fun v6 => if v6 = 0 then (some 0) else (some 1))))
abbrev rm_X7_fitting : Room := { frames := 3, cells := 0, slots := 0, locals := 68 }
def b_X7_fitting_4 (h : dp_H) (k4 : Nat → Int32 → Int32 → Int32 → Option Int32) (x0 : Nat) (x1 : Int32) (x2 : Int32) (x3 : Int32) : Option Int32 := (dp_gi h x0 7 2).bind fun v1 => if v1 ≤ x3 then (some x2) else ((m_X7_fits h x0 x3 x1).bind fun v2 => if v2 = 0 then (k4 x0 x1 (x2 ||| 0) (x3 + 1)) else (k4 x0 x1 (x2 ||| (1 <<< (x3 &&& 31))) (x3 + 1)))
def m_X7_fitting_4 (h : dp_H)  : Nat → Nat → Int32 → Int32 → Int32 → Option Int32
  | 0 => fun _ _ _ _ => none
  | n + 1 => fun x0 x1 x2 x3 => b_X7_fitting_4 h (m_X7_fitting_4 h  n) x0 x1 x2 x3
def m_X7_fitting (h : dp_H) (x0 : Nat) (x1 : Int32) : Option Int32 := dp_ck h x0 7 (m_X7_fitting_4 h 64 x0 x1 0 0)
abbrev rm_X7_leading : Room := { frames := 3, cells := 0, slots := 0, locals := 68 }
def b_X7_leading_4 (h : dp_H) (k4 : Nat → Int32 → Int32 → Int32 → Option Int32) (x0 : Nat) (x1 : Int32) (x2 : Int32) (x3 : Int32) : Option Int32 := (dp_gi h x0 7 2).bind fun v1 => if v1 ≤ x3 then (some x2) else ((m_X7_leads h x0 x3 x1).bind fun v2 => if v2 = 0 then (k4 x0 x1 (x2 ||| 0) (x3 + 1)) else (k4 x0 x1 (x2 ||| (1 <<< (x3 &&& 31))) (x3 + 1)))
def m_X7_leading_4 (h : dp_H)  : Nat → Nat → Int32 → Int32 → Int32 → Option Int32
  | 0 => fun _ _ _ _ => none
  | n + 1 => fun x0 x1 x2 x3 => b_X7_leading_4 h (m_X7_leading_4 h  n) x0 x1 x2 x3
def m_X7_leading (h : dp_H) (x0 : Nat) (x1 : Int32) : Option Int32 := dp_ck h x0 7 (m_X7_leading_4 h 64 x0 x1 0 0)
abbrev rm_X7_winner : Room := { frames := 3, cells := 0, slots := 0, locals := 68 }
def b_X7_winner_26 (h : dp_H) (k4 : Nat → Int32 → Int32 → Int32 → Option Int32) (x0 : Nat) (x1 : Int32) (x2 : Int32) (x3 : Int32) (y0 : Int32) : Option Int32 := if y0 = 0 then (k4 x0 x1 x2 (x3 + 1)) else (if x2 = (-1) then (k4 x0 x1 x3 (x3 + 1)) else ((m_X7_compare h x0 x3 x2).bind fun v1 => if 0 ≤ v1 then (k4 x0 x1 x2 (x3 + 1)) else (k4 x0 x1 x3 (x3 + 1))))
def b_X7_winner_4 (h : dp_H) (k4 : Nat → Int32 → Int32 → Int32 → Option Int32) (x0 : Nat) (x1 : Int32) (x2 : Int32) (x3 : Int32) : Option Int32 := (dp_gi h x0 7 2).bind fun v1 => if v1 ≤ x3 then (some x2) else (if ((x1 >>> (x3 &&& 31)) &&& 1) = 1 then (b_X7_winner_26 h k4 x0 x1 x2 x3 1) else (b_X7_winner_26 h k4 x0 x1 x2 x3 0))
def m_X7_winner_4 (h : dp_H)  : Nat → Nat → Int32 → Int32 → Int32 → Option Int32
  | 0 => fun _ _ _ _ => none
  | n + 1 => fun x0 x1 x2 x3 => b_X7_winner_4 h (m_X7_winner_4 h  n) x0 x1 x2 x3
def m_X7_winner (h : dp_H) (x0 : Nat) (x1 : Int32) : Option Int32 := dp_ck h x0 7 (m_X7_winner_4 h 64 x0 x1 (-1) 0)
abbrev rm_X7_rewrite : Room := { frames := 0, cells := 0, slots := 0, locals := 0 }
def b_X7_rewrite_81 (k81 : dp_H → Nat → Int32 → Int32 → Int32 → Int32 → Option dp_H) (h : dp_H) (x0 : Nat) (x1 : Int32) (x2 : Int32) (x4 : Int32) (x5 : Int32) : Option dp_H := if x2 ≤ x5 then ((dp_p h x0 7 24 (.inl x4)).bind fun h1 => some h1) else ((dp_gr h x0 7 25).bind fun v2 => (dp_gr h x0 7 9).bind fun v3 => (dp_ai false h v3 ((4 * x1) + x5)).bind fun v4 => (dp_si false h v2 x5 v4).bind fun h5 => k81 h5 x0 x1 x2 x4 (x5 + 1))
def m_X7_rewrite_81  : Nat → dp_H → Nat → Int32 → Int32 → Int32 → Int32 → Option dp_H
  | 0 => fun _ _ _ _ _ _ => none
  | n + 1 => fun h x0 x1 x2 x4 x5 => b_X7_rewrite_81 (m_X7_rewrite_81  n) h x0 x1 x2 x4 x5
def b_X7_rewrite_27 (k27 : dp_H → Nat → Int32 → Int32 → Int32 → Int32 → Int32 → Option dp_H) (h : dp_H) (x0 : Nat) (x1 : Int32) (x2 : Int32) (x3 : Int32) (x4 : Int32) (x5 : Int32) : Option dp_H := if (x4 - x2) ≤ x5 then (m_X7_rewrite_81 64 h x0 x1 x2 x4 0) else (if x3 ≤ 0 then ((dp_gr h x0 7 25).bind fun v1 => (dp_gr h x0 7 25).bind fun v2 => (dp_ai false h v2 ((x2 + x5) - x3)).bind fun v3 => (dp_si false h v1 (x2 + x5) v3).bind fun h4 => k27 h4 x0 x1 x2 x3 x4 (x5 + 1)) else ((dp_gr h x0 7 25).bind fun v5 => (dp_gr h x0 7 25).bind fun v6 => (dp_ai false h v6 (((x4 - 1) - x5) - x3)).bind fun v7 => (dp_si false h v5 ((x4 - 1) - x5) v7).bind fun h8 => k27 h8 x0 x1 x2 x3 x4 (x5 + 1)))
def m_X7_rewrite_27  : Nat → dp_H → Nat → Int32 → Int32 → Int32 → Int32 → Int32 → Option dp_H
  | 0 => fun _ _ _ _ _ _ _ => none
  | n + 1 => fun h x0 x1 x2 x3 x4 x5 => b_X7_rewrite_27 (m_X7_rewrite_27  n) h x0 x1 x2 x3 x4 x5
def m_X7_rewrite (h : dp_H) (x0 : Nat) (x1 : Int32) : Option dp_H := dp_ck h x0 7 ((dp_gr h x0 7 8).bind fun v1 => (dp_ai false h v1 x1).bind fun v2 => (dp_gr h x0 7 7).bind fun v3 => (dp_ai false h v3 x1).bind fun v4 => (dp_gi h x0 7 24).bind fun v5 => m_X7_rewrite_27 64 h x0 x1 v2 (v2 - v4) (v5 + (v2 - v4)) 0)
abbrev rm_X7_read : Room := { frames := 4, cells := 0, slots := 0, locals := 92 }
def b_X7_read_7 (k7 : dp_H → Nat → Int32 → Option (dp_H × Int32)) (h : dp_H) (x0 : Nat) (x1 : Int32) : Option (dp_H × Int32) := if x1 = 0 then (some (h, (-1))) else ((dp_gi h x0 7 26).bind fun v1 => if 6 ≤ v1 then (some (h, (-1))) else ((dp_gi h x0 7 26).bind fun v2 => (dp_p h x0 7 26 (.inl (v2 + 1))).bind fun h3 => (dp_gi h3 x0 7 24).bind fun v4 => (m_X7_fitting h3 x0 v4).bind fun v5 => (m_X7_winner h3 x0 v5).bind fun v6 => if v6 = (-1) then (some (h3, (-1))) else ((m_X7_rewrite h3 x0 v6).bind fun h7 => (dp_gi h7 x0 7 24).bind fun v8 => (m_X7_within h7 v8 1 10).bind fun v9 => if v9 = 0 then (some (h7, (-1))) else ((dp_gr h7 x0 7 6).bind fun v10 => (dp_ai false h7 v10 v6).bind fun v11 => if v11 = 10 then (k7 h7 x0 1) else ((dp_gr h7 x0 7 6).bind fun v12 => (dp_ai false h7 v12 v6).bind fun v13 => some (h7, v13))))))
def m_X7_read_7  : Nat → dp_H → Nat → Int32 → Option (dp_H × Int32)
  | 0 => fun _ _ _ => none
  | n + 1 => fun h x0 x1 => b_X7_read_7 (m_X7_read_7  n) h x0 x1
def m_X7_read (h : dp_H) (x0 : Nat) : Option (dp_H × Int32) := dp_ck h x0 7 ((dp_p h x0 7 26 (.inl 0)).bind fun h1 => m_X7_read_7 64 h1 x0 1)
abbrev rm_X7_isRow : Room := { frames := 1, cells := 0, slots := 0, locals := 22 }
def b_X7_isRow_13 (h : dp_H) (k13 : Nat → Int32 → Int32 → Option Int32) (x0 : Nat) (x1 : Int32) (x2 : Int32) : Option Int32 := (dp_gi h x0 7 0).bind fun v1 => if v1 ≤ x2 then (dp_b x1 (some x1)) else (if x1 = 0 then (k13 x0 0 (x2 + 1)) else ((dp_gr h x0 7 1).bind fun v2 => (dp_ai false h v2 x2).bind fun v3 => (m_X7_within h v3 48 57).bind fun v4 => if v4 = 0 then (k13 x0 0 (x2 + 1)) else (k13 x0 1 (x2 + 1))))
def m_X7_isRow_13 (h : dp_H)  : Nat → Nat → Int32 → Int32 → Option Int32
  | 0 => fun _ _ _ => none
  | n + 1 => fun x0 x1 x2 => b_X7_isRow_13 h (m_X7_isRow_13 h  n) x0 x1 x2
def m_X7_isRow (h : dp_H) (x0 : Nat) : Option Int32 := dp_ck h x0 7 ((dp_gi h x0 7 0).bind fun v1 => (m_X7_within h v1 1 10).bind fun v2 => m_X7_isRow_13 h 64 x0 v2 0)
abbrev rm_X7_rowNow : Room := { frames := 5, cells := 0, slots := 0, locals := 114 }
def b_X7_rowNow_125  (h : dp_H) (x0 : Nat) (x1 : Int32) (y0 : Int32) : Option (dp_H × Int32) := if x1 = 5 then (some (h, y0)) else (if y0 ≤ (x1 - 10) then (some (h, (-1))) else ((dp_gr h x0 7 25).bind fun v1 => (dp_ai false h v1 (x1 - 10)).bind fun v2 => some (h, v2)))
def b_X7_rowNow_10 (k10 : dp_H → Nat → Int32 → Int32 → Option (dp_H × Int32)) (h : dp_H) (x0 : Nat) (x1 : Int32) (x2 : Int32) : Option (dp_H × Int32) := (dp_gi h x0 7 24).bind fun v1 => if v1 ≤ x2 then (if 3 ≤ x1 then (dp_b2 (m_X7_read h x0) fun h2 v3 => if 5 ≤ x1 then (if v3 = (-1) then (b_X7_rowNow_125 h2 x0 x1 0) else ((dp_gi h2 x0 7 24).bind fun v4 => b_X7_rowNow_125 h2 x0 x1 v4)) else (if x1 = 3 then (some (h2, v3)) else ((dp_gi h2 x0 7 26).bind fun v5 => some (h2, v5)))) else (if x1 = 0 then ((dp_gi h x0 7 24).bind fun v10 => (m_X7_fitting h x0 v10).bind fun v11 => (m_X7_winner h x0 v11).bind fun v12 => some (h, v12)) else (if x1 = 1 then ((dp_gi h x0 7 24).bind fun v8 => (m_X7_fitting h x0 v8).bind fun v9 => some (h, v9)) else ((dp_gi h x0 7 24).bind fun v6 => (m_X7_leading h x0 v6).bind fun v7 => some (h, v7))))) else ((dp_gr h x0 7 25).bind fun v13 => (dp_gr h x0 7 1).bind fun v14 => (dp_ai false h v14 x2).bind fun v15 => (dp_si false h v13 x2 (v15 - 48)).bind fun h16 => k10 h16 x0 x1 (x2 + 1))
def m_X7_rowNow_10  : Nat → dp_H → Nat → Int32 → Int32 → Option (dp_H × Int32)
  | 0 => fun _ _ _ _ => none
  | n + 1 => fun h x0 x1 x2 => b_X7_rowNow_10 (m_X7_rowNow_10  n) h x0 x1 x2
def m_X7_rowNow (h : dp_H) (x0 : Nat) (x1 : Int32) : Option (dp_H × Int32) := dp_ck h x0 7 ((dp_gi h x0 7 0).bind fun v1 => (dp_p h x0 7 24 (.inl v1)).bind fun h2 => m_X7_rowNow_10 64 h2 x0 x1 0)
abbrev rm_X7_row : Room := { frames := 6, cells := 0, slots := 0, locals := 137 }
def m_X7_row (h : dp_H) (x0 : Nat) (x1 : Int32) : Option (dp_H × Int32) := dp_ck h x0 7 ((m_X7_within h x1 0 5).bind fun v1 => if v1 = 0 then ((m_X7_within h x1 10 19).bind fun v5 => if v5 = 0 then (some (h, (-1002))) else ((m_X7_isRow h x0).bind fun v6 => if v6 = 0 then (some (h, (-1003))) else (dp_b2 (m_X7_rowNow h x0 x1) fun h7 v8 => some (h7, v8)))) else ((m_X7_isRow h x0).bind fun v2 => if v2 = 0 then (some (h, (-1003))) else (dp_b2 (m_X7_rowNow h x0 x1) fun h3 v4 => some (h3, v4))))
abbrev rm_X7_stage : Room := { frames := 1, cells := 0, slots := 0, locals := 22 }
def m_X7_stage (h : dp_H) (x0 : Nat) (x1 : Int32) (x2 : Int32) : Option (dp_H × Int32) := dp_ck h x0 7 ((m_X7_within h x1 0 2).bind fun v1 => if v1 = 0 then (some (h, (-1002))) else ((m_X7_within h x2 1 99).bind fun v2 => if v2 = 0 then (some (h, (-1002))) else ((dp_gr h x0 7 10).bind fun v3 => (dp_ai false h v3 x1).bind fun v4 => (dp_gr h x0 7 10).bind fun v5 => (dp_si false h v5 x1 x2).bind fun h6 => some (h6, v4))))
abbrev rm_X7_layPressed : Room := { frames := 0, cells := 0, slots := 0, locals := 0 }
def b_X7_layPressed_10 (k10 : dp_H → Nat → Int32 → Option dp_H) (h : dp_H) (x0 : Nat) (x1 : Int32) : Option dp_H := (dp_gi h x0 7 28).bind fun v1 => if v1 ≤ x1 then (some h) else ((dp_gr h x0 7 25).bind fun v2 => (dp_gr h x0 7 29).bind fun v3 => (dp_ai false h v3 x1).bind fun v4 => (dp_si false h v2 x1 v4).bind fun h5 => k10 h5 x0 (x1 + 1))
def m_X7_layPressed_10  : Nat → dp_H → Nat → Int32 → Option dp_H
  | 0 => fun _ _ _ => none
  | n + 1 => fun h x0 x1 => b_X7_layPressed_10 (m_X7_layPressed_10  n) h x0 x1
def m_X7_layPressed (h : dp_H) (x0 : Nat) : Option dp_H := dp_ck h x0 7 ((dp_gi h x0 7 28).bind fun v1 => (dp_p h x0 7 24 (.inl v1)).bind fun h2 => m_X7_layPressed_10 64 h2 x0 0)
abbrev rm_X7_lift : Room := { frames := 0, cells := 0, slots := 0, locals := 0 }
def m_X7_lift (h : dp_H) (x0 : Nat) : Option (dp_H × Int32) := dp_ck h x0 7 ((dp_gi h x0 7 27).bind fun v1 => if v1 = 0 then ((dp_p h x0 7 27 (.inl 1)).bind fun h2 => (dp_p h2 x0 7 28 (.inl 0)).bind fun h3 => (dp_p h3 x0 7 31 (.inl 0)).bind fun h4 => (dp_gr h4 x0 7 10).bind fun v5 => (dp_ai false h4 v5 0).bind fun v6 => (dp_p h4 x0 7 30 (.inl v6)).bind fun h7 => (dp_gi h7 x0 7 11).bind fun v8 => (dp_p h7 x0 7 11 (.inl (v8 + 1))).bind fun h9 => (dp_gi h9 x0 7 30).bind fun v10 => some (h9, v10)) else (some (h, (-1003))))
abbrev rm_X7_hang : Room := { frames := 0, cells := 0, slots := 0, locals := 0 }
def m_X7_hang (h : dp_H) (x0 : Nat) : Option (dp_H × Int32) := dp_ck h x0 7 ((dp_gi h x0 7 27).bind fun v1 => if v1 = 0 then (some (h, (-1003))) else ((dp_gi h x0 7 28).bind fun v2 => (dp_p h x0 7 27 (.inl 0)).bind fun h3 => (dp_p h3 x0 7 28 (.inl 0)).bind fun h4 => (dp_p h4 x0 7 31 (.inl 0)).bind fun h5 => some (h5, v2)))
abbrev rm_X7_ends : Room := { frames := 4, cells := 0, slots := 0, locals := 91 }
def b_X7_ends_47  (h : dp_H) (x0 : Nat) (y0 : Int32) (y1 : Int32) (y2 : Nat) : Option (dp_H × Int32) := (dp_p h y2 7 12 (.inl (y1 + y0))).bind fun h1 => (dp_gi h1 x0 7 13).bind fun v2 => (dp_gi h1 x0 7 27).bind fun v3 => if v3 = 3 then ((dp_p h1 x0 7 13 (.inl (v2 + 1))).bind fun h6 => (dp_gi h6 x0 7 27).bind fun v7 => some (h6, v7)) else ((dp_p h1 x0 7 13 (.inl (v2 + 0))).bind fun h4 => (dp_gi h4 x0 7 27).bind fun v5 => some (h4, v5))
def m_X7_ends (h : dp_H) (x0 : Nat) (x1 : Int32) : Option (dp_H × Int32) := dp_ck h x0 7 ((m_X7_layPressed h x0).bind fun h1 => (dp_p h1 x0 7 31 (.inl x1)).bind fun h2 => (dp_gi h2 x0 7 28).bind fun v3 => (m_X7_fitting h2 x0 v3).bind fun v4 => if v4 = 0 then ((dp_p h2 x0 7 27 (.inl 3)).bind fun h5 => (dp_gi h5 x0 7 12).bind fun v6 => (dp_gi h5 x0 7 27).bind fun v7 => if v7 = 2 then (b_X7_ends_47 h5 x0 1 v6 x0) else (b_X7_ends_47 h5 x0 0 v6 x0)) else ((dp_p h2 x0 7 27 (.inl 2)).bind fun h8 => (dp_gi h8 x0 7 12).bind fun v9 => (dp_gi h8 x0 7 27).bind fun v10 => if v10 = 2 then (b_X7_ends_47 h8 x0 1 v9 x0) else (b_X7_ends_47 h8 x0 0 v9 x0)))
abbrev rm_X7_helps : Room := { frames := 0, cells := 0, slots := 0, locals := 0 }
def b_X7_helps_4 (h : dp_H) (k4 : Nat → Int32 → Int32 → Int32 → Option Int32) (x0 : Nat) (x1 : Int32) (x2 : Int32) (x3 : Int32) : Option Int32 := (dp_gi h x0 7 2).bind fun v1 => if v1 ≤ x3 then (some x2) else (if ((x1 >>> (x3 &&& 31)) &&& 1) = 1 then ((dp_gr h x0 7 6).bind fun v2 => (dp_ai false h v2 x3).bind fun v3 => if v3 = 9 then (k4 x0 x1 (x2 ||| (1 <<< (x3 &&& 31))) (x3 + 1)) else (k4 x0 x1 (x2 ||| 0) (x3 + 1))) else (k4 x0 x1 (x2 ||| 0) (x3 + 1)))
def m_X7_helps_4 (h : dp_H)  : Nat → Nat → Int32 → Int32 → Int32 → Option Int32
  | 0 => fun _ _ _ _ => none
  | n + 1 => fun x0 x1 x2 x3 => b_X7_helps_4 h (m_X7_helps_4 h  n) x0 x1 x2 x3
def m_X7_helps (h : dp_H) (x0 : Nat) (x1 : Int32) : Option Int32 := dp_ck h x0 7 (m_X7_helps_4 h 64 x0 x1 0 0)
abbrev rm_X7_press : Room := { frames := 5, cells := 0, slots := 0, locals := 112 }
def m_X7_press (h : dp_H) (x0 : Nat) (x1 : Int32) : Option (dp_H × Int32) := dp_ck h x0 7 ((m_X7_within h x1 0 9).bind fun v1 => if v1 = 0 then (some (h, (-1002))) else ((dp_gi h x0 7 27).bind fun v2 => if v2 = 1 then ((dp_gr h x0 7 29).bind fun v3 => (dp_gi h x0 7 28).bind fun v4 => (dp_si false h v3 v4 x1).bind fun h5 => (dp_gi h5 x0 7 28).bind fun v6 => (dp_p h5 x0 7 28 (.inl (v6 + 1))).bind fun h7 => (dp_gi h7 x0 7 14).bind fun v8 => (dp_p h7 x0 7 14 (.inl (v8 + 1))).bind fun h9 => (m_X7_layPressed h9 x0).bind fun h10 => (dp_gi h10 x0 7 28).bind fun v11 => (m_X7_fitting h10 x0 v11).bind fun v12 => (m_X7_helps h10 x0 v12).bind fun v13 => if v13 = 0 then ((dp_gi h10 x0 7 28).bind fun v14 => if v14 = 10 then (dp_b2 (m_X7_ends h10 x0 1) fun h15 v16 => some (h15, v16)) else ((dp_gi h10 x0 7 28).bind fun v17 => (m_X7_leading h10 x0 v17).bind fun v18 => if v18 = 0 then (dp_b2 (m_X7_ends h10 x0 1) fun h24 v25 => some (h24, v25)) else ((dp_gr h10 x0 7 10).bind fun v19 => if v12 = 0 then ((dp_ai false h10 v19 1).bind fun v22 => (dp_p h10 x0 7 30 (.inl v22)).bind fun h23 => some (h23, 1)) else ((dp_ai false h10 v19 2).bind fun v20 => (dp_p h10 x0 7 30 (.inl v20)).bind fun h21 => some (h21, 1))))) else (dp_b2 (m_X7_ends h10 x0 4) fun h26 v27 => some (h26, v27))) else (some (h, (-1003)))))
abbrev rm_X7_pass : Room := { frames := 5, cells := 0, slots := 0, locals := 112 }
def m_X7_pass (h : dp_H) (x0 : Nat) (x1 : Int32) : Option (dp_H × Int32) := dp_ck h x0 7 ((m_X7_within h x1 1 99).bind fun v1 => if v1 = 0 then (some (h, (-1002))) else ((dp_gi h x0 7 27).bind fun v2 => if v2 = 1 then ((dp_gi h x0 7 30).bind fun v3 => (dp_p h x0 7 30 (.inl (v3 - x1))).bind fun h4 => (dp_gi h4 x0 7 30).bind fun v5 => if 0 < v5 then (some (h4, 1)) else (dp_b2 (m_X7_ends h4 x0 2) fun h6 v7 => some (h6, v7))) else (some (h, (-1003)))))
abbrev rm_X7_end : Room := { frames := 5, cells := 0, slots := 0, locals := 112 }
def m_X7_end (h : dp_H) (x0 : Nat) : Option (dp_H × Int32) := dp_ck h x0 7 ((dp_gi h x0 7 27).bind fun v1 => if v1 = 1 then (dp_b2 (m_X7_ends h x0 3) fun h2 v3 => some (h2, v3)) else (some (h, (-1003))))
abbrev rm_X7_stageNow : Room := { frames := 4, cells := 0, slots := 0, locals := 91 }
def m_X7_stageNow (h : dp_H) (x0 : Nat) : Option (dp_H × Int32) := dp_ck h x0 7 ((m_X7_layPressed h x0).bind fun h1 => (dp_gi h1 x0 7 28).bind fun v2 => if v2 = 0 then (some (h1, 0)) else ((dp_gi h1 x0 7 28).bind fun v3 => (m_X7_fitting h1 x0 v3).bind fun v4 => if v4 = 0 then (some (h1, 1)) else (some (h1, 2))))
abbrev rm_X7_winsNow : Room := { frames := 4, cells := 0, slots := 0, locals := 92 }
def m_X7_winsNow (h : dp_H) (x0 : Nat) : Option (dp_H × Int32) := dp_ck h x0 7 ((m_X7_layPressed h x0).bind fun h1 => (dp_gi h1 x0 7 31).bind fun v2 => if v2 = 4 then ((dp_gi h1 x0 7 28).bind fun v6 => (m_X7_fitting h1 x0 v6).bind fun v7 => (m_X7_helps h1 x0 v7).bind fun v8 => (m_X7_winner h1 x0 v8).bind fun v9 => some (h1, v9)) else ((dp_gi h1 x0 7 28).bind fun v3 => (m_X7_fitting h1 x0 v3).bind fun v4 => (m_X7_winner h1 x0 v4).bind fun v5 => some (h1, v5)))
abbrev rm_X7_isSureBy : Room := { frames := 4, cells := 0, slots := 0, locals := 91 }
def b_X7_isSureBy_72 (h : dp_H) (k28 : Nat → Int32 → Int32 → Int32 → Int32 → Option Int32) (x0 : Nat) (x2 : Int32) (x3 : Int32) (x5 : Int32) (y0 : Int32) : Option Int32 := if x3 = (-1) then (k28 x0 x2 x5 y0 (x5 + 1)) else (k28 x0 x2 x3 y0 (x5 + 1))
def b_X7_isSureBy_28 (h : dp_H) (k28 : Nat → Int32 → Int32 → Int32 → Int32 → Option Int32) (x0 : Nat) (x2 : Int32) (x3 : Int32) (x4 : Int32) (x5 : Int32) : Option Int32 := (dp_gi h x0 7 2).bind fun v1 => if v1 ≤ x5 then (dp_b x4 (some x4)) else (if ((x2 >>> (x5 &&& 31)) &&& 1) = 1 then (if x4 = 0 then (b_X7_isSureBy_72 h k28 x0 x2 x3 x5 0) else (if x3 = (-1) then (b_X7_isSureBy_72 h k28 x0 x2 x3 x5 1) else ((m_X7_areLike h x0 x3 x5).bind fun v2 => if v2 = 0 then (b_X7_isSureBy_72 h k28 x0 x2 x3 x5 0) else (b_X7_isSureBy_72 h k28 x0 x2 x3 x5 1)))) else (k28 x0 x2 x3 x4 (x5 + 1)))
def m_X7_isSureBy_28 (h : dp_H)  : Nat → Nat → Int32 → Int32 → Int32 → Int32 → Option Int32
  | 0 => fun _ _ _ _ _ => none
  | n + 1 => fun x0 x2 x3 x4 x5 => b_X7_isSureBy_28 h (m_X7_isSureBy_28 h  n) x0 x2 x3 x4 x5
def m_X7_isSureBy (h : dp_H) (x0 : Nat) (x1 : Int32) : Option Int32 := dp_ck h x0 7 ((m_X7_fitting h x0 x1).bind fun v1 => (m_X7_leading h x0 x1).bind fun v2 => if (v1 ||| v2) = 0 then (m_X7_isSureBy_28 h 64 x0 (v1 ||| v2) (-1) 0 0) else (m_X7_isSureBy_28 h 64 x0 (v1 ||| v2) (-1) 1 0))
abbrev rm_X7_sureNow : Room := { frames := 5, cells := 0, slots := 0, locals := 116 }
def b_X7_sureNow_11 (k11 : dp_H → Nat → Int32 → Int32 → Option (dp_H × Int32)) (h : dp_H) (x0 : Nat) (x1 : Int32) (x2 : Int32) : Option (dp_H × Int32) := if x2 < 0 then (some (h, x1)) else ((m_X7_isSureBy h x0 x2).bind fun v1 => if v1 = 0 then (k11 h x0 x1 (x2 + (-1))) else (k11 h x0 x2 (x2 + (-1))))
def m_X7_sureNow_11  : Nat → dp_H → Nat → Int32 → Int32 → Option (dp_H × Int32)
  | 0 => fun _ _ _ _ => none
  | n + 1 => fun h x0 x1 x2 => b_X7_sureNow_11 (m_X7_sureNow_11  n) h x0 x1 x2
def m_X7_sureNow (h : dp_H) (x0 : Nat) : Option (dp_H × Int32) := dp_ck h x0 7 ((m_X7_layPressed h x0).bind fun h1 => (dp_gi h1 x0 7 28).bind fun v2 => m_X7_sureNow_11 64 h1 x0 (-1) v2)
abbrev rm_X7_wayNow : Room := { frames := 5, cells := 0, slots := 0, locals := 114 }
def m_X7_wayNow (h : dp_H) (x0 : Nat) : Option (dp_H × Int32) := dp_ck h x0 7 ((m_X7_layPressed h x0).bind fun h1 => (dp_gi h1 x0 7 31).bind fun v2 => if v2 = 4 then (some (h1, 9)) else (dp_b2 (m_X7_read h1 x0) fun h3 v4 => some (h3, v4)))
abbrev rm_X7_lineNow : Room := { frames := 6, cells := 0, slots := 0, locals := 138 }
def m_X7_lineNow (h : dp_H) (x0 : Nat) (x1 : Int32) : Option (dp_H × Int32) := dp_ck h x0 7 (if x1 = 0 then ((dp_gi h x0 7 27).bind fun v1 => some (h, v1)) else if x1 = 1 then ((dp_gi h x0 7 28).bind fun v2 => some (h, v2)) else if x1 = 2 then ((dp_gi h x0 7 27).bind fun v3 => if v3 = 1 then ((dp_gi h x0 7 30).bind fun v4 => some (h, v4)) else (some (h, 0))) else if x1 = 3 then ((dp_gi h x0 7 27).bind fun v5 => if v5 = 1 then (dp_b2 (m_X7_stageNow h x0) fun h6 v7 => some (h6, v7)) else (some (h, (-1)))) else if x1 = 4 then ((dp_gi h x0 7 27).bind fun v8 => if v8 = 2 then (dp_b2 (m_X7_winsNow h x0) fun h9 v10 => some (h9, v10)) else (some (h, (-1)))) else if x1 = 5 then (dp_b2 (m_X7_sureNow h x0) fun h11 v12 => some (h11, v12)) else if x1 = 6 then ((dp_gi h x0 7 31).bind fun v13 => some (h, v13)) else if x1 = 7 then ((dp_gi h x0 7 27).bind fun v14 => if v14 = 2 then (dp_b2 (m_X7_wayNow h x0) fun h15 v16 => some (h15, v16)) else (some (h, (-1)))) else ((dp_gi h x0 7 28).bind fun v17 => if v17 ≤ (x1 - 10) then (some (h, (-1))) else ((dp_gr h x0 7 29).bind fun v18 => (dp_ai false h v18 (x1 - 10)).bind fun v19 => some (h, v19))))
abbrev rm_X7_line : Room := { frames := 7, cells := 0, slots := 0, locals := 159 }
def m_X7_line (h : dp_H) (x0 : Nat) (x1 : Int32) : Option (dp_H × Int32) := dp_ck h x0 7 ((m_X7_within h x1 0 7).bind fun v1 => if v1 = 0 then ((m_X7_within h x1 10 19).bind fun v4 => if v4 = 0 then (some (h, (-1002))) else (dp_b2 (m_X7_lineNow h x0 x1) fun h5 v6 => some (h5, v6))) else (dp_b2 (m_X7_lineNow h x0 x1) fun h2 v3 => some (h2, v3)))
abbrev rm_X7_howMany : Room := { frames := 5, cells := 0, slots := 0, locals := 115 }
def m_X7_howMany (h : dp_H) (x0 : Nat) (x1 : Int32) : Option Int32 := dp_ck h x0 7 (if x1 = 0 then ((dp_gi h x0 7 2).bind fun v1 => some v1) else if x1 = 1 then ((dp_gi h x0 7 0).bind fun v2 => some v2) else if x1 = 2 then ((m_X7_clashes h x0).bind fun v3 => some v3) else if x1 = 3 then ((dp_gr h x0 7 10).bind fun v4 => (dp_ai false h v4 (x1 - 3)).bind fun v5 => some v5) else if x1 = 4 then ((dp_gr h x0 7 10).bind fun v6 => (dp_ai false h v6 (x1 - 3)).bind fun v7 => some v7) else if x1 = 5 then ((dp_gr h x0 7 10).bind fun v8 => (dp_ai false h v8 (x1 - 3)).bind fun v9 => some v9) else if x1 = 6 then ((dp_gi h x0 7 11).bind fun v10 => some v10) else if x1 = 7 then ((dp_gi h x0 7 12).bind fun v11 => some v11) else if x1 = 8 then ((dp_gi h x0 7 13).bind fun v12 => some v12) else if x1 = 9 then ((dp_gi h x0 7 14).bind fun v13 => some v13) else (some (-1002)))
abbrev rm_X7_count : Room := { frames := 6, cells := 0, slots := 0, locals := 136 }
def m_X7_count (h : dp_H) (x0 : Nat) (x1 : Int32) : Option Int32 := dp_ck h x0 7 ((m_X7_howMany h x0 x1).bind fun v1 => some v1)
abbrev rm_X7_mix : Room := { frames := 0, cells := 0, slots := 0, locals := 0 }
def m_X7_mix (h : dp_H) (x0 : Nat) (x1 : Int64) : Option dp_H := dp_ck h x0 7 ((dp_gl h x0 7 32).bind fun v1 => (dp_p h x0 7 32 (.inr (.inl ((31 * v1) + x1)))).bind fun h2 => some h2)
abbrev rm_X7_digest : Room := { frames := 7, cells := 0, slots := 0, locals := 159 }
def b_X7_digest_44 (k9 : dp_H → Nat → Int32 → Option (dp_H × Int64)) (k44 : dp_H → Nat → Int32 → Int32 → Option (dp_H × Int64)) (h : dp_H) (x0 : Nat) (x1 : Int32) (x2 : Int32) : Option (dp_H × Int64) := if 10 ≤ x2 then (k9 h x0 (x1 + 1)) else ((m_X7_letsOf h x0 x1 x2).bind fun v1 => (m_X7_mix h x0 (Int32.toInt64 v1)).bind fun h2 => k44 h2 x0 x1 (x2 + 1))
def m_X7_digest_44 (k9 : dp_H → Nat → Int32 → Option (dp_H × Int64)) : Nat → dp_H → Nat → Int32 → Int32 → Option (dp_H × Int64)
  | 0 => fun _ _ _ _ => none
  | n + 1 => fun h x0 x1 x2 => b_X7_digest_44 k9 (m_X7_digest_44 k9 n) h x0 x1 x2
def b_X7_digest_19 (k9 : dp_H → Nat → Int32 → Option (dp_H × Int64)) (k19 : dp_H → Nat → Int32 → Int32 → Option (dp_H × Int64)) (h : dp_H) (x0 : Nat) (x1 : Int32) (x2 : Int32) : Option (dp_H × Int64) := if 6 ≤ x2 then (m_X7_digest_44 k9 64 h x0 x1 0) else ((m_X7_patternNow h x0 x1 x2).bind fun v1 => (m_X7_mix h x0 (Int32.toInt64 v1)).bind fun h2 => k19 h2 x0 x1 (x2 + 1))
def m_X7_digest_19 (k9 : dp_H → Nat → Int32 → Option (dp_H × Int64)) : Nat → dp_H → Nat → Int32 → Int32 → Option (dp_H × Int64)
  | 0 => fun _ _ _ _ => none
  | n + 1 => fun h x0 x1 x2 => b_X7_digest_19 k9 (m_X7_digest_19 k9 n) h x0 x1 x2
def b_X7_digest_178 (k178 : dp_H → Nat → Int32 → Option (dp_H × Int64)) (h : dp_H) (x0 : Nat) (x1 : Int32) : Option (dp_H × Int64) := if 10 ≤ x1 then ((dp_gl h x0 7 32).bind fun v1 => some (h, v1)) else ((m_X7_howMany h x0 x1).bind fun v2 => (m_X7_mix h x0 (Int32.toInt64 v2)).bind fun h3 => k178 h3 x0 (x1 + 1))
def m_X7_digest_178  : Nat → dp_H → Nat → Int32 → Option (dp_H × Int64)
  | 0 => fun _ _ _ => none
  | n + 1 => fun h x0 x1 => b_X7_digest_178 (m_X7_digest_178  n) h x0 x1
def b_X7_digest_151 (k151 : dp_H → Nat → Int32 → Option (dp_H × Int64)) (h : dp_H) (x0 : Nat) (x1 : Int32) : Option (dp_H × Int64) := (dp_gi h x0 7 0).bind fun v1 => if v1 ≤ x1 then (m_X7_digest_178 64 h x0 0) else ((dp_gr h x0 7 1).bind fun v2 => (dp_ai false h v2 x1).bind fun v3 => (m_X7_mix h x0 (Int32.toInt64 v3)).bind fun h4 => k151 h4 x0 (x1 + 1))
def m_X7_digest_151  : Nat → dp_H → Nat → Int32 → Option (dp_H × Int64)
  | 0 => fun _ _ _ => none
  | n + 1 => fun h x0 x1 => b_X7_digest_151 (m_X7_digest_151  n) h x0 x1
def b_X7_digest_127 (k127 : dp_H → Nat → Int32 → Option (dp_H × Int64)) (h : dp_H) (x0 : Nat) (x1 : Int32) : Option (dp_H × Int64) := if 20 ≤ x1 then (m_X7_digest_151 64 h x0 0) else (dp_b2 (m_X7_lineNow h x0 x1) fun h1 v2 => (m_X7_mix h1 x0 (Int32.toInt64 v2)).bind fun h3 => k127 h3 x0 (x1 + 1))
def m_X7_digest_127  : Nat → dp_H → Nat → Int32 → Option (dp_H × Int64)
  | 0 => fun _ _ _ => none
  | n + 1 => fun h x0 x1 => b_X7_digest_127 (m_X7_digest_127  n) h x0 x1
def b_X7_digest_102 (k102 : dp_H → Nat → Int32 → Option (dp_H × Int64)) (h : dp_H) (x0 : Nat) (x1 : Int32) : Option (dp_H × Int64) := if 8 ≤ x1 then (m_X7_digest_127 64 h x0 10) else (dp_b2 (m_X7_lineNow h x0 x1) fun h1 v2 => (m_X7_mix h1 x0 (Int32.toInt64 v2)).bind fun h3 => k102 h3 x0 (x1 + 1))
def m_X7_digest_102  : Nat → dp_H → Nat → Int32 → Option (dp_H × Int64)
  | 0 => fun _ _ _ => none
  | n + 1 => fun h x0 x1 => b_X7_digest_102 (m_X7_digest_102  n) h x0 x1
def b_X7_digest_75 (k75 : dp_H → Nat → Int32 → Option (dp_H × Int64)) (h : dp_H) (x0 : Nat) (x1 : Int32) : Option (dp_H × Int64) := (m_X7_clashAt h x0 x1).bind fun v1 => if v1 = (-1) then (m_X7_digest_102 64 h x0 0) else ((m_X7_clashAt h x0 x1).bind fun v2 => (m_X7_mix h x0 (Int32.toInt64 v2)).bind fun h3 => k75 h3 x0 (x1 + 1))
def m_X7_digest_75  : Nat → dp_H → Nat → Int32 → Option (dp_H × Int64)
  | 0 => fun _ _ _ => none
  | n + 1 => fun h x0 x1 => b_X7_digest_75 (m_X7_digest_75  n) h x0 x1
def b_X7_digest_9 (k9 : dp_H → Nat → Int32 → Option (dp_H × Int64)) (h : dp_H) (x0 : Nat) (x1 : Int32) : Option (dp_H × Int64) := (dp_gi h x0 7 2).bind fun v1 => if v1 ≤ x1 then (m_X7_digest_75 64 h x0 0) else (m_X7_digest_19 k9 64 h x0 x1 0)
def m_X7_digest_9  : Nat → dp_H → Nat → Int32 → Option (dp_H × Int64)
  | 0 => fun _ _ _ => none
  | n + 1 => fun h x0 x1 => b_X7_digest_9 (m_X7_digest_9  n) h x0 x1
def m_X7_digest (h : dp_H) (x0 : Nat) : Option (dp_H × Int64) := dp_ck h x0 7 ((dp_p h x0 7 32 (.inr (.inl 1669))).bind fun h1 => m_X7_digest_9 64 h1 x0 0)
