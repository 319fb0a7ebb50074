/-! what is true of the machine at every time: the words of the tables, the classes, the nest's links -/
def dp_N : List Cond := [
  .methodLinkNest RX6 20 yX2_init "DialPlan",
  .methodLinkNest RX2 11 yX1_init "DialPlan",
  .methodLinkNest RX3 17 yX1_init "DialPlan",
  .methodLinkNest RX6 37 yX4_init "DialPlan",
  .methodLinkNest RX6 44 yX0_init "DialPlan",
  .methodLinkNest RX2 81 yX6_isFigure "DialPlan"]
abbrev dp_T (a : dp_A) : List (ClassId × FieldType) := [(a.1, .int), (a.2.1, .boolean), (a.2.2, .object RX1)]
def dp_K (D : va_G) (a : dp_A) (U : State) : Prop := (∀ w ∈ lw_tbl, goodWord w = true → w.before #[] U = true) ∧ va_K D vwCl (dp_T a) U ∧ (∀ w ∈ dp_N, va_Nw w U) ∧ va_AO RX1 U
theorem dp_N_warm {w : Cond} (hw : w ∈ dp_N) {s U : State} (hW : s.WarmedH U.vm) (h : va_Nw w s) : va_Nw w U := by
  simp only [dp_N, List.mem_cons, List.not_mem_nil, or_false] at hw
  rcases hw with rfl | rfl | rfl | rfl | rfl | rfl <;> exact va_Nw.warmM hW h
theorem dp_K.warm {D : va_G} {a : dp_A} {s U : State} (hW : s.WarmedH U.vm) (h : dp_K D a s) : dp_K D a U :=
  ⟨fun w hw hg => word_at hW (good_of_word hg) (h.1 w hw hg), va_K.moved hW.alike h.2.1, fun w hw => dp_N_warm hw hW (h.2.2.1 w hw), va_AO.moved hW.alike h.2.2.2⟩
theorem dp_K.word {D : va_G} {a : dp_A} {s : State} (h : dp_K D a s) {w : Cond} (hw : w ∈ lw_tbl) (hg : goodWord w = true) {args : Array Value} : w.before args s = true := word_at (State.WarmedH.refl s) (good_of_word hg) (h.1 w hw hg)
theorem dp_K.calling {D : va_G} {a : dp_A} {U : State} (h : dp_K D a U) (g : JFrame) (mk : MethodId) (av : Array Value) : dp_K D a (U.calling g mk av) := dp_K.warm (s := U) (U := U.calling g mk av) (State.WarmedH.refl U) h
/-- a class of the worlds -/
def dp_Cl (ci : Nat) (C : String) (T : u_T) (N : Nat) (ty : Nat → FieldType) : Prop := vwCl[ci]? = some (C, T, N) ∧ (∀ w ∈ u_ws C T N, w ∈ lw_tbl ∧ goodWord w = true) ∧ (∀ k, k < N → parseFieldDescriptor (T k).2.2.1 = some (ty k)) ∧ (∀ a, a < N → ∀ b, b < N → a ≠ b → (T a).2.1 ≠ (T b).2.1)
def dp_w (D : va_G) (a : dp_A) (B : Nat) (h : dp_H) (H0 H : Heap) (locs : List Loc) : Prop := va_P D vwCl (dp_e a B h) H ∧ H.size = B + h.length ∧ va_S (fun q => B ≤ q) H0 H locs
/-- what holds all along a method -/
def dp_X (p : Program) (s : State) (m : MethodId) (meth : Method) (c : Code) (cc : ByteArray) (nL : Nat) (own : String) (D : va_G) (a : dp_A) (B : Nat) : Prop :=
  p.tables.exec = Jvm.exec ∧ c.code = cc ∧ c.maxLocals = nL ∧ s.vm.findClass own = some m.cls ∧ meth.locks = false ∧ dp_K D a s ∧ B ≤ s.heap.size
def dp_P0 (D : va_G) (a : dp_A) (B : Nat) (h : dp_H) (U : State) : Prop := va_P D vwCl (dp_e a B h) U.heap ∧ U.heap.size = B + h.length ∧ dp_K D a U
def dp_Q (D : va_G) (a : dp_A) (B : Nat) (r : Option Value) (h : dp_H) : Array Value → State → Outcome → State → Prop := fun _ st oc t => oc = .returned r ∧ va_P D vwCl (dp_e a B h) t.heap ∧ t.heap.size = B + h.length ∧ va_F (fun q => B ≤ q) st t
/-- A CONTRACT: from the picture h with the arguments av the method returns r and leaves the picture h' -/
def dp_M (l : Launch) (D : va_G) (a : dp_A) (B : Nat) (y : MethodName) (cc : ByteArray) (nL : Nat) (ret : Option FieldType) (rm : Room) (av : List Value) (h : dp_H) (r : Option Value) (h' : dp_H) : Prop :=
  Met l y [Cond.code y cc nL ret] rm (va_Pc av (dp_P0 D a B h)) (dp_Q D a B r h') rm.cells rm.slots (fun q => B ≤ q)
theorem dp_M.of {l : Launch} {D : va_G} {a : dp_A} {B : Nat} {y : MethodName} {cc : ByteArray} {nL : Nat} {ret : Option FieldType} {rm : Room} {av : List Value} {h : dp_H} {r : Option Value} {h' : dp_H} {own nm : String}
    (hy : plainName y.cls = true) (ho : y.cls = own) (hnm : y.name = nm) (hlen : (lg_sl av).length ≤ nL)
    (body : ∀ (p : Program) (e : Env) (s : State) (m : MethodId) (below : List Frame) (meth : Method) (c : Code) (ls : Array Slot), dp_X p s m meth c cc nL own D a B → meth.sig.returnType = ret → meth.name = nm → dp_w D a B h s.heap s.heap [] → lv_has ls nL (lv_args 0 av) →
      W p l e rm s m av.toArray below meth c s.heap [] 0 0 (MQ below (dp_Q D a B r h') av.toArray s rm.cells rm.slots (fun q => B ≤ q)) (F0 m 0 ls [])) : dp_M l D a B y cc nL ret rm av h r h' := by
  refine Met.ofW (cc := cc) (maxL := nL) (ret := ret) hy rfl ?_
  intro p e s m args below meth c s₁ Bd hml hv
  obtain ⟨rfl, hP, hsz, hK⟩ := hv
  have hown : s.vm.findClass own = some m.cls := by rw [← ho]; exact findClass_of_methodNamed Bd.named
  have hin : meth.name = nm := by rw [← hnm]; exact (name_of_methodNamed Bd.named Bd.method).1
  have hl := lv_entry av (n := nL) hlen
  rw [lg_entry_eq]
  generalize (lg_sl av ++ List.replicate (nL - (lg_sl av).length) Slot.unset).toArray = ls at hl ⊢
  exact body p e s m below meth c ls ⟨Bd.exec, Bd.bytes, hml, hown, Bd.notSynchronized, hK, by omega⟩ Bd.returns hin ⟨hP, hsz, va_S.rf⟩ hl
section DPR
variable {p : Program} {l : Launch} {e : Env} {R : Room} {s : State} {m : MethodId} {args : Array Value} {below : List Frame} {meth : Method} {c : Code} {H : Heap} {locs : List Loc} {cells slots : Nat} {Q : State → Prop}
variable {cc : ByteArray} {nL pc : Nat} {ls : Array Slot} {rest : List Value} {D : va_G} {a : dp_A} {B : Nat} {own : String} {h : dp_H}
theorem dp_w.P {H0 : Heap} (hw : dp_w D a B h H0 H locs) {k : Nat} {x : dp_C} (hk : h[k]? = some x) : va_at D vwCl (B + k, dp_ec a B x) H := hw.1 k _ (dp_e_at hk)
theorem dp_geti (X : dp_X p s m meth c cc nL own D a B) (hw : dp_w D a B h s.heap H locs) {C : String} {T : u_T} {N ci index : Nat} {ty : Nat → FieldType} (hC : dp_Cl ci C T N ty) (j : Nat) (hj : j < N) (hlink : Cond.fieldLink own index (T j).1 (T j).2.1 (T j).2.2.1 ∈ lw_tbl) {k : Nat} {v : Int32} (hg : dp_gi h k ci j = some v) (hdg : decode cc pc = .ok (.getfield index, 3))
    (kk : W p l e R s m args below meth c H locs cells slots Q (F0 m (pc + 3) ls (.int v :: rest))) : W p l e R s m args below meth c H locs cells slots Q (F0 m pc ls (.ref (B + k) :: rest)) := by
  obtain ⟨hx, hb, hml, hown, hlk, hK, hB⟩ := X
  obtain ⟨fs, h1, h2⟩ := dp_gi_e hg
  exact va_get (Ts := u_ws C T N) hx hb (fun w hw => hK.word (hC.2.1 w hw).1 (hC.2.1 w hw).2) (fun _ h => h) hown hK.2.1 hw.1 k (dp_e_at h1) hC.1 j hj (hK.word hlink rfl) (fun _ h => h) (v := .int v) (by rw [List.getElem?_map, h2]; rfl) hdg kk
theorem dp_getl (X : dp_X p s m meth c cc nL own D a B) (hw : dp_w D a B h s.heap H locs) {C : String} {T : u_T} {N ci index : Nat} {ty : Nat → FieldType} (hC : dp_Cl ci C T N ty) (j : Nat) (hj : j < N) (hlink : Cond.fieldLink own index (T j).1 (T j).2.1 (T j).2.2.1 ∈ lw_tbl) {k : Nat} {v : Int64} (hg : dp_gl h k ci j = some v) (hdg : decode cc pc = .ok (.getfield index, 3))
    (kk : W p l e R s m args below meth c H locs cells slots Q (F0 m (pc + 3) ls (.long v :: rest))) : W p l e R s m args below meth c H locs cells slots Q (F0 m pc ls (.ref (B + k) :: rest)) := by
  obtain ⟨hx, hb, hml, hown, hlk, hK, hB⟩ := X
  obtain ⟨fs, h1, h2⟩ := dp_gl_e hg
  exact va_get (Ts := u_ws C T N) hx hb (fun w hw => hK.word (hC.2.1 w hw).1 (hC.2.1 w hw).2) (fun _ h => h) hown hK.2.1 hw.1 k (dp_e_at h1) hC.1 j hj (hK.word hlink rfl) (fun _ h => h) (v := .long v) (by rw [List.getElem?_map, h2]; rfl) hdg kk
theorem dp_getr (X : dp_X p s m meth c cc nL own D a B) (hw : dp_w D a B h s.heap H locs) {C : String} {T : u_T} {N ci index : Nat} {ty : Nat → FieldType} (hC : dp_Cl ci C T N ty) (j : Nat) (hj : j < N) (hlink : Cond.fieldLink own index (T j).1 (T j).2.1 (T j).2.2.1 ∈ lw_tbl) {k : Nat} {v : Nat} (hg : dp_gr h k ci j = some v) (hdg : decode cc pc = .ok (.getfield index, 3))
    (kk : W p l e R s m args below meth c H locs cells slots Q (F0 m (pc + 3) ls (.ref (B + v) :: rest))) : W p l e R s m args below meth c H locs cells slots Q (F0 m pc ls (.ref (B + k) :: rest)) := by
  obtain ⟨hx, hb, hml, hown, hlk, hK, hB⟩ := X
  obtain ⟨fs, h1, h2⟩ := dp_gr_e hg
  exact va_get (Ts := u_ws C T N) hx hb (fun w hw => hK.word (hC.2.1 w hw).1 (hC.2.1 w hw).2) (fun _ h => h) hown hK.2.1 hw.1 k (dp_e_at h1) hC.1 j hj (hK.word hlink rfl) (fun _ h => h) (v := .ref (B + v)) (by rw [List.getElem?_map, h2]; rfl) hdg kk
theorem dp_set_map {fs : List dp_V} {j : Nat} {v : dp_V} : (fs.map (dp_ev B)).set j (dp_ev B v) = (fs.set j v).map (dp_ev B) := by rw [List.map_set]
/-- an object's cell is written: what the picture is then -/
theorem dp_w.obj {H0 H1 : Heap} (hw : dp_w D a B h H0 H locs) {k ci j i : Nat} {fs : List dp_V} {v : dp_V} {x : Loc} {C : String} {T : u_T} {N : Nat} {cell : Cell} (h1 : h[k]? = some (.inl (ci, fs))) (hj : j < fs.length) (hc : vwCl[ci]? = some (C, T, N)) (hjN : j < N) (hq1 : H[B + k]? = some cell) (q2 : cell.cls = D.1 ci) (q3 : cell.vm = .none) (q4 : ∀ n, n < N → cell.slots[D.2 ci n]? = some (vp_V (fs.map (dp_ev B)) n))
    (hap : ∀ x y, x < N → y < N → x ≠ y → D.2 ci x ≠ D.2 ci y) (hi : i = D.2 ci j) (hx : x.base = B + k) (e1 : H1[B + k]? = some (cell.setSlot i (dp_ev B v))) (z : H1.size = H.size) (oq : ∀ q, q ≠ B + k → H1[q]? = H[q]?) : dp_w D a B (h.set k (.inl (ci, fs.set j v))) H0 H1 (locs ++ [x]) := by
  subst hi
  obtain ⟨xb, xs⟩ := x
  dsimp only at hx
  subst hx
  refine ⟨?_, ?_, hw.2.2.put z oq (Nat.le_add_right B k)⟩
  · rw [← dp_e_set]
    refine va_P.set hw.1 (dp_e_D a B h) (dp_e_at h1) ?_ oq
    refine ⟨_, hc, _, e1, q2, q3, fun n hn => ?_⟩
    have e2 := t_set q4 hap hjN (dp_ev B v) n hn
    rw [e2, vp_updV_set (by simpa using hj), dp_set_map]
  · rw [z, List.length_set]
    exact hw.2.1
/-- an array's cell is written -/
theorem dp_w.arr {H0 H1 : Heap} (hw : dp_w D a B h H0 H locs) {k : Nat} {x0 x1 : dp_C} {x : Loc} (h1 : h[k]? = some x0) (hx : x.base = B + k) (e1 : va_at D vwCl (B + k, dp_ec a B x1) H1) (z : H1.size = H.size) (oq : ∀ q, q ≠ B + k → H1[q]? = H[q]?) : dp_w D a B (h.set k x1) H0 H1 (locs ++ [x]) := by
  obtain ⟨xb, xs⟩ := x
  dsimp only at hx
  subst hx
  refine ⟨?_, ?_, hw.2.2.put z oq (Nat.le_add_right B k)⟩
  · rw [← dp_e_set]
    exact va_P.set hw.1 (dp_e_D a B h) (dp_e_at h1) e1 oq
  · rw [z, List.length_set]
    exact hw.2.1
theorem dp_put (X : dp_X p s m meth c cc nL own D a B) (hw : dp_w D a B h s.heap H locs) {C : String} {T : u_T} {N ci index : Nat} {ty : Nat → FieldType} (hC : dp_Cl ci C T N ty) (j : Nat) (hj : j < N) (hlink : Cond.fieldLink own index (T j).1 (T j).2.1 (T j).2.2.1 ∈ lw_tbl) (hfin : (T j).2.2.2 = false) {k : Nat} {v : dp_V} (hn : narrow (ty j) (dp_ev B v) = dp_ev B v) (hfit : fits (ty j) (dp_ev B v) = true) {h' : dp_H} (hp : dp_p h k ci j v = some h') (hdg : decode cc pc = .ok (.putfield index, 3))
    (kk : ∀ (H1 : Heap) (locs1 : List Loc), dp_w D a B h' s.heap H1 locs1 → W p l e R s m args below meth c H1 locs1 cells slots Q (F0 m (pc + 3) ls rest)) : W p l e R s m args below meth c H locs cells slots Q (F0 m pc ls (dp_ev B v :: .ref (B + k) :: rest)) := by
  obtain ⟨hx, hb, hml, hown, hlk, hK, hB⟩ := X
  obtain ⟨fs, h1, h2, rfl⟩ := dp_p_e hp
  have hts : ∀ w ∈ u_ws C T N, w.before args s = true := fun w hw => hK.word (hC.2.1 w hw).1 (hC.2.1 w hw).2
  have hap := va_apart (own := own) hts (fun _ h => h) ty hC.2.2.1 hC.2.2.2 hK.2.1 hC.1
  obtain ⟨r, hr, cell, q1, q2, q3, q4⟩ := hw.P h1
  cases hr.symm.trans hC.1
  obtain ⟨hSl, hfc, kC, hkC, hkind⟩ := hK.2.1.1 ci _ hC.1
  obtain ⟨cf, kf, fi, f, hi, hsl⟩ := hSl j hj
  have hlay := hts _ (u_in_lay hj)
  rw [u_lay, if_neg (by rw [hfin]; decide)] at hlay
  refine W.putK hx hb (f := f) ⟨hown, hK.word hlink rfl, ⟨_, _, _, hi⟩, (u_facts hfc hkC (Or.inl hlay) hi).1⟩ (by rw [q2]; exact u_store hfc hkC hkind hlay hi (hC.2.2.1 j hj) hn hfit) q1 q3 (by rw [hsl]; exact k2_hasslot (q4 j hj)) rfl rfl hdg fun H1 e1 z oq => ?_
  exact kk H1 _ (hw.obj h1 h2 hC.1 hj q1 q2 q3 q4 hap hsl rfl e1 z oq)
theorem dp_putF (X : dp_X p s m meth c cc nL own D a B) (hin : meth.name = "<init>") (hw : dp_w D a B h s.heap H locs) {C : String} {T : u_T} {N ci index : Nat} {ty : Nat → FieldType} (hC : dp_Cl ci C T N ty) (j : Nat) (hj : j < N) (hlink : Cond.fieldLink own index (T j).1 (T j).2.1 (T j).2.2.1 ∈ lw_tbl) (hfin : (T j).2.2.2 = true) (hdecl : (T j).1 = own) {k : Nat} {v : dp_V} (hn : narrow (ty j) (dp_ev B v) = dp_ev B v) (hfit : fits (ty j) (dp_ev B v) = true) {h' : dp_H} (hp : dp_p h k ci j v = some h') (hdg : decode cc pc = .ok (.putfield index, 3))
    (kk : ∀ (H1 : Heap) (locs1 : List Loc), dp_w D a B h' s.heap H1 locs1 → W p l e R s m args below meth c H1 locs1 cells slots Q (F0 m (pc + 3) ls rest)) : W p l e R s m args below meth c H locs cells slots Q (F0 m pc ls (dp_ev B v :: .ref (B + k) :: rest)) := by
  obtain ⟨hx, hb, hml, hown, hlk, hK, hB⟩ := X
  obtain ⟨fs, h1, h2, rfl⟩ := dp_p_e hp
  have hts : ∀ w ∈ u_ws C T N, w.before args s = true := fun w hw => hK.word (hC.2.1 w hw).1 (hC.2.1 w hw).2
  have hap := va_apart (own := own) hts (fun _ h => h) ty hC.2.2.1 hC.2.2.2 hK.2.1 hC.1
  obtain ⟨r, hr, cell, q1, q2, q3, q4⟩ := hw.P h1
  cases hr.symm.trans hC.1
  obtain ⟨hSl, hfc, kC, hkC, hkind⟩ := hK.2.1.1 ci _ hC.1
  obtain ⟨cf, kf, fi, f, hi, hsl⟩ := hSl j hj
  have hlay := hts _ (u_in_lay hj)
  rw [u_lay, if_pos hfin] at hlay
  have hcf : m.cls = cf := by
    obtain ⟨_, _, c', _, _, _, -, -, hf', -, -, -, hown2, -⟩ := Cond.laysFinal_spec hlay
    cases hi.symm.trans hf'
    rw [hdecl] at hown2
    exact Option.some.inj (hown.symm.trans hown2)
  refine W.putFinK hx hb hown (hK.word hlink rfl) hi (u_facts hfc hkC (Or.inr hlay) hi).1 hcf hin (by rw [q2]; exact u_fits hfc hkC hkind (Or.inr hlay) hi (hC.2.2.1 j hj) hn hfit) q1 q3 (by rw [hsl]; exact k2_hasslot (q4 j hj)) rfl rfl hdg fun H1 e1 z oq => ?_
  exact kk H1 _ (hw.obj h1 h2 hC.1 hj q1 q2 q3 q4 hap hsl rfl e1 z oq)
theorem dp_puti (X : dp_X p s m meth c cc nL own D a B) (hw : dp_w D a B h s.heap H locs) {C : String} {T : u_T} {N ci index : Nat} {ty : Nat → FieldType} (hC : dp_Cl ci C T N ty) (j : Nat) (hj : j < N) (hlink : Cond.fieldLink own index (T j).1 (T j).2.1 (T j).2.2.1 ∈ lw_tbl) (hfin : (T j).2.2.2 = false) (hty : ty j = .int) {k : Nat} {v : Int32} {h' : dp_H} (hp : dp_p h k ci j (.inl v) = some h') (hdg : decode cc pc = .ok (.putfield index, 3))
    (kk : ∀ (H1 : Heap) (locs1 : List Loc), dp_w D a B h' s.heap H1 locs1 → W p l e R s m args below meth c H1 locs1 cells slots Q (F0 m (pc + 3) ls rest)) : W p l e R s m args below meth c H locs cells slots Q (F0 m pc ls (.int v :: .ref (B + k) :: rest)) := dp_put (v := .inl v) X hw hC j hj hlink hfin (by rw [hty]; rfl) (by rw [hty]; rfl) hp hdg kk
theorem dp_putl (X : dp_X p s m meth c cc nL own D a B) (hw : dp_w D a B h s.heap H locs) {C : String} {T : u_T} {N ci index : Nat} {ty : Nat → FieldType} (hC : dp_Cl ci C T N ty) (j : Nat) (hj : j < N) (hlink : Cond.fieldLink own index (T j).1 (T j).2.1 (T j).2.2.1 ∈ lw_tbl) (hfin : (T j).2.2.2 = false) (hty : ty j = .long) {k : Nat} {v : Int64} {h' : dp_H} (hp : dp_p h k ci j (.inr (.inl v)) = some h') (hdg : decode cc pc = .ok (.putfield index, 3))
    (kk : ∀ (H1 : Heap) (locs1 : List Loc), dp_w D a B h' s.heap H1 locs1 → W p l e R s m args below meth c H1 locs1 cells slots Q (F0 m (pc + 3) ls rest)) : W p l e R s m args below meth c H locs cells slots Q (F0 m pc ls (.long v :: .ref (B + k) :: rest)) := dp_put (v := .inr (.inl v)) X hw hC j hj hlink hfin (by rw [hty]; rfl) (by rw [hty]; rfl) hp hdg kk
theorem dp_nb {v : Int32} (hv : v = 0 ∨ v = 1) : narrow .boolean (.int v) = .int v := by rcases hv with rfl | rfl <;> rfl
theorem dp_fb {v : Int32} (hv : v = 0 ∨ v = 1) : fits .boolean (.int v) = true := by rcases hv with rfl | rfl <;> rfl
theorem dp_putz (X : dp_X p s m meth c cc nL own D a B) (hw : dp_w D a B h s.heap H locs) {C : String} {T : u_T} {N ci index : Nat} {ty : Nat → FieldType} (hC : dp_Cl ci C T N ty) (j : Nat) (hj : j < N) (hlink : Cond.fieldLink own index (T j).1 (T j).2.1 (T j).2.2.1 ∈ lw_tbl) (hfin : (T j).2.2.2 = false) (hty : ty j = .boolean) {k : Nat} {v : Int32} (hv : v = 0 ∨ v = 1) {h' : dp_H} (hp : dp_p h k ci j (.inl v) = some h') (hdg : decode cc pc = .ok (.putfield index, 3))
    (kk : ∀ (H1 : Heap) (locs1 : List Loc), dp_w D a B h' s.heap H1 locs1 → W p l e R s m args below meth c H1 locs1 cells slots Q (F0 m (pc + 3) ls rest)) : W p l e R s m args below meth c H locs cells slots Q (F0 m pc ls (.int v :: .ref (B + k) :: rest)) := dp_put (v := .inl v) X hw hC j hj hlink hfin (by rw [hty]; exact dp_nb hv) (by rw [hty]; exact dp_fb hv) hp hdg kk
theorem dp_isr {t : FieldType} (ht : (∃ n, t = .object n) ∨ ∃ n, t = .array n) (k : Nat) : narrow t (.ref k) = .ref k ∧ fits t (.ref k) = true := by rcases ht with ⟨n, rfl⟩ | ⟨n, rfl⟩ <;> exact ⟨rfl, rfl⟩
theorem dp_putFr (X : dp_X p s m meth c cc nL own D a B) (hin : meth.name = "<init>") (hw : dp_w D a B h s.heap H locs) {C : String} {T : u_T} {N ci index : Nat} {ty : Nat → FieldType} (hC : dp_Cl ci C T N ty) (j : Nat) (hj : j < N) (hlink : Cond.fieldLink own index (T j).1 (T j).2.1 (T j).2.2.1 ∈ lw_tbl) (hfin : (T j).2.2.2 = true) (hdecl : (T j).1 = own) (hty : (∃ n, ty j = .object n) ∨ ∃ n, ty j = .array n) {k v : Nat} {h' : dp_H} (hp : dp_p h k ci j (.inr (.inr (some v))) = some h') (hdg : decode cc pc = .ok (.putfield index, 3))
    (kk : ∀ (H1 : Heap) (locs1 : List Loc), dp_w D a B h' s.heap H1 locs1 → W p l e R s m args below meth c H1 locs1 cells slots Q (F0 m (pc + 3) ls rest)) : W p l e R s m args below meth c H locs cells slots Q (F0 m pc ls (.ref (B + v) :: .ref (B + k) :: rest)) := dp_putF (v := .inr (.inr (some v))) X hin hw hC j hj hlink hfin hdecl (dp_isr hty _).1 (dp_isr hty _).2 hp hdg kk
theorem dp_iald (X : dp_X p s m meth c cc nL own D a B) (hw : dp_w D a B h s.heap H locs) {k : Nat} {i v : Int32} (hg : dp_ai false h k i = some v) (hdg : decode cc pc = .ok (.iaload, 1))
    (kk : W p l e R s m args below meth c H locs cells slots Q (F0 m (pc + 1) ls (.int v :: rest))) : W p l e R s m args below meth c H locs cells slots Q (F0 m pc ls (.int i :: .ref (B + k) :: rest)) := by
  obtain ⟨n, f, h1, h2, rfl⟩ := dp_ai_e hg
  exact va_iald X.1 X.2.1 X.2.2.2.2.2.1.2.1 hw.1 k 0 (dp_e_at h1) rfl h2 hdg kk
theorem dp_zald (X : dp_X p s m meth c cc nL own D a B) (hw : dp_w D a B h s.heap H locs) {k : Nat} {i v : Int32} (hg : dp_ai true h k i = some v) (hdg : decode cc pc = .ok (.baload, 1))
    (kk : W p l e R s m args below meth c H locs cells slots Q (F0 m (pc + 1) ls (.int v :: rest))) : W p l e R s m args below meth c H locs cells slots Q (F0 m pc ls (.int i :: .ref (B + k) :: rest)) := by
  obtain ⟨n, f, h1, h2, rfl⟩ := dp_ai_e hg
  exact va_zald X.1 X.2.1 X.2.2.2.2.2.1.2.1 hw.1 k 1 (dp_e_at h1) rfl h2 hdg kk
theorem dp_alen (X : dp_X p s m meth c cc nL own D a B) (hw : dp_w D a B h s.heap H locs) {k : Nat} {v : Int32} (hg : dp_ln h k = some v) (hdg : decode cc pc = .ok (.arraylength, 1))
    (kk : W p l e R s m args below meth c H locs cells slots Q (F0 m (pc + 1) ls (.int v :: rest))) : W p l e R s m args below meth c H locs cells slots Q (F0 m pc ls (.ref (B + k) :: rest)) := by
  unfold dp_ln at hg
  split at hg
  · rename_i x hx
    cases hg
    obtain ⟨z, n, f⟩ := x
    cases z with
    | false => exact va_alen X.1 X.2.1 X.2.2.2.2.2.1.2.1 hw.1 k 0 (dp_e_at hx) (ty := .int) rfl rfl hdg kk
    | true => exact va_alen X.1 X.2.1 X.2.2.2.2.2.1.2.1 hw.1 k 1 (dp_e_at hx) (ty := .boolean) rfl rfl hdg kk
  · rename_i x hx
    cases hg
    exact va_alen X.1 X.2.1 X.2.2.2.2.2.1.2.1 hw.1 k 2 (dp_e_at hx) (ty := .object RX1) rfl rfl hdg kk
  · cases hg
theorem dp_aald (X : dp_X p s m meth c cc nL own D a B) (hw : dp_w D a B h s.heap H locs) {k v : Nat} {i : Int32} (hg : dp_ar h k i = some v) (hdg : decode cc pc = .ok (.aaload, 1))
    (kk : W p l e R s m args below meth c H locs cells slots Q (F0 m (pc + 1) ls (.ref (B + v) :: rest))) : W p l e R s m args below meth c H locs cells slots Q (F0 m pc ls (.int i :: .ref (B + k) :: rest)) := by
  obtain ⟨n, f, h1, h2, h3⟩ := dp_ar_e hg
  refine va_aldq X.1 X.2.1 X.2.2.2.2.2.1.2.1 hw.1 k 2 (dp_e_at h1) (C := RX1) rfl h2 hdg ?_
  show W p l e R s m args below meth c H locs cells slots Q (F0 m (pc + 1) ls (va_rf (Option.map (fun k => B + k) (f i.toNatClampNeg)) :: rest))
  rw [h3]
  exact kk
theorem dp_iast (X : dp_X p s m meth c cc nL own D a B) (hw : dp_w D a B h s.heap H locs) {k : Nat} {i v : Int32} {h' : dp_H} (hg : dp_si false h k i v = some h') (hdg : decode cc pc = .ok (.iastore, 1))
    (kk : ∀ (H1 : Heap) (locs1 : List Loc), dp_w D a B h' s.heap H1 locs1 → W p l e R s m args below meth c H1 locs1 cells slots Q (F0 m (pc + 1) ls rest)) : W p l e R s m args below meth c H locs cells slots Q (F0 m pc ls (.int v :: .int i :: .ref (B + k) :: rest)) := by
  obtain ⟨n, f, h1, h2, rfl⟩ := dp_si_e hg
  refine W.iast X.1 X.2.1 (hw.P h1) ((X.2.2.2.2.2.1.2.1.2 0 _ rfl).1 n (fun j => .int (f j))) (fun q => by cases q) (by show ¬ (i < 0 ∨ (arrV _ _ _).slots.size ≤ _); rw [arrV_size]; exact h2) rfl rfl hdg fun H1 e1 z oq => kk H1 _ (hw.arr h1 rfl ?_ z oq)
  refine e1.trans (congrArg some ?_)
  show (arrV a.1 n (fun j => .int (f j))).setSlot _ _ = arrV a.1 n (fun j => .int (upd f i.toNatClampNeg v j))
  rw [arrV_store]
  refine congrArg (arrV _ _) (funext fun q => ?_)
  by_cases hq : q = i.toNatClampNeg <;> simp [updV, upd, hq]
theorem dp_zast (X : dp_X p s m meth c cc nL own D a B) (hw : dp_w D a B h s.heap H locs) {k : Nat} {i v : Int32} (hv : v = 0 ∨ v = 1) {h' : dp_H} (hg : dp_si true h k i v = some h') (hdg : decode cc pc = .ok (.bastore, 1))
    (kk : ∀ (H1 : Heap) (locs1 : List Loc), dp_w D a B h' s.heap H1 locs1 → W p l e R s m args below meth c H1 locs1 cells slots Q (F0 m (pc + 1) ls rest)) : W p l e R s m args below meth c H locs cells slots Q (F0 m pc ls (.int v :: .int i :: .ref (B + k) :: rest)) := by
  obtain ⟨n, f, h1, h2, rfl⟩ := dp_si_e hg
  refine W.zast X.1 X.2.1 (hw.P h1) ((X.2.2.2.2.2.1.2.1.2 1 _ rfl).1 n (fun j => .int (f j))) (fun q => by cases q) (by show ¬ (i < 0 ∨ (arrV _ _ _).slots.size ≤ _); rw [arrV_size]; exact h2) rfl rfl hdg fun H1 e1 z oq => kk H1 _ (hw.arr h1 rfl ?_ z oq)
  refine e1.trans (congrArg some ?_)
  show (arrV a.2.1 n (fun j => .int (f j))).setSlot _ _ = arrV a.2.1 n (fun j => .int (upd f i.toNatClampNeg v j))
  rw [arrV_store, dp_nb hv]
  refine congrArg (arrV _ _) (funext fun q => ?_)
  by_cases hq : q = i.toNatClampNeg <;> simp [updV, upd, hq]
theorem dp_aast (X : dp_X p s m meth c cc nL own D a B) (hw : dp_w D a B h s.heap H locs) {k v : Nat} {i : Int32} {h' : dp_H} (hg : dp_sr h k i v = some h') (hdg : decode cc pc = .ok (.aastore, 1))
    (kk : ∀ (H1 : Heap) (locs1 : List Loc), dp_w D a B h' s.heap H1 locs1 → W p l e R s m args below meth c H1 locs1 cells slots Q (F0 m (pc + 1) ls rest)) : W p l e R s m args below meth c H locs cells slots Q (F0 m pc ls (.ref (B + v) :: .int i :: .ref (B + k) :: rest)) := by
  obtain ⟨n, f, fs, h1, h2, h3, rfl⟩ := dp_sr_e hg
  have hK := X.2.2.2.2.2.1.2.1
  obtain ⟨r', hr', cellV, g1, g2, g3, -⟩ := hw.P h3
  have hcls := (hK.1 1 _ rfl).2
  obtain ⟨kA, comp, k1, k2, k3, -⟩ := (hK.2 2 _ rfl).2
  have hcomp : comp = D.1 1 := Option.some.inj (k3.symm.trans hcls.1)
  subst hcomp
  obtain ⟨kC, hkC, -⟩ := hcls.2
  refine W.aast X.1 X.2.1 (hw.P h1) (fun q h => by cases h) (fun h => by cases h) k1 k2 rfl hkC ⟨fun q => h2 (Or.inl q), by show _ < (arrV _ _ _).slots.size; rw [arrV_size]; exact Nat.not_le.mp fun q => h2 (Or.inr q)⟩ g1 (fun q h => by rw [g3] at h; cases h) (by rw [g2]; exact hkC) (by rw [g2]; exact va_assign hcls) rfl rfl hdg fun H1 e1 z oq => kk H1 _ (hw.arr h1 rfl ?_ z oq)
  refine e1.trans (congrArg some ?_)
  show (arrV a.2.2 n (fun j => va_rf (Option.map (fun k => B + k) (f j)))).setSlot i.toNatClampNeg (.ref (B + v)) = arrV a.2.2 n (fun j => va_rf (Option.map (fun k => B + k) (va_up f i.toNatClampNeg (some v) j)))
  rw [arrV_store]
  refine congrArg (arrV _ _) (funext fun q => ?_)
  by_cases hq : q = i.toNatClampNeg <;> simp [updV, va_up, va_rf, hq]
/-! new cells -/
theorem dp_w.push {H0 H1 : Heap} (hw : dp_w D a B h H0 H locs) {x : dp_C} (e1 : va_at D vwCl (B + h.length, dp_ec a B x) H1) (z : H1.size = H.size + 1) (oq : ∀ q, q < H.size → H1[q]? = H[q]?) : dp_w D a B (h ++ [x]) H0 H1 locs := by
  refine ⟨?_, ?_, Nat.le_trans hw.2.2.1 (by omega), fun q h1 h2 => (oq q (Nat.lt_of_lt_of_le h1 hw.2.2.1)).trans (hw.2.2.2.1 q h1 h2), hw.2.2.2.2⟩
  · rw [← dp_e_push]
    refine (hw.1.kept (fun k x hx => oq x.1 ((hw.1 k x hx).lt))).app (fun k y hy => ?_)
    have hz : k < 1 := (List.getElem?_eq_some_iff.mp hy).1
    rw [show k = 0 by omega] at hy
    cases hy
    exact e1
  · rw [z, hw.2.1, List.length_append]
    simp
    omega
theorem dp_new (X : dp_X p s m meth c cc nL own D a B) (hw : dp_w D a B h s.heap H locs) {C : String} {T : u_T} {N ci index : Nat} {ty : Nat → FieldType} (hC : dp_Cl ci C T N ty) (hcl : Cond.classLink own index C ∈ lw_tbl) (hinst : Cond.instantiable C N ∈ lw_tbl) (hini : Cond.initialized C ∈ lw_tbl) {fs : List dp_V} (hfs : ∀ j, j < N → defaultValue (ty j) = vp_V (fs.map (dp_ev B)) j) (hcells : cells + 1 ≤ R.cells) (hslots : slots + N ≤ R.slots) (hdg : decode cc pc = .ok (.new index, 3))
    (kk : ∀ (H1 : Heap), dp_w D a B (h ++ [.inl (ci, fs)]) s.heap H1 locs → W p l e R s m args below meth c H1 locs (cells + 1) (slots + N) Q (F0 m (pc + 3) ls (.ref (B + h.length) :: rest))) : W p l e R s m args below meth c H locs cells slots Q (F0 m pc ls rest) := by
  obtain ⟨hx, hb, hml, hown, hlk, hK, hB⟩ := X
  have hKn := hK.2.1.1 ci _ hC.1
  have hts : ∀ w ∈ u_ws C T N, w.before args s = true := fun w hw => hK.word (hC.2.1 w hw).1 (hC.2.1 w hw).2
  refine W.newcK hx hb hown (hK.word hcl rfl) (hK.word hinst rfl) (hK.word hini rfl) rfl hdg hcells hslots hKn.2.1 hw.2.1 fun H1 kC hkC e1 z oq => kk H1 (hw.push ⟨_, hC.1, ?_⟩ (by rw [z, hw.2.1]) (fun q hq => oq q (by rw [← hw.2.1]; exact hq)))
  exact (u_born ty hts (fun _ h => h) hKn hkC e1 hC.2.2.1).to hfs
theorem dp_newi (X : dp_X p s m meth c cc nL own D a B) (hw : dp_w D a B h s.heap H locs) (harr : Cond.arrayClass .int ∈ lw_tbl) {n : Int32} {h' : dp_H} (hg : dp_na false h n = some h') (hcells : cells + 1 ≤ R.cells) (hslots : slots + 80 ≤ R.slots) (hdg : decode cc pc = .ok (.newarray .int, 2))
    (kk : ∀ (H1 : Heap), dp_w D a B h' s.heap H1 locs → W p l e R s m args below meth c H1 locs (cells + 1) (slots + 80) Q (F0 m (pc + 2) ls (.ref (B + h.length) :: rest))) : W p l e R s m args below meth c H locs cells slots Q (F0 m pc ls (.int n :: rest)) := by
  obtain ⟨hx, hb, hml, hown, hlk, hK, hB⟩ := X
  obtain ⟨h0, h8, rfl⟩ := dp_na_e hg
  refine va_newaK (atype := .int) hx hb (hK.word harr rfl) rfl hdg rfl h0 rfl (by show _ * 4 ≤ _; omega) hcells (by omega) hw.2.1 fun H1 cA e1 z oq hAr hNm => ?_
  have ea : cA = a.1 := Option.some.inj (hNm.symm.trans (hK.2.1.2 0 _ rfl).2)
  subst ea
  exact W.widen (Nat.le_refl _) (by omega) (kk H1 (hw.push e1 (by rw [z, hw.2.1]) (fun q hq => oq q (by rw [← hw.2.1]; exact hq))))
theorem dp_newz (X : dp_X p s m meth c cc nL own D a B) (hw : dp_w D a B h s.heap H locs) (harr : Cond.arrayClass .boolean ∈ lw_tbl) {n : Int32} {h' : dp_H} (hg : dp_na true h n = some h') (hcells : cells + 1 ≤ R.cells) (hslots : slots + 80 ≤ R.slots) (hdg : decode cc pc = .ok (.newarray .boolean, 2))
    (kk : ∀ (H1 : Heap), dp_w D a B h' s.heap H1 locs → W p l e R s m args below meth c H1 locs (cells + 1) (slots + 80) Q (F0 m (pc + 2) ls (.ref (B + h.length) :: rest))) : W p l e R s m args below meth c H locs cells slots Q (F0 m pc ls (.int n :: rest)) := by
  obtain ⟨hx, hb, hml, hown, hlk, hK, hB⟩ := X
  obtain ⟨h0, h8, rfl⟩ := dp_na_e hg
  refine va_newaK (atype := .boolean) hx hb (hK.word harr rfl) rfl hdg rfl h0 rfl (by show _ * 1 ≤ _; omega) hcells (by omega) hw.2.1 fun H1 cA e1 z oq hAr hNm => ?_
  have ea : cA = a.2.1 := Option.some.inj (hNm.symm.trans (hK.2.1.2 1 _ rfl).2)
  subst ea
  exact W.widen (Nat.le_refl _) (by omega) (kk H1 (hw.push e1 (by rw [z, hw.2.1]) (fun q hq => oq q (by rw [← hw.2.1]; exact hq))))
theorem dp_newr (X : dp_X p s m meth c cc nL own D a B) (hw : dp_w D a B h s.heap H locs) {index : Nat} (hcl : Cond.classLink own index RX1 ∈ lw_tbl) {n : Int32} {h' : dp_H} (hg : dp_nr h n = some h') (hcells : cells + 1 ≤ R.cells) (hslots : slots + 80 ≤ R.slots) (hdg : decode cc pc = .ok (.anewarray index, 3))
    (kk : ∀ (H1 : Heap), dp_w D a B h' s.heap H1 locs → W p l e R s m args below meth c H1 locs (cells + 1) (slots + 80) Q (F0 m (pc + 3) ls (.ref (B + h.length) :: rest))) : W p l e R s m args below meth c H locs cells slots Q (F0 m pc ls (.int n :: rest)) := by
  obtain ⟨hx, hb, hml, hown, hlk, hK, hB⟩ := X
  obtain ⟨h0, h8, rfl⟩ := dp_nr_e hg
  refine W.anew hx hb hown (hK.word hcl rfl) (va_AO.use hK.2.2.2) rfl hdg rfl h0 (by omega) hcells (by omega) fun cA kA comp h1 h2 h3 h4 => ?_
  obtain ⟨kA', comp', -, -, -, k4⟩ := (hK.2.1.2 2 _ rfl).2
  have ea : cA = a.2.2 := Option.some.inj (h1.symm.trans k4)
  subst ea
  refine W.widen (k := cells + 1) (n := slots + 80) (Nat.le_refl _) (by omega) ?_
  rw [hw.2.1]
  refine kk _ (hw.push ?_ (Array.size_push _) (fun q hq => ?_))
  · show (H.push _)[B + h.length]? = some (vp_cell _ _)
    rw [← hw.2.1, Array.getElem?_push, if_pos rfl, arrV_new]
    rfl
  · rw [Array.getElem?_push, if_neg (Nat.ne_of_lt hq)]
/-! locals and returns -/
theorem dp_aload_n {o : Option Nat} (hexec : p.tables.exec = Jvm.exec) (hb : c.code = cc) {k : Fin 4} {i : Nat} (hdg : decode cc pc = .ok (.aload_n k, 1)) (hi : (k : Nat) = i) (hl : ls[i]? = some (.val (dp_ro B o)))
    (kk : W p l e R s m args below meth c H locs cells slots Q (F0 m (pc + 1) ls (dp_ro B o :: rest))) : W p l e R s m args below meth c H locs cells slots Q (F0 m pc ls rest) := by
  cases o with
  | none => exact lv_aload_nN hexec hb hdg hi hl kk
  | some x => exact lv_aload_n hexec hb hdg hi hl kk
theorem dp_aload {o : Option Nat} (hexec : p.tables.exec = Jvm.exec) (hb : c.code = cc) {i : Nat} (hdg : decode cc pc = .ok (.aload i, 2)) (hl : ls[i]? = some (.val (dp_ro B o)))
    (kk : W p l e R s m args below meth c H locs cells slots Q (F0 m (pc + 2) ls (dp_ro B o :: rest))) : W p l e R s m args below meth c H locs cells slots Q (F0 m pc ls rest) := by
  cases o with
  | none => exact lv_aloadN hexec hb hdg hl kk
  | some x => exact lv_aload hexec hb hdg hl kk
theorem dp_astore_n {o : Option Nat} (hexec : p.tables.exec = Jvm.exec) (hb : c.code = cc) {k : Fin 4} {i : Nat} {lv lv' : List (Nat × Value)} (hdg : decode cc pc = .ok (.astore_n k, 1)) (hi : (k : Nat) = i) (hh : lv_has ls nL lv) (hn : i < nL) (hl : (i, dp_ro B o) :: lv.filter (fun q => !(q.1 == i) && !(q.1 + 1 == i && q.2.category == 2)) = lv')
    (kk : ∀ ls' : Array Slot, lv_has ls' nL lv' → W p l e R s m args below meth c H locs cells slots Q (F0 m (pc + 1) ls' rest)) : W p l e R s m args below meth c H locs cells slots Q (F0 m pc ls (dp_ro B o :: rest)) := by
  cases o with
  | none => exact lv_astore_nN hexec hb hdg hi hh hn hl kk
  | some x => exact lv_astore_n hexec hb hdg hi hh hn hl kk
theorem dp_astore {o : Option Nat} (hexec : p.tables.exec = Jvm.exec) (hb : c.code = cc) {i : Nat} {lv lv' : List (Nat × Value)} (hdg : decode cc pc = .ok (.astore i, 2)) (hh : lv_has ls nL lv) (hn : i < nL) (hl : (i, dp_ro B o) :: lv.filter (fun q => !(q.1 == i) && !(q.1 + 1 == i && q.2.category == 2)) = lv')
    (kk : ∀ ls' : Array Slot, lv_has ls' nL lv' → W p l e R s m args below meth c H locs cells slots Q (F0 m (pc + 2) ls' rest)) : W p l e R s m args below meth c H locs cells slots Q (F0 m pc ls (dp_ro B o :: rest)) := by
  cases o with
  | none => exact lv_astoreN hexec hb hdg hh hn hl kk
  | some x => exact lv_astore hexec hb hdg hh hn hl kk
theorem dp_end {r : Option Value} (hw : dp_w D a B h s.heap H locs) {v : Option Value} (hv : v = r) : ∀ t : State, t.heap = H → s.WarmedH t.vm → dp_Q D a B r h args s (.returned v) t := fun t ht _ => by
  subst hv
  exact ⟨rfl, by rw [ht]; exact hw.1, by rw [ht]; exact hw.2.1, hw.2.2.F ht⟩
theorem dp_iret (X : dp_X p s m meth c cc nL own D a B) (hr : meth.sig.returnType = some .int) (hw : dp_w D a B h s.heap H locs) {v : Int32} (hdg : decode cc pc = .ok (.ireturn, 1)) : W p l e R s m args below meth c H locs cells slots (MQ below (dp_Q D a B (some (.int v)) h) args s cells slots (fun q => B ≤ q)) (F0 m pc ls [.int v]) := W.iret X.1 X.2.1 hr (dp_end hw rfl) hw.2.2.2.2 hdg X.2.2.2.2.1
theorem dp_zret (X : dp_X p s m meth c cc nL own D a B) (hr : meth.sig.returnType = some .boolean) (hw : dp_w D a B h s.heap H locs) {v : Int32} (hv : v = 0 ∨ v = 1) (hdg : decode cc pc = .ok (.ireturn, 1)) : W p l e R s m args below meth c H locs cells slots (MQ below (dp_Q D a B (some (.int v)) h) args s cells slots (fun q => B ≤ q)) (F0 m pc ls [.int v]) := W.zret X.1 X.2.1 hr (dp_nb hv) (dp_end hw rfl) hw.2.2.2.2 hdg X.2.2.2.2.1
theorem dp_lret (X : dp_X p s m meth c cc nL own D a B) (hr : meth.sig.returnType = some .long) (hw : dp_w D a B h s.heap H locs) {v : Int64} (hdg : decode cc pc = .ok (.lreturn, 1)) : W p l e R s m args below meth c H locs cells slots (MQ below (dp_Q D a B (some (.long v)) h) args s cells slots (fun q => B ≤ q)) (F0 m pc ls [.long v]) := W.lret X.1 X.2.1 hr (dp_end hw rfl) hw.2.2.2.2 hdg X.2.2.2.2.1
theorem dp_vret (X : dp_X p s m meth c cc nL own D a B) (hr : meth.sig.returnType = none) (hw : dp_w D a B h s.heap H locs) (hdg : decode cc pc = .ok (.return_, 1)) : W p l e R s m args below meth c H locs cells slots (MQ below (dp_Q D a B none h) args s cells slots (fun q => B ≤ q)) (F0 m pc ls []) := W.vret X.1 X.2.1 hr (dp_end hw rfl) hw.2.2.2.2 hdg X.2.2.2.2.1
theorem dp_aret (X : dp_X p s m meth c cc nL own D a B) {rt : FieldType} (hr : meth.sig.returnType = some rt) (hrt : (∃ n, rt = .object n) ∨ ∃ t, rt = .array t) (hw : dp_w D a B h s.heap H locs) {k : Nat} (hdg : decode cc pc = .ok (.areturn, 1)) : W p l e R s m args below meth c H locs cells slots (MQ below (dp_Q D a B (some (.ref (B + k))) h) args s cells slots (fun q => B ≤ q)) (F0 m pc ls [.ref (B + k)]) := W.aret X.1 X.2.1 hr hrt (Or.inr ⟨_, rfl⟩) (dp_end hw rfl) hw.2.2.2.2 hdg X.2.2.2.2.1
theorem dp_areto (X : dp_X p s m meth c cc nL own D a B) {rt : FieldType} (hr : meth.sig.returnType = some rt) (hrt : (∃ n, rt = .object n) ∨ ∃ t, rt = .array t) (hw : dp_w D a B h s.heap H locs) {o : Option Nat} (hdg : decode cc pc = .ok (.areturn, 1)) : W p l e R s m args below meth c H locs cells slots (MQ below (dp_Q D a B (some (dp_ro B o)) h) args s cells slots (fun q => B ≤ q)) (F0 m pc ls [dp_ro B o]) := W.aret X.1 X.2.1 hr hrt (by cases o; exact Or.inl rfl; exact Or.inr ⟨_, rfl⟩) (dp_end hw rfl) hw.2.2.2.2 hdg X.2.2.2.2.1
/-! calls -/
theorem dp_go {rv : Option Value} {h' : dp_H} {av : Array Value} {st0 : List Value} {mc ms : Nat} (hB : B ≤ s.heap.size) (hw : dp_w D a B h s.heap H locs) (hr : va_Run p l e R s m args below meth c H locs cells slots mc ms (F0 m pc ls st0) rest (dp_Q D a B rv h' av) (fun q => B ≤ q))
    (kk : ∀ (H1 : Heap) (locs1 : List Loc), dp_w D a B h' s.heap H1 locs1 → W p l e R s m args below meth c H1 locs1 (cells + mc) (slots + ms) Q (F0 m (pc + 3) ls (rv.toList ++ rest))) : W p l e R s m args below meth c H locs cells slots Q (F0 m pc ls st0) := by
  intro T hT Xs
  obtain ⟨v, st₀, t, T', L, h0, X', hL, e1, e2, ⟨hv, hP, hz, hF⟩, st⟩ := hr T hT Xs
  cases hv
  obtain ⟨f1, f2⟩ := hF
  rw [h0] at f1 f2
  obtain ⟨t2, a1, b1⟩ := kk T'.heap (locs ++ L) ⟨by rw [e1]; exact hP, by rw [e1]; exact hz, by rw [e1]; exact Nat.le_trans hw.2.2.1 f1, fun q h1 h2 => by
      rw [e1, f2 q (Nat.lt_of_lt_of_le h1 hw.2.2.1) h2]; exact hw.2.2.2.1 q h1 h2, fun q hq => by
      rcases List.mem_append.mp hq with h | h
      · exact hw.2.2.2.2 q h
      · exact hL q h⟩ T' rfl X'
  exact ⟨t2, st t2 a1, b1⟩
theorem dp_blind {av : List Value} : FrameBlind (va_Pc av (dp_P0 D a B h)) := fun _ _ g mk q => ⟨q.1, q.2.1, q.2.2.1, q.2.2.2.calling g mk _⟩
theorem dp_pre (X : dp_X p s m meth c cc nL own D a B) (hw : dp_w D a B h s.heap H locs) {av : List Value} : ∀ U : State, U.heap = H → s.WarmedH U.vm → va_Pc av (dp_P0 D a B h) av.toArray U := fun U hU hW => ⟨rfl, by rw [hU]; exact hw.1, by rw [hU]; exact hw.2.1, X.2.2.2.2.2.1.warm hW⟩
/-- the words of a callee: an instance method of the class C -/
def dp_Vm (y : MethodName) (C : String) (bytes : ByteArray) (maxL : Nat) (ret : Option FieldType) (n : Nat) : Prop :=
  Cond.code y bytes maxL ret ∈ lw_tbl ∧ Cond.initialized y.cls ∈ lw_tbl ∧ (y.cls ≠ "java/lang/invoke/MethodHandle" ∧ y.cls ≠ "java/lang/invoke/VarHandle" ∧ (parseMethodDescriptor y.desc).map (fun d => d.parameters.length) = some n) ∧ Cond.instanceMethod y ∈ lw_tbl ∧ Cond.selects C y y ∈ lw_tbl
/-- a static method, or a constructor -/
def dp_Sm (y : MethodName) (bytes : ByteArray) (maxL : Nat) (ret : Option FieldType) (n : Nat) : Prop :=
  Cond.code y bytes maxL ret ∈ lw_tbl ∧ Cond.initialized y.cls ∈ lw_tbl ∧ (y.cls ≠ "java/lang/invoke/MethodHandle" ∧ y.cls ≠ "java/lang/invoke/VarHandle" ∧ (parseMethodDescriptor y.desc).map (fun d => d.parameters.length) = some n)
theorem dp_cws {y : MethodName} {bytes : ByteArray} {maxL : Nat} {ret : Option FieldType} {n index : Nat} {rm : Room} (X : dp_X p s m meth c cc nL own D a B) (hv : dp_Sm y bytes maxL ret n) (hl : Cond.methodLink own index y ∈ lw_tbl) (hR : rm.frames + 1 ≤ R.frames ∧ 8 + (maxL + 11) + rm.locals ≤ R.locals) : CallB R s args own index y bytes maxL ret [Cond.code y bytes maxL ret] rm rm.cells rm.slots n := by
  have hK := X.2.2.2.2.2.1
  refine ⟨rfl, rfl, hR.1, hR.2, fun w hw a' U hW => ?_, List.mem_cons_self, hK.word hv.1 rfl, hK.word hv.2.1 rfl, ⟨hv.2.2.1, hv.2.2.2.1⟩, fun sig h => ?_, hK.word hl rfl⟩
  · rw [List.mem_singleton] at hw
    subst hw
    exact (hK.warm hW).word hv.1 rfl
  · have h2 := hv.2.2.2.2
    rw [h] at h2
    exact (Option.some.inj h2).symm
theorem dp_cV {y : MethodName} {C : String} {bytes : ByteArray} {maxL : Nat} {ret : Option FieldType} {n index ci k : Nat} {rm : Room} {As st0 : List Value} {v : Value} {h' : dp_H} {T : u_T} {N : Nat} (X : dp_X p s m meth c cc nL own D a B) (hw : dp_w D a B h s.heap H locs) (hM : dp_M l D a B y bytes maxL ret rm (.ref (B + k) :: As) h (some v) h') (hv : dp_Vm y C bytes maxL ret n) (hl : Cond.methodLink own index y ∈ lw_tbl) (hR : rm.frames + 1 ≤ R.frames ∧ 8 + (maxL + 11) + rm.locals ≤ R.locals) (h0 : rm.cells = 0) (h1 : rm.slots = 0)
    (hck : dp_is h k ci = true) (hc : vwCl[ci]? = some (C, T, N)) (hn : As.length = n) (hsize : ls.size = nL) (hst : st0 = As.reverse ++ .ref (B + k) :: rest) (hW : (rest.map fun v => v.category).sum ≤ 8) (hdg : decode cc pc = .ok (.invokevirtual index, 3)) (hf : cells ≤ R.cells ∧ slots ≤ R.slots)
    (kk : ∀ (H1 : Heap) (locs1 : List Loc), dp_w D a B h' s.heap H1 locs1 → W p l e R s m args below meth c H1 locs1 cells slots Q (F0 m (pc + 3) ls (v :: rest))) : W p l e R s m args below meth c H locs cells slots Q (F0 m pc ls st0) := by
  obtain ⟨fs, hfs⟩ := dp_is_e hck
  have hK := X.2.2.2.2.2.1
  refine dp_go X.2.2.2.2.2.2 hw (va_runV (b := B + k) (As := As) (C := C) (Ts := []) ⟨X.1, X.2.1, X.2.2.1, X.2.2.2.1, fun w h => by cases h⟩ hM ⟨dp_cws X ⟨hv.1, hv.2.1, hv.2.2.1⟩ hl hR, hK.word hv.2.2.2.1 rfl, hK.word hv.2.2.2.2 rfl⟩ ⟨dp_blind, va_recv hK.2.1 hw.1 hc (dp_e_at hfs), dp_pre X hw⟩ rfl hn hsize hst (lv_room hW) hdg (by rw [h0, h1]; exact hf)) (fun H1 locs1 hw1 => ?_)
  rw [h0, h1]
  exact kk H1 locs1 hw1
theorem dp_cVv {y : MethodName} {C : String} {bytes : ByteArray} {maxL : Nat} {ret : Option FieldType} {n index ci k : Nat} {rm : Room} {As st0 : List Value} {h' : dp_H} {T : u_T} {N : Nat} (X : dp_X p s m meth c cc nL own D a B) (hw : dp_w D a B h s.heap H locs) (hM : dp_M l D a B y bytes maxL ret rm (.ref (B + k) :: As) h none h') (hv : dp_Vm y C bytes maxL ret n) (hl : Cond.methodLink own index y ∈ lw_tbl) (hR : rm.frames + 1 ≤ R.frames ∧ 8 + (maxL + 11) + rm.locals ≤ R.locals) (h0 : rm.cells = 0) (h1 : rm.slots = 0)
    (hck : dp_is h k ci = true) (hc : vwCl[ci]? = some (C, T, N)) (hn : As.length = n) (hsize : ls.size = nL) (hst : st0 = As.reverse ++ .ref (B + k) :: rest) (hW : (rest.map fun v => v.category).sum ≤ 8) (hdg : decode cc pc = .ok (.invokevirtual index, 3)) (hf : cells ≤ R.cells ∧ slots ≤ R.slots)
    (kk : ∀ (H1 : Heap) (locs1 : List Loc), dp_w D a B h' s.heap H1 locs1 → W p l e R s m args below meth c H1 locs1 cells slots Q (F0 m (pc + 3) ls rest)) : W p l e R s m args below meth c H locs cells slots Q (F0 m pc ls st0) := by
  obtain ⟨fs, hfs⟩ := dp_is_e hck
  have hK := X.2.2.2.2.2.1
  refine dp_go X.2.2.2.2.2.2 hw (va_runV (b := B + k) (As := As) (C := C) (Ts := []) ⟨X.1, X.2.1, X.2.2.1, X.2.2.2.1, fun w h => by cases h⟩ hM ⟨dp_cws X ⟨hv.1, hv.2.1, hv.2.2.1⟩ hl hR, hK.word hv.2.2.2.1 rfl, hK.word hv.2.2.2.2 rfl⟩ ⟨dp_blind, va_recv hK.2.1 hw.1 hc (dp_e_at hfs), dp_pre X hw⟩ rfl hn hsize hst (lv_room hW) hdg (by rw [h0, h1]; exact hf)) (fun H1 locs1 hw1 => ?_)
  rw [h0, h1]
  exact kk H1 locs1 hw1
theorem dp_cS {y : MethodName} {bytes : ByteArray} {maxL : Nat} {ret : Option FieldType} {n index : Nat} {rm : Room} {As st0 : List Value} {v : Value} {h' : dp_H} (X : dp_X p s m meth c cc nL own D a B) (hw : dp_w D a B h s.heap H locs) (hM : dp_M l D a B y bytes maxL ret rm As h (some v) h') (hv : dp_Sm y bytes maxL ret n) (hs : Cond.static y ∈ lw_tbl) (hl : Cond.methodLink own index y ∈ lw_tbl) (hR : rm.frames + 1 ≤ R.frames ∧ 8 + (maxL + 11) + rm.locals ≤ R.locals) (h0 : rm.cells = 0) (h1 : rm.slots = 0)
    (hn : As.length = n) (hsize : ls.size = nL) (hst : st0 = As.reverse ++ rest) (hW : (rest.map fun v => v.category).sum ≤ 8) (hdg : decode cc pc = .ok (.invokestatic index, 3)) (hf : cells ≤ R.cells ∧ slots ≤ R.slots)
    (kk : ∀ (H1 : Heap) (locs1 : List Loc), dp_w D a B h' s.heap H1 locs1 → W p l e R s m args below meth c H1 locs1 cells slots Q (F0 m (pc + 3) ls (v :: rest))) : W p l e R s m args below meth c H locs cells slots Q (F0 m pc ls st0) := by
  have hK := X.2.2.2.2.2.1
  refine dp_go X.2.2.2.2.2.2 hw (va_runS (As := As) (Ts := []) ⟨X.1, X.2.1, X.2.2.1, X.2.2.2.1, fun w h => by cases h⟩ hM ⟨dp_cws X hv hl hR, hK.word hs rfl⟩ ⟨dp_blind, dp_pre X hw⟩ rfl hn hsize hst (lv_room hW) hdg (by rw [h0, h1]; exact hf)) (fun H1 locs1 hw1 => ?_)
  rw [h0, h1]
  exact kk H1 locs1 hw1
theorem dp_cN {y : MethodName} {host : String} {bytes : ByteArray} {maxL : Nat} {ret : Option FieldType} {n index : Nat} {rm : Room} (X : dp_X p s m meth c cc nL own D a B) (hv : dp_Sm y bytes maxL ret n) (hl : Cond.methodLinkNest own index y host ∈ dp_N) (hR : rm.frames + 1 ≤ R.frames ∧ 8 + (maxL + 11) + rm.locals ≤ R.locals) : va_CN R s args own index y host bytes maxL ret [Cond.code y bytes maxL ret] rm rm.cells rm.slots n := by
  have hK := X.2.2.2.2.2.1
  refine ⟨⟨rfl, rfl, hR.1, hR.2, fun w hw a' U hW => ?_, List.mem_cons_self⟩, hK.word hv.1 rfl, hK.word hv.2.1 rfl, ⟨hv.2.2.1, hv.2.2.2.1⟩, fun sig h => ?_, va_Nw.use rfl (hK.2.2.1 _ hl)⟩
  · rw [List.mem_singleton] at hw
    subst hw
    exact (hK.warm hW).word hv.1 rfl
  · have h2 := hv.2.2.2.2
    rw [h] at h2
    exact (Option.some.inj h2).symm
theorem dp_cSN {y : MethodName} {host : String} {bytes : ByteArray} {maxL : Nat} {ret : Option FieldType} {n index : Nat} {rm : Room} {As st0 : List Value} {v : Value} {h' : dp_H} (X : dp_X p s m meth c cc nL own D a B) (hw : dp_w D a B h s.heap H locs) (hM : dp_M l D a B y bytes maxL ret rm As h (some v) h') (hv : dp_Sm y bytes maxL ret n) (hs : Cond.static y ∈ lw_tbl) (hl : Cond.methodLinkNest own index y host ∈ dp_N) (hR : rm.frames + 1 ≤ R.frames ∧ 8 + (maxL + 11) + rm.locals ≤ R.locals) (h0 : rm.cells = 0) (h1 : rm.slots = 0)
    (hn : As.length = n) (hsize : ls.size = nL) (hst : st0 = As.reverse ++ rest) (hW : (rest.map fun v => v.category).sum ≤ 8) (hdg : decode cc pc = .ok (.invokestatic index, 3)) (hf : cells ≤ R.cells ∧ slots ≤ R.slots)
    (kk : ∀ (H1 : Heap) (locs1 : List Loc), dp_w D a B h' s.heap H1 locs1 → W p l e R s m args below meth c H1 locs1 cells slots Q (F0 m (pc + 3) ls (v :: rest))) : W p l e R s m args below meth c H locs cells slots Q (F0 m pc ls st0) := by
  have hK := X.2.2.2.2.2.1
  refine dp_go X.2.2.2.2.2.2 hw (va_runSN (As := As) (Ts := []) ⟨X.1, X.2.1, X.2.2.1, X.2.2.2.1, fun w h => by cases h⟩ hM ⟨dp_cN X hv hl hR, hK.word hs rfl, trivial⟩ ⟨dp_blind, dp_pre X hw⟩ rfl hn hsize hst (lv_room hW) hdg (by rw [h0, h1]; exact hf)) (fun H1 locs1 hw1 => ?_)
  rw [h0, h1]
  exact kk H1 locs1 hw1
theorem dp_cI {y : MethodName} {bytes : ByteArray} {maxL : Nat} {n index k : Nat} {rm : Room} {As st0 : List Value} {h' : dp_H} (X : dp_X p s m meth c cc nL own D a B) (hw : dp_w D a B h s.heap H locs) (hM : dp_M l D a B y bytes maxL none rm (.ref (B + k) :: As) h none h') (hv : dp_Sm y bytes maxL none n) (hy : y.name = "<init>") (hs : Cond.instanceMethod y ∈ lw_tbl) (hl : Cond.methodLink own index y ∈ lw_tbl) (hR : rm.frames + 1 ≤ R.frames ∧ 8 + (maxL + 11) + rm.locals ≤ R.locals)
    (hn : As.length = n) (hsize : ls.size = nL) (hst : st0 = As.reverse ++ .ref (B + k) :: rest) (hW : (rest.map fun v => v.category).sum ≤ 8) (hdg : decode cc pc = .ok (.invokespecial index, 3)) (hf : cells + rm.cells ≤ R.cells ∧ slots + rm.slots ≤ R.slots)
    (kk : ∀ (H1 : Heap) (locs1 : List Loc), dp_w D a B h' s.heap H1 locs1 → W p l e R s m args below meth c H1 locs1 (cells + rm.cells) (slots + rm.slots) Q (F0 m (pc + 3) ls rest)) : W p l e R s m args below meth c H locs cells slots Q (F0 m pc ls st0) := by
  have hK := X.2.2.2.2.2.1
  exact dp_go X.2.2.2.2.2.2 hw (va_runI (b := B + k) (As := As) (Ts := []) ⟨X.1, X.2.1, X.2.2.1, X.2.2.2.1, fun w h => by cases h⟩ hM ⟨dp_cws X hv hl hR, hy, hK.word hs rfl⟩ ⟨dp_blind, dp_pre X hw⟩ rfl hn hsize hst (lv_room hW) hdg hf) (fun H1 locs1 hw1 => kk H1 locs1 hw1)
theorem dp_cIN {y : MethodName} {host : String} {bytes : ByteArray} {maxL : Nat} {n index k : Nat} {rm : Room} {As st0 : List Value} {h' : dp_H} (X : dp_X p s m meth c cc nL own D a B) (hw : dp_w D a B h s.heap H locs) (hM : dp_M l D a B y bytes maxL none rm (.ref (B + k) :: As) h none h') (hv : dp_Sm y bytes maxL none n) (hy : y.name = "<init>") (hs : Cond.instanceMethod y ∈ lw_tbl) (hl : Cond.methodLinkNest own index y host ∈ dp_N) (hR : rm.frames + 1 ≤ R.frames ∧ 8 + (maxL + 11) + rm.locals ≤ R.locals)
    (hn : As.length = n) (hsize : ls.size = nL) (hst : st0 = As.reverse ++ .ref (B + k) :: rest) (hW : (rest.map fun v => v.category).sum ≤ 8) (hdg : decode cc pc = .ok (.invokespecial index, 3)) (hf : cells + rm.cells ≤ R.cells ∧ slots + rm.slots ≤ R.slots)
    (kk : ∀ (H1 : Heap) (locs1 : List Loc), dp_w D a B h' s.heap H1 locs1 → W p l e R s m args below meth c H1 locs1 (cells + rm.cells) (slots + rm.slots) Q (F0 m (pc + 3) ls rest)) : W p l e R s m args below meth c H locs cells slots Q (F0 m pc ls st0) := by
  have hK := X.2.2.2.2.2.1
  exact dp_go X.2.2.2.2.2.2 hw (va_runIN (b := B + k) (As := As) (Ts := []) ⟨X.1, X.2.1, X.2.2.1, X.2.2.2.1, fun w h => by cases h⟩ hM ⟨dp_cN X hv hl hR, hy, hK.word hs rfl⟩ ⟨dp_blind, dp_pre X hw⟩ rfl hn hsize hst (lv_room hW) hdg hf) (fun H1 locs1 hw1 => kk H1 locs1 hw1)
end DPR
