/-! the class's world on a fresh object: what its cells are, what calls carry along, and rows over arrays that hold zeros alone -/
abbrev nmA : String := "java/lang/ArrayIndexOutOfBoundsException"
abbrev nmI : String := "java/lang/IllegalArgumentException"
abbrev nmE : String := "java/lang/ArithmeticException"
abbrev chA : List String := ["java/lang/IndexOutOfBoundsException", "java/lang/RuntimeException", "java/lang/Exception"]
abbrev chR : List String := ["java/lang/RuntimeException", "java/lang/Exception"]
abbrev atA : List Cond := vx_atS RX4 183 nmA chA
abbrev atI : List Cond := vx_atS RX4 103 nmI chR
abbrev atE : List Cond := vx_atS RX4 116 nmE chR
/-- words of the tables that a call doesn't hand on by itself -/
def cNL : List Cond := [.declares (Bundle.initS "java/lang/IndexOutOfBoundsException"), .declares (Bundle.initS "java/lang/RuntimeException"), .declares (Bundle.initS "java/lang/Exception"), .declares (Bundle.initS Bundle.tN), .castable nmA nmA, .castable nmI nmI, .castable nmE nmE,
  .fieldLinkNest RX4 146 RX0 "count" "I" RX4, .methodLinkNest RX2 32 yX4_degree RX4, .methodLinkNest RX2 73 yX4_copy RX4]
theorem cNL_on : ∀ w ∈ cNL, w.onTables = true := by decide +kernel
theorem cNL_tbl : ∀ w ∈ cNL, w ∈ lw_tbl := by decide +kernel
theorem cNL_A : ∀ w ∈ atA.filter (fun w => !goodWord w), w ∈ cNL := by decide +kernel
theorem cNL_I : ∀ w ∈ atI.filter (fun w => !goodWord w), w ∈ cNL := by decide +kernel
theorem cNL_E : ∀ w ∈ atE.filter (fun w => !goodWord w), w ∈ cNL := by decide +kernel
theorem at_tblA : ∀ w ∈ atA.filter goodWord, w ∈ lw_tbl := by decide +kernel
theorem at_tblI : ∀ w ∈ atI.filter goodWord, w ∈ lw_tbl := by decide +kernel
theorem at_tblE : ∀ w ∈ atE.filter goodWord, w ∈ lw_tbl := by decide +kernel
theorem at_otA : ∀ w ∈ Cond.classLink RX4 179 nmA :: Cond.initialized nmA :: atA, vx_ot w = true := by decide +kernel
theorem at_otI : ∀ w ∈ Cond.classLink RX4 99 nmI :: Cond.initialized nmI :: atI, vx_ot w = true := by decide +kernel
theorem at_otE : ∀ w ∈ Cond.classLink RX4 112 nmE :: Cond.initialized nmE :: atE, vx_ot w = true := by decide +kernel
theorem nw_cast {a b : String} {s U : State} (hW : s.WarmedH U.vm) (hZ : va_Nw (.castable a b) s) : va_Nw (.castable a b) U := va_tabs rfl (rfl : (s.setVm U.vm).vm = U.vm) (by rw [Cond.castable_setVm hW.alike]; exact hZ)
def cNw (U : State) : Prop := ∀ w ∈ cNL, va_Nw w U
theorem cNw.warm {s U : State} (hW : s.WarmedH U.vm) (h : cNw s) : cNw U := by
  have f := fun (k : Nat) (w : Cond) (hk : cNL[k]? = some w) => h w (List.mem_of_getElem? hk)
  intro w hw
  simp only [cNL, List.mem_cons, List.not_mem_nil, or_false] at hw
  rcases hw with rfl | rfl | rfl | rfl | rfl | rfl | rfl | rfl | rfl | rfl
  · exact va_Nw.warmD hW (f 0 _ rfl)
  · exact va_Nw.warmD hW (f 1 _ rfl)
  · exact va_Nw.warmD hW (f 2 _ rfl)
  · exact va_Nw.warmD hW (f 3 _ rfl)
  · exact nw_cast hW (f 4 _ rfl)
  · exact nw_cast hW (f 5 _ rfl)
  · exact nw_cast hW (f 6 _ rfl)
  · exact va_Nw.warmF hW (f 7 _ rfl)
  · exact va_Nw.warmM hW (f 8 _ rfl)
  · exact va_Nw.warmM hW (f 9 _ rfl)
theorem cNw.same {u U : State} (h : u.vm = U.vm) (hZ : cNw u) : cNw U := fun w hw => va_Nw.same (cNL_on w hw) h (hZ w hw)
/-- what a throw needs beside words: the two statics of Throwable, the texts -/
def cX (sa : Nat → Nat) (A : Nat → Prop) (U : State) (H : Heap) : Prop := cNw U ∧ (vx_Zq Bundle.tN "UNASSIGNED_STACK" Bundle.steD A U H ∧ vx_Zq Bundle.tN "SUPPRESSED_SENTINEL" Bundle.listD A U H) ∧
  (vk_R RX4 181 "no such polynomial" (sa 0) U ∧ vk_R RX4 184 "no such coefficient" (sa 1) U ∧ vk_R RX4 186 "no such factor" (sa 2) U ∧ vk_R RX4 110 "what is neither 0 nor 1" (sa 3) U ∧ vk_R RX4 114 "the divisor is 0" (sa 4) U ∧ vk_R RX4 164 "0 has no inverse" (sa 5) U)
theorem cX.same {sa : Nat → Nat} {A : Nat → Prop} {u U : State} {H : Heap} (h : u.vm = U.vm) (hX : cX sa A u H) : cX sa A U H := by
  obtain ⟨h1, ⟨h2, h3⟩, h4, h5, h6, h7, h8, h9⟩ := hX
  have ha : u.vm.Alike U.vm := by rw [h]; exact Vm.Alike.refl _
  exact ⟨h1.same h, ⟨h2.moved ha, h3.moved ha⟩, h4.same h.symm, h5.same h.symm, h6.same h.symm, h7.same h.symm, h8.same h.symm, h9.same h.symm⟩
theorem cX.on {sa : Nat → Nat} {A B : Nat → Prop} {s U : State} {H : Heap} {locs : List Loc} (hX : cX sa A s s.heap) (hS : va_S A s.heap H locs) (hW : s.WarmedH U.vm) (hAB : ∀ q, B q → A q) : cX sa B U H := by
  obtain ⟨h1, ⟨h2, h3⟩, h4, h5, h6, h7, h8, h9⟩ := hX
  exact ⟨h1.warm hW, ⟨((h2.kept hS.2.1).moved hW.alike).narrow hAB, ((h3.kept hS.2.1).moved hW.alike).narrow hAB⟩, h4.warm hW, h5.warm hW, h6.warm hW, h7.warm hW, h8.warm hW, h9.warm hW⟩
abbrev zI (cI : ClassId) : va_E := .inl (cI, 32, .inl (fun _ => 0))
/-- the object, its rows, the arithmetic and its wide row, what was factored -/
abbrev cwX (ad : Nat → Nat) (g : Nat → Option Nat) (ck : Nat → ClassId) (pr : Nat) (nx : Int32) : va_W :=
  [(ad 0, .inr (5, [.int (nI pr), .ref (ad 1), .ref (ad 2), .ref (ad 10), .ref (ad 11), .ref (ad 4), .ref (ad 5), .ref (ad 6), .ref (ad 7), .int nx])),
   (ad 1, .inl (ck 2, 96, .inr (.inr (.inr (.inr g))))),
   (ad 2, .inr (3, [.long (lN pr), .ref (ad 3), .ref (ad 8), .ref (ad 9)])),
   (ad 3, .inl (ck 1, 64, .inr (.inl (fun _ => 0)))),
   (ad 4, .inr (1, [.ref (ad 12), .ref (ad 13), .ref (ad 14), .ref (ad 15), .int 0]))]
abbrev cW (ad : Nat → Nat) (g : Nat → Option Nat) (ck : Nat → ClassId) (L : List Nat) (pr : Nat) (nx : Int32) : va_W := cwX ad g ck pr nx ++ va_pl L (fun _ => zI (ck 0))
abbrev cT (ck : Nat → ClassId) : List (ClassId × FieldType) := [(ck 0, .int), (ck 1, .long), (ck 2, .array .int)]
/-- the rows, left, right, made and the two of the arithmetic are among the pooled -/
def cOk (ad : Nat → Nat) (g : Nat → Option Nat) (L : List Nat) (pr : Nat) : Prop := ((∀ i, i < 96 → ∃ y, g i = some y ∧ y ∈ L) ∧ ad 5 ∈ L ∧ ad 6 ∈ L ∧ ad 7 ∈ L ∧ ad 8 ∈ L ∧ ad 9 ∈ L) ∧ isPr pr ∧ pr < 2 ^ 31
/-- a state in which a method of the class is called -/
def cP (D : va_G) (ck : Nat → ClassId) (sa : Nat → Nat) (ws : va_W) (sz : Nat) (U : State) : Prop := U.heap.size = sz ∧ va_P D vwCl ws U.heap ∧ va_K D vwCl (cT ck) U ∧ va_D (fun _ => True) ws ∧ cX sa (va_A ws sz) U U.heap
theorem cP_blind {D : va_G} {ck : Nat → ClassId} {sa : Nat → Nat} {ws : va_W} {sz : Nat} {av : List Value} : FrameBlind (va_Pc av (cP D ck sa ws sz)) := fun a U g mk h =>
  ⟨h.1, h.2.1, h.2.2.1, va_K.moved (u := U) (U := U.calling g mk a) (Vm.Alike.refl U.vm) h.2.2.2.1, h.2.2.2.2.1, cX.same (u := U) (U := U.calling g mk a) rfl h.2.2.2.2.2⟩
theorem cF {A : Nat → Prop} {ws : va_W} {H0 H : Heap} {locs : List Loc} (hD : va_D A ws) (hS : va_S A H0 H locs) (hA : ∀ q, H0.size ≤ q → A q) : ∀ q, va_A ws H.size q → A q := fun q h =>
  h.elim (fun ⟨k, _, hk⟩ => hD.2 k _ hk) (fun h => hA q (Nat.le_trans hS.1 h))
theorem cP_of {D : va_G} {ck : Nat → ClassId} {sa : Nat → Nat} {ws : va_W} {A : Nat → Prop} {s : State} {H : Heap} {locs : List Loc} {av : List Value} (hP : va_P D vwCl ws H) (hK : va_K D vwCl (cT ck) s) (hD : va_D A ws) (hS : va_S A s.heap H locs) (hA : ∀ q, s.heap.size ≤ q → A q) (hX : cX sa A s s.heap) :
    ∀ U : State, U.heap = H → s.WarmedH U.vm → va_Pc av (cP D ck sa ws H.size) av.toArray U := fun U hU hW =>
  ⟨rfl, by rw [hU], by rw [hU]; exact hP, va_K.moved hW.alike hK, hD.weaken (fun _ _ _ _ => trivial), by rw [hU]; exact hX.on hS hW (cF hD hS hA)⟩
theorem zs_self {α : Type} {l : List α} {k : Nat} {x : α} (h : l[k]? = some x) : l.set k x = l := by
  apply List.ext_getElem?
  intro i
  rw [List.getElem?_set]
  by_cases hi : k = i
  · subst hi
    rw [if_pos rfl, h]
    have := (List.getElem?_eq_some_iff.mp h).1
    rw [if_pos this]
  · rw [if_neg hi]
section ZA
variable {p : Program} {l : Launch} {e : Env} {R : Room} {s : State} {m : MethodId} {args : Array Value} {below : List Frame} {meth : Method} {c : Code} {H : Heap} {locs : List Loc} {cells slots : Nat} {Q : State → Prop}
variable {cc : ByteArray} {pc : Nat} {ls : Array Slot} {rest st0 : List Value} {D : va_G} {cl : List vw_C} {A A0 : Nat → Prop} {tys : List (ClassId × FieldType)} {ws : va_W} {H0 : Heap} {X : va_W} {L : List Nat} {a : Nat} {av : Array Value}
theorem zi_ld {cI : ClassId} (hexec : p.tables.exec = Jvm.exec) (hb : c.code = cc) (hK : va_K D cl tys s) (hP : va_P D cl (X ++ va_pl L (fun _ => zI cI)) H) (t0 : Nat) (ht : tys[t0]? = some (cI, .int)) (ha : a ∈ L) {i : Int32} (hin : vp_in i 32) (hdg : decode cc pc = .ok (.iaload, 1))
    (kk : W p l e R s m args below meth c H locs cells slots Q (F0 m (pc + 1) ls (.int (nI 0) :: rest))) : W p l e R s m args below meth c H locs cells slots Q (F0 m pc ls (.int i :: .ref a :: rest)) := by
  obtain ⟨k, hk⟩ := va_pl_get (X := X) (f := fun _ => zI cI) ha
  exact va_iald hexec hb hK hP k t0 hk ht hin hdg kk
theorem zi_st {cI : ClassId} (hexec : p.tables.exec = Jvm.exec) (hb : c.code = cc) (hK : va_K D cl tys s) (hP : va_P D cl (X ++ va_pl L (fun _ => zI cI)) H) (hD : va_D A (X ++ va_pl L (fun _ => zI cI))) (hS : va_S A H0 H locs) (t0 : Nat) (ht : tys[t0]? = some (cI, .int)) (ha : a ∈ L) {i : Int32} (hin : vp_in i 32) (hdg : decode cc pc = .ok (.iastore, 1))
    (kk : ∀ (H1 : Heap) (locs1 : List Loc), va_P D cl (X ++ va_pl L (fun _ => zI cI)) H1 → va_S A H0 H1 locs1 → W p l e R s m args below meth c H1 locs1 cells slots Q (F0 m (pc + 1) ls rest)) : W p l e R s m args below meth c H locs cells slots Q (F0 m pc ls (.int (nI 0) :: .int i :: .ref a :: rest)) := by
  obtain ⟨k, hk⟩ := va_pl_get (X := X) (f := fun _ => zI cI) ha
  refine va_iast hexec hb hK hP hD hS k t0 hk ht hin hdg (fun H1 locs1 hP1 _ hS1 => kk H1 locs1 ?_ hS1)
  have e : upd (fun _ => (0 : Int32)) i.toNatClampNeg (nI 0) = fun _ => 0 := by
    funext j
    unfold upd
    split
    · rfl
    · rfl
  rw [e, zs_self hk] at hP1
  exact hP1
theorem zi_len {cI : ClassId} (hexec : p.tables.exec = Jvm.exec) (hb : c.code = cc) (hK : va_K D cl tys s) (hP : va_P D cl (X ++ va_pl L (fun _ => zI cI)) H) (t0 : Nat) (ht : tys[t0]? = some (cI, .int)) (ha : a ∈ L) (hdg : decode cc pc = .ok (.arraylength, 1))
    (kk : W p l e R s m args below meth c H locs cells slots Q (F0 m (pc + 1) ls (.int (nI 32) :: rest))) : W p l e R s m args below meth c H locs cells slots Q (F0 m pc ls (.ref a :: rest)) := by
  obtain ⟨k, hk⟩ := va_pl_get (X := X) (f := fun _ => zI cI) ha
  exact va_alen hexec hb hK hP k t0 hk ht rfl hdg kk
/-- a long[] of zeros: read, written with 0 -/
theorem zl_ld {cJ : ClassId} {n : Nat} (hexec : p.tables.exec = Jvm.exec) (hb : c.code = cc) (hK : va_K D cl tys s) (hP : va_P D cl ws H) (q0 t0 : Nat) (ha : ws[q0]? = some (a, .inl (cJ, n, .inr (.inl (fun _ => 0))))) (ht : tys[t0]? = some (cJ, .long)) {i : Int32} (hin : vp_in i n) (hdg : decode cc pc = .ok (.laload, 1))
    (kk : W p l e R s m args below meth c H locs cells slots Q (F0 m (pc + 1) ls (.long (lN 0) :: rest))) : W p l e R s m args below meth c H locs cells slots Q (F0 m pc ls (.int i :: .ref a :: rest)) :=
  va_lald hexec hb hK hP q0 t0 ha ht hin hdg kk
theorem zl_st {cJ : ClassId} {n : Nat} (hexec : p.tables.exec = Jvm.exec) (hb : c.code = cc) (hK : va_K D cl tys s) (hP : va_P D cl ws H) (hD : va_D A ws) (hS : va_S A H0 H locs) (q0 t0 : Nat) (ha : ws[q0]? = some (a, .inl (cJ, n, .inr (.inl (fun _ => 0))))) (ht : tys[t0]? = some (cJ, .long)) {i : Int32} (hin : vp_in i n) (hdg : decode cc pc = .ok (.lastore, 1))
    (kk : ∀ (H1 : Heap) (locs1 : List Loc), va_P D cl ws H1 → va_S A H0 H1 locs1 → W p l e R s m args below meth c H1 locs1 cells slots Q (F0 m (pc + 1) ls rest)) : W p l e R s m args below meth c H locs cells slots Q (F0 m pc ls (.long (lN 0) :: .int i :: .ref a :: rest)) := by
  refine va_last hexec hb hK hP hD hS q0 t0 ha ht hin hdg (fun H1 locs1 hP1 _ hS1 => kk H1 locs1 ?_ hS1)
  have e : vp_updL (fun _ => (0 : Int64)) i.toNatClampNeg (lN 0) = fun _ => 0 := by
    funext j
    unfold vp_updL
    split
    · rfl
    · rfl
  rw [e, zs_self ha] at hP1
  exact hP1
/-- a row of the grid -/
theorem zg_ld {cA : ClassId} {n : Nat} {g : Nat → Option Nat} {y : Nat} (hexec : p.tables.exec = Jvm.exec) (hb : c.code = cc) (hK : va_K D cl tys s) (hP : va_P D cl ws H) (q0 t0 : Nat) (ha : ws[q0]? = some (a, .inl (cA, n, .inr (.inr (.inr (.inr g)))))) (ht : tys[t0]? = some (cA, .array .int)) {i : Nat} (hi : i < n) (hn : n < 2 ^ 31) (hy : g i = some y) (hdg : decode cc pc = .ok (.aaload, 1))
    (kk : W p l e R s m args below meth c H locs cells slots Q (F0 m (pc + 1) ls (.ref y :: rest))) : W p l e R s m args below meth c H locs cells slots Q (F0 m pc ls (.int (nI i) :: .ref a :: rest)) := by
  have hc : (nI i).toNatClampNeg = i := nI_clamp (by omega)
  have hv : va_rf (g (nI i).toNatClampNeg) = .ref y := by rw [hc, hy]; rfl
  refine W.aald (v := .ref y) (ty := .array .int) hexec hb (hP q0 _ ha) ((hK.2 t0 _ ht).1 n (fun j => va_rf (g j))) rfl (fun q => by cases q) (by show ¬ (nI i < 0 ∨ (arrV _ _ _).slots.size ≤ _); rw [arrV_size]; exact nI_in hi hn) (by show (arrV _ _ _).slots[_]? = _; rw [arrV_read _ _ (by rw [hc]; exact hi), hv]) rfl rfl hdg kk
/-- zeros copied over zeros -/
theorem zi_copy {cI : ClassId} {a0 : Nat} (hexec : p.tables.exec = Jvm.exec) (hb : c.code = cc) (hml : c.maxLocals = ls.size) {own : String} {index : Nat} (hown : s.vm.findClass own = some m.cls) (hlink : (Cond.methodLink own index arraycopyName).before args s = true) (hnat : (Cond.native arraycopyName).before args s = true) (hstat : (Cond.static arraycopyName).before args s = true) (hini : (Cond.initialized "java/lang/System").before args s = true)
    (hK : va_K D cl tys s) (hP : va_P D cl (X ++ va_pl L (fun _ => zI cI)) H) (hD : va_D A (X ++ va_pl L (fun _ => zI cI))) (hS : va_S A H0 H locs) (t0 : Nat) (ht : tys[t0]? = some (cI, .int)) (ha0 : a0 ∈ L) (ha : a ∈ L)
    (hframes : 1 ≤ R.frames) (hlocals : (rest.map fun v => v.category).sum + (nativeFrameWords "java/lang/System" "arraycopy" 5 + 11) ≤ R.locals) (hdg : decode cc pc = .ok (.invokestatic index, 3))
    (kk : ∀ (H1 : Heap) (locs1 : List Loc), va_P D cl (X ++ va_pl L (fun _ => zI cI)) H1 → va_S A H0 H1 locs1 → W p l e R s m args below meth c H1 locs1 cells slots Q (F0 m (pc + 3) ls rest)) : W p l e R s m args below meth c H locs cells slots Q (F0 m pc ls (.int (nI 32) :: .int (nI 0) :: .ref a :: .int (nI 0) :: .ref a0 :: rest)) := by
  obtain ⟨k0, hk0⟩ := va_pl_get (X := X) (f := fun _ => zI cI) ha0
  obtain ⟨k, hk⟩ := va_pl_get (X := X) (f := fun _ => zI cI) ha
  refine va_copyi hexec hb hml hown hlink hnat hstat hini hK hP hD hS k0 k t0 t0 hk0 hk ht ht rfl (by decide) (by decide) (by decide) (by decide) (by decide) (fun i _ => rfl) hframes hlocals hdg (fun H1 locs1 hP1 _ hS1 => kk H1 locs1 ?_ hS1)
  have e : va_cpy (fun _ => (0 : Int32)) (fun _ => 0) (nI 0).toNatClampNeg (nI 0).toNatClampNeg (nI 32).toNatClampNeg = fun _ => 0 := by
    funext j
    unfold va_cpy
    split <;> rfl
  rw [e, zs_self hk] at hP1
  exact hP1
/-- a call of the class's own over the whole world, which stays -/
theorem cc_v {post : Prop} {mc ms : Nat} (hr : va_Run p l e R s m args below meth c H locs cells slots mc ms (F0 m pc ls st0) rest (va_Qv (fun (_ : Unit) => post) (fun _ t => va_P D cl ws t.heap) (va_A ws H.size) av) (va_A ws H.size)) (hS : va_S A0 H0 H locs) (hF : ∀ q, va_A ws H.size q → A0 q)
    (kk : ∀ (H1 : Heap) (locs1 : List Loc), post → va_P D cl ws H1 → va_S A0 H0 H1 locs1 → W p l e R s m args below meth c H1 locs1 (cells + mc) (slots + ms) Q (F0 m (pc + 3) ls rest)) : W p l e R s m args below meth c H locs cells slots Q (F0 m pc ls st0) :=
  va_callv hr hS (fun q _ h => hF q h) hF (fun _ t H1 locs1 ht _ hp hB _ _ hS => kk H1 locs1 hp (by rw [← ht]; exact hB) hS)
theorem cc_i {post : Int32 → Prop} {mc ms : Nat} (hr : va_Run p l e R s m args below meth c H locs cells slots mc ms (F0 m pc ls st0) rest (va_Qi (fun r (_ : Unit) => post r) (fun _ t => va_P D cl ws t.heap) (va_A ws H.size) av) (va_A ws H.size)) (hS : va_S A0 H0 H locs) (hF : ∀ q, va_A ws H.size q → A0 q)
    (kk : ∀ (r : Int32) (H1 : Heap) (locs1 : List Loc), post r → va_P D cl ws H1 → va_S A0 H0 H1 locs1 → W p l e R s m args below meth c H1 locs1 (cells + mc) (slots + ms) Q (F0 m (pc + 3) ls (.int r :: rest))) : W p l e R s m args below meth c H locs cells slots Q (F0 m pc ls st0) :=
  va_calli hr hS (fun q _ h => hF q h) hF (fun r _ t H1 locs1 ht _ hp hB _ _ hS => kk r H1 locs1 hp (by rw [← ht]; exact hB) hS)
/-- the same, where the callee may throw -/
theorem cx_v {post : Prop} {mc ms : Nat} {XE : String → Prop} (hr : vx_Run p l e R s m args below meth c H locs cells slots mc ms (F0 m pc ls st0) rest (va_Qv (fun (_ : Unit) => post) (fun _ t => va_P D cl ws t.heap) (va_A ws H.size) av) (vx_X (fun (_ : Unit) => True) (fun E _ _ => XE E) (va_A ws H.size)) (va_A ws H.size)) (hS : va_S A0 H0 H locs) (hF : ∀ q, va_A ws H.size q → A0 q)
    (kx : ∀ (E : String) (ce : Cell) (q9 : Addr) (H1 : Heap) (locs1 : List Loc), XE E → va_S A0 H0 H1 locs1 → H1[q9]? = some ce → ce.vm = .none → s.vm.findClass E = some ce.cls → vx_W p l e R s m args below meth c H1 locs1 (cells + mc) (slots + ms) Q (F0 m pc ls rest) q9)
    (kk : ∀ (H1 : Heap) (locs1 : List Loc), post → va_P D cl ws H1 → va_S A0 H0 H1 locs1 → W p l e R s m args below meth c H1 locs1 (cells + mc) (slots + ms) Q (F0 m (pc + 3) ls rest)) : W p l e R s m args below meth c H locs cells slots Q (F0 m pc ls st0) :=
  vx_callv hr hS (fun q _ h => hF q h) hF (fun q _ h => hF q h) (fun E ce q9 _ _ H1 locs1 _ _ _ hB _ _ hS h1 h2 h3 => kx E ce q9 H1 locs1 hB hS h1 h2 h3) (fun _ t H1 locs1 ht _ hp hB _ _ hS => kk H1 locs1 hp (by rw [← ht]; exact hB) hS)
/-- any number written into one of the pooled: that cell alone is kept in sight -/
theorem zi_put {cI : ClassId} (hexec : p.tables.exec = Jvm.exec) (hb : c.code = cc) (hK : va_K D cl tys s) (hP : va_P D cl (X ++ va_pl L (fun _ => zI cI)) H) (hD : va_D A (X ++ va_pl L (fun _ => zI cI))) (hS : va_S A H0 H locs) (t0 : Nat) (ht : tys[t0]? = some (cI, .int)) (ha : a ∈ L) {i x : Int32} (hin : vp_in i 32) (hdg : decode cc pc = .ok (.iastore, 1))
    (kk : ∀ (H1 : Heap) (locs1 : List Loc), va_P D cl [(a, .inl (cI, 32, .inl (upd (fun _ => 0) i.toNatClampNeg x)))] H1 → va_S A H0 H1 locs1 → W p l e R s m args below meth c H1 locs1 cells slots Q (F0 m (pc + 1) ls rest)) : W p l e R s m args below meth c H locs cells slots Q (F0 m pc ls (.int x :: .int i :: .ref a :: rest)) := by
  obtain ⟨k, hk⟩ := va_pl_get (X := X) (f := fun _ => zI cI) ha
  refine va_iast hexec hb hK hP hD hS k t0 hk ht hin hdg (fun H1 locs1 hP1 _ hS1 => kk H1 locs1 (fun k9 q9 h9 => ?_) hS1)
  have h0 : k9 < 1 := (List.getElem?_eq_some_iff.mp h9).1
  rw [show k9 = 0 by omega] at h9
  cases h9
  have hlt := (List.getElem?_eq_some_iff.mp hk).1
  exact hP1 k _ (List.getElem?_set_self hlt)
/-- a call at whose end nothing is asked of the world -/
theorem ct_i {post : Int32 → Prop} {mc ms : Nat} {A1 : Nat → Prop} (hr : va_Run p l e R s m args below meth c H locs cells slots mc ms (F0 m pc ls st0) rest (va_Qi (fun r (_ : Unit) => post r) (fun _ _ => True) A1 av) A1) (hS : va_S A0 H0 H locs) (hF : ∀ q, A1 q → A0 q)
    (kk : ∀ (r : Int32) (H1 : Heap) (locs1 : List Loc), post r → va_S A0 H0 H1 locs1 → W p l e R s m args below meth c H1 locs1 (cells + mc) (slots + ms) Q (F0 m (pc + 3) ls (.int r :: rest))) : W p l e R s m args below meth c H locs cells slots Q (F0 m pc ls st0) :=
  va_calli hr hS (fun q _ h => hF q h) hF (fun r _ _ H1 locs1 _ _ hp _ _ _ hS => kk r H1 locs1 hp hS)
end ZA
theorem eQv {D : va_G} {cl : List vw_C} {ws : va_W} {H : Heap} {st t : State} {A : Nat → Prop} {av : Array Value} {post : Prop} (hp : post) (hP : va_P D cl ws H) (ht : t.heap = H) (hF : va_F A st t) : va_Qv (fun (_ : Unit) => post) (fun _ t => va_P D cl ws t.heap) A av st (.returned none) t := ⟨⟨(), rfl, hp, by show va_P D cl ws t.heap; rw [ht]; exact hP⟩, hF⟩
theorem eQi {D : va_G} {cl : List vw_C} {ws : va_W} {H : Heap} {st t : State} {A : Nat → Prop} {av : Array Value} {post : Int32 → Prop} {v : Int32} (hp : post v) (hP : va_P D cl ws H) (ht : t.heap = H) (hF : va_F A st t) : va_Qi (fun r (_ : Unit) => post r) (fun _ t => va_P D cl ws t.heap) A av st (.returned (some (.int v))) t := ⟨⟨v, (), rfl, hp, by show va_P D cl ws t.heap; rw [ht]; exact hP⟩, hF⟩
theorem eTi {st t : State} {A : Nat → Prop} {av : Array Value} {post : Int32 → Prop} {v : Int32} (hp : post v) (hF : va_F A st t) : va_Qi (fun r (_ : Unit) => post r) (fun _ _ => True) A av st (.returned (some (.int v))) t := ⟨⟨v, (), rfl, hp, trivial⟩, hF⟩
/-- an int that is a place among n -/
def inR (x : Int32) (n : Nat) : Prop := ∃ i : Nat, i < n ∧ x = nI i
theorem inR_yes {x : Int32} {n : Nat} (hn : n < 2 ^ 31) (h0 : ¬ x < 0) (h1 : x < nI n) : inR x n := by
  obtain ⟨i, hi, rfl⟩ := nI_of h0
  exact ⟨i, (nI_ltI hi hn).mp h1, rfl⟩
theorem inR_neg {x : Int32} {n : Nat} (hn : n < 2 ^ 31) (h0 : x < 0) : ¬ inR x n := fun ⟨i, hi, e⟩ => by
  rw [e] at h0
  exact nI_pos (by omega) h0
theorem inR_big {x : Int32} {n : Nat} (hn : n < 2 ^ 31) (h1 : ¬ x < nI n) : ¬ inR x n := fun ⟨i, hi, e⟩ => h1 (by rw [e]; exact nI_lt hi hn)
/-- what an exception tells: its class's name -/
abbrev cXC (XE : String → Prop) (A : Nat → Prop) : String → State → State → Prop := vx_X (fun (_ : Unit) => True) (fun E _ _ => XE E) A
theorem cXC_new {XE : String → Prop} {A : Nat → Prop} {s t : State} {H : Heap} {locs : List Loc} {E : String} (hE : XE E) (hS : va_S A s.heap H locs) (hz : H.size ≤ t.heap.size) (hk : ∀ q : Nat, q < H.size → t.heap[q]? = H[q]?) : cXC XE A E s t :=
  ⟨(), trivial, hE, Nat.le_trans hS.1 hz, fun q h1 h2 => (hk q (Nat.lt_of_lt_of_le h1 hS.1)).trans (hS.2.1 q h1 h2)⟩
theorem cXC_on {XE : String → Prop} {A : Nat → Prop} {s t : State} {H : Heap} {locs : List Loc} {E : String} (hE : XE E) (hS : va_S A s.heap H locs) (ht : t.heap = H) : cXC XE A E s t := ⟨(), trivial, hE, hS.F ht⟩
