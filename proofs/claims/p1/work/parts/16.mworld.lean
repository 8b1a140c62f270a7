/-! the reference's world on a fresh object -/
abbrev mF (ad : Nat → Nat) (pr : Nat) (th gv : Int32) : List Value := [.int th, .long (lN pr), .ref (ad 2), .int gv, .ref (ad 4), .ref (ad 5), .ref (ad 6), .ref (ad 7), .int 0, .ref (ad 9), .ref (ad 10), .int 0, .ref (ad 12), .ref (ad 13), .ref (ad 14), .ref (ad 15), .ref (ad 16), .ref (ad 17), .ref (ad 18), .ref (ad 19), .ref (ad 20), .ref (ad 21), .ref (ad 22), .ref (ad 23), .ref (ad 24), .ref (ad 25), .ref (ad 26), .ref (ad 27), .ref (ad 28), .ref (ad 29), .ref (ad 30), .ref (ad 31), .ref (ad 32), .ref (ad 33), .int 0, .long 0]
abbrev zL (cJ : ClassId) (n : Nat) : va_E := .inl (cJ, n, .inr (.inl (fun _ => 0)))
abbrev mO (ad : Nat → Nat) (pr : Nat) (th gv : Int32) : va_W := [(ad 0, .inr (6, mF ad pr th gv))]
abbrev mW (ad : Nat → Nat) (ck : Nat → ClassId) (L : List Nat) (ln : Nat → Nat) (pr : Nat) (th gv : Int32) : va_W := mO ad pr th gv ++ va_pl L (fun a => zL (ck 1) (ln a))
abbrev mT (ck : Nat → ClassId) : List (ClassId × FieldType) := [(ck 1, .long)]
def mOk (ad : Nat → Nat) (L : List Nat) (ln : Nat → Nat) (pr : Nat) : Prop := ((ad 2 ∈ L ∧ ln (ad 2) = 3072) ∧ (ad 12 ∈ L ∧ ln (ad 12) = 64) ∧ ∀ k, 13 ≤ k → k ≤ 17 → ad k ∈ L ∧ ln (ad k) = 32) ∧ isPr pr ∧ pr < 2 ^ 31
def mP (D : va_G) (ck : Nat → ClassId) (ws : va_W) (sz : Nat) (U : State) : Prop := U.heap.size = sz ∧ va_P D vwCl ws U.heap ∧ va_K D vwCl (mT ck) U ∧ va_D (fun _ => True) ws
theorem mP_blind {D : va_G} {ck : Nat → ClassId} {ws : va_W} {sz : Nat} {av : List Value} : FrameBlind (va_Pc av (mP D ck ws sz)) := fun a U g mk h =>
  ⟨h.1, h.2.1, h.2.2.1, va_K.moved (u := U) (U := U.calling g mk a) (Vm.Alike.refl U.vm) h.2.2.2.1, h.2.2.2.2⟩
theorem mP_of {D : va_G} {ck : Nat → ClassId} {ws : va_W} {A : Nat → Prop} {s : State} {H : Heap} {av : List Value} (hP : va_P D vwCl ws H) (hK : va_K D vwCl (mT ck) s) (hD : va_D A ws) :
    ∀ U : State, U.heap = H → s.WarmedH U.vm → va_Pc av (mP D ck ws H.size) av.toArray U := fun U hU hW =>
  ⟨rfl, by rw [hU], by rw [hU]; exact hP, va_K.moved hW.alike hK, hD.weaken (fun _ _ _ _ => trivial)⟩
section ZM
variable {p : Program} {l : Launch} {e : Env} {R : Room} {s : State} {m : MethodId} {args : Array Value} {below : List Frame} {meth : Method} {c : Code} {H : Heap} {locs : List Loc} {cells slots : Nat} {Q : State → Prop}
variable {cc : ByteArray} {pc : Nat} {ls : Array Slot} {rest st0 : List Value} {D : va_G} {cl : List vw_C} {A A0 : Nat → Prop} {tys : List (ClassId × FieldType)} {ws : va_W} {H0 : Heap} {X : va_W} {L : List Nat} {a : Nat} {av : Array Value} {ln : Nat → Nat}
theorem zq_ld {cJ : ClassId} {n : Nat} (hexec : p.tables.exec = Jvm.exec) (hb : c.code = cc) (hK : va_K D cl tys s) (hP : va_P D cl (X ++ va_pl L (fun a => zL cJ (ln a))) H) (t0 : Nat) (ht : tys[t0]? = some (cJ, .long)) (ha : a ∈ L ∧ ln a = n) {i : Int32} (hin : vp_in i n) (hdg : decode cc pc = .ok (.laload, 1))
    (kk : W p l e R s m args below meth c H locs cells slots Q (F0 m (pc + 1) ls (.long (lN 0) :: rest))) : W p l e R s m args below meth c H locs cells slots Q (F0 m pc ls (.int i :: .ref a :: rest)) := by
  obtain ⟨ha, rfl⟩ := ha
  obtain ⟨k, hk⟩ := va_pl_get (X := X) (f := fun a => zL cJ (ln a)) ha
  exact va_lald hexec hb hK hP k t0 hk ht hin hdg kk
theorem zq_st {cJ : ClassId} {n : Nat} (hexec : p.tables.exec = Jvm.exec) (hb : c.code = cc) (hK : va_K D cl tys s) (hP : va_P D cl (X ++ va_pl L (fun a => zL cJ (ln a))) H) (hD : va_D A (X ++ va_pl L (fun a => zL cJ (ln a)))) (hS : va_S A H0 H locs) (t0 : Nat) (ht : tys[t0]? = some (cJ, .long)) (ha : a ∈ L ∧ ln a = n) {i : Int32} (hin : vp_in i n) (hdg : decode cc pc = .ok (.lastore, 1))
    (kk : ∀ (H1 : Heap) (locs1 : List Loc), va_P D cl (X ++ va_pl L (fun a => zL cJ (ln a))) H1 → va_S A H0 H1 locs1 → W p l e R s m args below meth c H1 locs1 cells slots Q (F0 m (pc + 1) ls rest)) : W p l e R s m args below meth c H locs cells slots Q (F0 m pc ls (.long (lN 0) :: .int i :: .ref a :: rest)) := by
  obtain ⟨ha, rfl⟩ := ha
  obtain ⟨k, hk⟩ := va_pl_get (X := X) (f := fun a => zL cJ (ln a)) ha
  exact zl_st hexec hb hK hP hD hS k t0 hk ht hin hdg kk
/-- any number written: that cell and X are kept in sight -/
theorem zq_put {cJ : ClassId} {n : Nat} (hexec : p.tables.exec = Jvm.exec) (hb : c.code = cc) (hK : va_K D cl tys s) (hP : va_P D cl (X ++ va_pl L (fun a => zL cJ (ln a))) H) (hD : va_D A (X ++ va_pl L (fun a => zL cJ (ln a)))) (hS : va_S A H0 H locs) (t0 : Nat) (ht : tys[t0]? = some (cJ, .long)) (ha : a ∈ L ∧ ln a = n) (hXn : ∀ (k : Nat) (q : Nat × va_E), X[k]? = some q → q.2 ≠ zL cJ n) {i : Int32} {x : Int64} (hin : vp_in i n) (hdg : decode cc pc = .ok (.lastore, 1))
    (kk : ∀ (H1 : Heap) (locs1 : List Loc), va_P D cl (X ++ [(a, .inl (cJ, n, .inr (.inl (vp_updL (fun _ => 0) i.toNatClampNeg x))))]) H1 → va_S A H0 H1 locs1 → W p l e R s m args below meth c H1 locs1 cells slots Q (F0 m (pc + 1) ls rest)) : W p l e R s m args below meth c H locs cells slots Q (F0 m pc ls (.long x :: .int i :: .ref a :: rest)) := by
  obtain ⟨ha, rfl⟩ := ha
  obtain ⟨k, hk⟩ := va_pl_get (X := X) (f := fun a => zL cJ (ln a)) ha
  refine va_last hexec hb hK hP hD hS k t0 hk ht hin hdg (fun H1 locs1 hP1 _ hS1 => kk H1 locs1 (va_P.app (fun k9 q9 h9 => ?_) (fun k9 q9 h9 => ?_)) hS1)
  · have hlt := (List.getElem?_eq_some_iff.mp h9).1
    have h8 : (X ++ va_pl L (fun a => zL cJ (ln a)))[k9]? = some q9 := by rw [List.getElem?_append_left hlt]; exact h9
    have hne : k ≠ k9 := fun h => by
      subst h
      rw [hk] at h8
      cases h8
      exact hXn k _ h9 rfl
    exact hP1 k9 q9 (by rw [List.getElem?_set_ne hne]; exact h8)
  · have h0 : k9 < 1 := (List.getElem?_eq_some_iff.mp h9).1
    rw [show k9 = 0 by omega] at h9
    cases h9
    have hlt := (List.getElem?_eq_some_iff.mp hk).1
    exact hP1 k _ (List.getElem?_set_self hlt)
theorem cc_l {post : Int64 → Prop} {mc ms : Nat} (hr : va_Run p l e R s m args below meth c H locs cells slots mc ms (F0 m pc ls st0) rest (va_Ql (fun r (_ : Unit) => post r) (fun _ t => va_P D cl ws t.heap) (va_A ws H.size) av) (va_A ws H.size)) (hS : va_S A0 H0 H locs) (hF : ∀ q, va_A ws H.size q → A0 q)
    (kk : ∀ (r : Int64) (H1 : Heap) (locs1 : List Loc), post r → va_P D cl ws H1 → va_S A0 H0 H1 locs1 → W p l e R s m args below meth c H1 locs1 (cells + mc) (slots + ms) Q (F0 m (pc + 3) ls (.long r :: rest))) : W p l e R s m args below meth c H locs cells slots Q (F0 m pc ls st0) :=
  va_calll hr hS (fun q _ h => hF q h) hF (fun r _ t H1 locs1 ht _ hp hB _ _ hS => kk r H1 locs1 hp (by rw [← ht]; exact hB) hS)
/-- a call behind which the object alone is in sight, with what was thrown -/
theorem cm_i {post : Int32 → Int32 × Int32 → Prop} {ad : Nat → Nat} {pr : Nat} {mc ms : Nat} {A1 : Nat → Prop} (hr : va_Run p l e R s m args below meth c H locs cells slots mc ms (F0 m pc ls st0) rest (va_Qi post (fun u t => va_P D cl (mO ad pr u.1 u.2) t.heap) A1 av) A1) (hS : va_S A0 H0 H locs) (hF : ∀ q, A1 q → A0 q)
    (kk : ∀ (r th gv : Int32) (H1 : Heap) (locs1 : List Loc), post r (th, gv) → va_P D cl (mO ad pr th gv) H1 → va_S A0 H0 H1 locs1 → W p l e R s m args below meth c H1 locs1 (cells + mc) (slots + ms) Q (F0 m (pc + 3) ls (.int r :: rest))) : W p l e R s m args below meth c H locs cells slots Q (F0 m pc ls st0) :=
  va_calli hr hS (fun q _ h => hF q h) hF (fun r u t H1 locs1 ht _ hp hB _ _ hS => kk r u.1 u.2 H1 locs1 hp (by rw [← ht]; exact hB) hS)
end ZM
theorem eQl {D : va_G} {cl : List vw_C} {ws : va_W} {H : Heap} {st t : State} {A : Nat → Prop} {av : Array Value} {post : Int64 → Prop} {v : Int64} (hp : post v) (hP : va_P D cl ws H) (ht : t.heap = H) (hF : va_F A st t) : va_Ql (fun r (_ : Unit) => post r) (fun _ t => va_P D cl ws t.heap) A av st (.returned (some (.long v))) t := ⟨⟨v, (), rfl, hp, by show va_P D cl ws t.heap; rw [ht]; exact hP⟩, hF⟩
theorem eMi {D : va_G} {cl : List vw_C} {ad : Nat → Nat} {pr : Nat} {H : Heap} {st t : State} {A : Nat → Prop} {av : Array Value} {post : Int32 → Int32 × Int32 → Prop} {v : Int32} (th gv : Int32) (hp : post v (th, gv)) (hP : va_P D cl (mO ad pr th gv) H) (ht : t.heap = H) (hF : va_F A st t) : va_Qi post (fun u t => va_P D cl (mO ad pr u.1 u.2) t.heap) A av st (.returned (some (.int v))) t := ⟨⟨v, (th, gv), rfl, hp, by show va_P D cl (mO ad pr th gv) t.heap; rw [ht]; exact hP⟩, hF⟩
/-- the rest of any long, not below 0 -/
theorem lr_md1 {z : Int} {m : Nat} (h0 : 0 < m) (h : 0 ≤ z.tmod m) : z % m = z.tmod m := by
  rw [Int.emod_eq_tmod]
  by_cases hc : 0 ≤ z ∨ (m : Int) ∣ z
  · rw [if_pos hc]; omega
  · exfalso
    have h1 := Int.emod_nonneg z (show (m : Int) ≠ 0 by omega)
    have h2 := Int.emod_lt_of_pos z (show (0 : Int) < m by omega)
    rw [Int.tmod_eq_emod, if_neg hc] at h
    have h3 : ((m : Int).natAbs : Int) = m := by simp
    omega
theorem lr_md2 {z : Int} {m : Nat} (h : ¬ 0 ≤ z.tmod m) : z % m = z.tmod m + m := by
  rw [Int.emod_eq_tmod, if_neg]
  · simp
  · rintro (h1 | h1)
    · exact h (Int.tmod_nonneg _ h1)
    · exact h (by rw [Int.tmod_eq_zero_of_dvd h1]; exact Int.le_refl 0)
