/-! constructors: new arrays and objects ahead of the pooled, calls of a constructor over the object alone -/
theorem va_AOA.moved {ty : FieldType} {u U : State} (hvm : u.vm.Alike U.vm) (h : va_AOA ty u) : va_AOA ty U := Jvm.Stand.arrayOver_alikeB hvm h
theorem k_int {D : va_G} {cl : List vw_C} {tys : List (ClassId × FieldType)} {s : State} {c0 c1 : ClassId} (hK : va_K D cl tys s) (i j : Nat) (hi : tys[i]? = some (c0, .int)) (hj : tys[j]? = some (c1, .int)) : c0 = c1 := by
  have h0 : s.vm.findClass ("[" ++ FieldType.int.toString) = some c0 := (hK.2 i _ hi).2
  have h1 : s.vm.findClass ("[" ++ FieldType.int.toString) = some c1 := (hK.2 j _ hj).2
  exact Option.some.inj (h0.symm.trans h1)
theorem k_long {D : va_G} {cl : List vw_C} {tys : List (ClassId × FieldType)} {s : State} {c0 c1 : ClassId} (hK : va_K D cl tys s) (i j : Nat) (hi : tys[i]? = some (c0, .long)) (hj : tys[j]? = some (c1, .long)) : c0 = c1 := by
  have h0 : s.vm.findClass ("[" ++ FieldType.long.toString) = some c0 := (hK.2 i _ hi).2
  have h1 : s.vm.findClass ("[" ++ FieldType.long.toString) = some c1 := (hK.2 j _ hj).2
  exact Option.some.inj (h0.symm.trans h1)
section ZC
variable {p : Program} {l : Launch} {e : Env} {R : Room} {s : State} {m : MethodId} {args : Array Value} {below : List Frame} {meth : Method} {c : Code} {H : Heap} {locs : List Loc} {cells slots : Nat} {Q : State → Prop}
variable {cc : ByteArray} {pc : Nat} {ls : Array Slot} {rest st0 : List Value} {D : va_G} {cl : List vw_C} {A A0 : Nat → Prop} {H0 : Heap} {X pl : va_W} {a : Nat} {av : Array Value} {cI cJ : ClassId}
theorem zn_i {N : Nat} (hexec : p.tables.exec = Jvm.exec) (hb : c.code = cc) (harr : (Cond.arrayClass .int).before args s = true) (hK : va_K D cl [(cI, .int), (cJ, .long)] s) (hP : va_P D cl (X ++ pl) H) (hD : va_D A (X ++ pl)) (hS : va_S A H0 H locs) (hA : ∀ q, H0.size ≤ q → A q)
    (hN : N ≤ 100000) (hcells : cells + 1 ≤ R.cells) (hslots : slots + N ≤ R.slots) (hdg : decode cc pc = .ok (.newarray .int, 2))
    (kk : ∀ (q : Nat) (H1 : Heap), va_P D cl ((X ++ [(q, .inl (cI, N, .inl (fun _ => 0)))]) ++ pl) H1 → va_D A ((X ++ [(q, .inl (cI, N, .inl (fun _ => 0)))]) ++ pl) → va_S A H0 H1 locs →
      W p l e R s m args below meth c H1 locs (cells + 1) (slots + N) Q (F0 m (pc + 2) ls (.ref q :: rest))) : W p l e R s m args below meth c H locs cells slots Q (F0 m pc ls (.int (nI N) :: rest)) := by
  refine va_newa (atype := .int) hexec hb harr (ty := .int) rfl hK hP hD hS hA (N' := N) (a0 := (N, .inl (fun _ => 0))) (fun cA => rfl) (nI_pos (by omega)) (nI_clamp (by omega)) (by show N * 4 ≤ _; omega) hcells hslots hdg (fun q cA H1 hK hP hD hS => ?_)
  obtain rfl : cI = cA := k_int hK 0 2 rfl rfl
  exact kk q H1 hP.swap hD.swap hS
theorem zn_l {N : Nat} (hexec : p.tables.exec = Jvm.exec) (hb : c.code = cc) (harr : (Cond.arrayClass .long).before args s = true) (hK : va_K D cl [(cI, .int), (cJ, .long)] s) (hP : va_P D cl (X ++ pl) H) (hD : va_D A (X ++ pl)) (hS : va_S A H0 H locs) (hA : ∀ q, H0.size ≤ q → A q)
    (hN : N ≤ 100000) (hcells : cells + 1 ≤ R.cells) (hslots : slots + N ≤ R.slots) (hdg : decode cc pc = .ok (.newarray .long, 2))
    (kk : ∀ (q : Nat) (H1 : Heap), va_P D cl ((X ++ [(q, zL cJ N)]) ++ pl) H1 → va_D A ((X ++ [(q, zL cJ N)]) ++ pl) → va_S A H0 H1 locs →
      W p l e R s m args below meth c H1 locs (cells + 1) (slots + N) Q (F0 m (pc + 2) ls (.ref q :: rest))) : W p l e R s m args below meth c H locs cells slots Q (F0 m pc ls (.int (nI N) :: rest)) := by
  refine va_newa (atype := .long) hexec hb harr (ty := .long) rfl hK hP hD hS hA (N' := N) (a0 := (N, .inr (.inl (fun _ => 0)))) (fun cA => rfl) (nI_pos (by omega)) (nI_clamp (by omega)) (by show N * 8 ≤ _; omega) hcells hslots hdg (fun q cA H1 hK hP hD hS => ?_)
  obtain rfl : cJ = cA := k_long hK 1 2 rfl rfl
  exact kk q H1 hP.swap hD.swap hS
theorem zn_g {N : Nat} {L : List Nat} {own : String} {index : Nat} (hexec : p.tables.exec = Jvm.exec) (hb : c.code = cc) (hown : s.vm.findClass own = some m.cls) (hclink : (Cond.classLink own index "[[I").before args s = true) (hover : va_AOA .int s) (harr : (Cond.arrayClass .int).before args s = true) (hK : va_K D cl [(cI, .int), (cJ, .long)] s) (hP : va_P D cl (X ++ va_pl L (fun _ => zI cI)) H) (hD : va_D A (X ++ va_pl L (fun _ => zI cI))) (hS : va_S A H0 H locs) (hA : ∀ q, H0.size ≤ q → A q)
    (hN : N ≤ 1000) (hcells : cells + (1 + N) ≤ R.cells) (hslots : slots + (N + N * 32) ≤ R.slots) (hdg : decode cc pc = .ok (.multianewarray index 2, 4))
    (kk : ∀ (q : Nat) (r : Nat → Nat) (cA : ClassId) (H1 : Heap), va_K D cl [(cI, .int), (cJ, .long), (cA, .array .int)] s → va_P D cl ((X ++ [(q, .inl (cA, N, .inr (.inr (.inr (.inr (fun i => if i < N then some (r i) else none))))))]) ++ va_pl (L ++ (List.range N).map r) (fun _ => zI cI)) H1 → va_D A ((X ++ [(q, .inl (cA, N, .inr (.inr (.inr (.inr (fun i => if i < N then some (r i) else none))))))]) ++ va_pl (L ++ (List.range N).map r) (fun _ => zI cI)) → va_S A H0 H1 locs →
      W p l e R s m args below meth c H1 locs (cells + 1 + N) (slots + N + N * 32) Q (F0 m (pc + 4) ls (.ref q :: rest))) : W p l e R s m args below meth c H locs cells slots Q (F0 m pc ls (.int (nI 32) :: .int (nI N) :: rest)) := by
  have hcy : s.vm.findClass (FieldType.array .int).toString = some cI := (hK.2 0 _ rfl).2
  refine va_mna hexec hb hown (ty := .int) hclink hover harr hcy hK hP hD hS hA (N' := N) (K' := 32) (z := (32, .inl (fun _ => 0))) (nI_pos (by omega)) (by decide +kernel) (nI_clamp (by omega)) (by decide +kernel) (by omega) (by decide) (by decide) rfl rfl hcells hslots (fun c9 => (arrV_new c9 32 (.int 0)).trans rfl) hdg (fun q r cA H1 hinj hnl hK hP hD hS => ?_)
  have e : vr_up (fun _ => zI cI) ((List.range N).map r) (.inl (cI, 32, .inl (fun _ => 0))) = fun _ => zI cI := by
    funext x
    unfold vr_up
    split <;> rfl
  rw [e] at hP hD
  exact kk q r cA H1 hK hP hD hS
/-- a constructor's call over its object alone: what comes back stands behind the rest -/
theorem cj_v {S : Type} {post : S → Prop} {w1 : S → va_W} {cx wr : va_W} {mc ms : Nat} (hr : va_Run p l e R s m args below meth c H locs cells slots mc ms (F0 m pc ls st0) rest (va_Qv post (fun u t => va_P D cl (w1 u) t.heap ∧ va_D (va_A cx H.size) (w1 u)) (va_A cx H.size) av) (va_A cx H.size)) (hP : va_P D cl (X ++ pl) H) (hD : va_D A0 (X ++ pl)) (hS : va_S A0 H0 H locs) (hA : ∀ q, H0.size ≤ q → A0 q)
    (isC isR : List Nat) (hC : isC.map (fun i => X[i]?) = cx.map some) (hR : isR.map (fun i => X[i]?) = wr.map some) (hn : va_nd isR = true) (hdis : ∀ i ∈ isR, i ∉ isC)
    (kk : ∀ (u : S) (H1 : Heap) (locs1 : List Loc), post u → va_P D cl ((wr ++ w1 u) ++ pl) H1 → va_D A0 ((wr ++ w1 u) ++ pl) → va_S A0 H0 H1 locs1 → W p l e R s m args below meth c H1 locs1 (cells + mc) (slots + ms) Q (F0 m (pc + 3) ls rest)) : W p l e R s m args below meth c H locs cells slots Q (F0 m pc ls st0) := by
  have hF : ∀ q, va_A cx H.size q → A0 q := fun q h => by
    rcases h with ⟨k, e9, hk⟩ | h
    · have hk9 : (cx ++ pl)[k]? = some (q, e9) := by
        have hlt := (List.getElem?_eq_some_iff.mp hk).1
        rw [List.getElem?_append_left hlt]
        exact hk
      exact hD.2 _ (q, e9) (va_part isC hC k _ hk9)
    · exact hA q (Nat.le_trans hS.1 h)
  refine va_callv hr hS (fun q _ h => hF q h) hF (fun u t H1 locs1 ht _ hp hB _ hk hS => ?_)
  rw [ht] at hB
  obtain ⟨hP2, hD2⟩ := va_joinQ hP hD isC isR hC hR hn hdis hk hF hB.1 hB.2
  exact kk u H1 locs1 hp hP2 hD2 hS
end ZC
/-- the pre of a constructor -/
def nP (D : va_G) (cI cJ : ClassId) (ws : va_W) (sz : Nat) (U : State) : Prop := U.heap.size = sz ∧ va_P D vwCl ws U.heap ∧ va_K D vwCl [(cI, .int), (cJ, .long)] U ∧ va_D (fun _ => True) ws ∧ va_AOA .int U
theorem nP_blind {D : va_G} {cI cJ : ClassId} {ws : va_W} {sz : Nat} {av : List Value} : FrameBlind (va_Pc av (nP D cI cJ ws sz)) := fun a U g mk h =>
  ⟨h.1, h.2.1, h.2.2.1, va_K.moved (u := U) (U := U.calling g mk a) (Vm.Alike.refl U.vm) h.2.2.2.1, h.2.2.2.2.1, va_AOA.moved (u := U) (U := U.calling g mk a) (Vm.Alike.refl U.vm) h.2.2.2.2.2⟩
theorem nP_of {D : va_G} {cI cJ : ClassId} {X pl cx : va_W} {A : Nat → Prop} {s : State} {H : Heap} {av : List Value} (hP : va_P D vwCl (X ++ pl) H) (hK : va_K D vwCl [(cI, .int), (cJ, .long)] s) (hD : va_D A (X ++ pl)) (hO : va_AOA .int s) (k : Nat) (x : Nat × va_E) (hx : X[k]? = some x) (hcx : cx = [x]) :
    ∀ U : State, U.heap = H → s.WarmedH U.vm → va_Pc av (nP D cI cJ cx H.size) av.toArray U := fun U hU hW => by
  subst hcx
  have hx9 : (X ++ pl)[k]? = some x := by
    have hlt := (List.getElem?_eq_some_iff.mp hx).1
    rw [List.getElem?_append_left hlt]
    exact hx
  refine ⟨rfl, by rw [hU], by rw [hU]; exact hP.sub [k] (by simp [hx9]), va_K.moved hW.alike hK, (hD.sub [k] rfl (by simp [hx9])).weaken (fun _ _ _ _ => trivial), va_AOA.moved hW.alike hO⟩
abbrev adOf (l : List Nat) : Nat → Nat := fun k => l.getD k 0
