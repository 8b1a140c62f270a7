def pm (j : Nat) : Int32 := nI j - 1
theorem pm_0 : pm 0 = (-1) := by decide +kernel
theorem pm_s (i : Nat) : pm (i + 1) = nI i := nI_pred i
theorem pm_dec (i : Nat) : nI i + Int32.ofInt (-1) = pm i := by
  unfold pm
  rw [Int32.sub_eq_add_neg]
  rfl

abbrev vX4_degree : List Cond := .code yX4_degree cX4_degree 2 (some .int) :: cWS
set_option maxHeartbeats 4000000 in
set_option maxRecDepth 100000 in
/-- degree of zeros -/
theorem c_X4_degree (l : Launch) (dC : Nat → ClassId) (dI : Nat → Nat → Nat) (ad : Nat → Nat) (g : Nat → Option Nat) (ck : Nat → ClassId) (sa : Nat → Nat) (L : List Nat) (pr : Nat) (hok : cOk ad g L pr) (sz : Nat) (a : Nat) (ha : a ∈ L) : Met l yX4_degree vX4_degree ({ frames := 0, cells := 0, slots := 0, locals := 0 }) (va_Pc [.ref a] (cP (dC, dI) ck sa (cW ad g ck L pr (nI 0)) sz)) (va_Qi (fun r (_ : Unit) => (fun r => r = (-1)) r) (fun _ t => va_P (dC, dI) vwCl (cW ad g ck L pr (nI 0)) t.heap) (va_A (cW ad g ck L pr (nI 0)) sz)) 0 0 (va_A (cW ad g ck L pr (nI 0)) sz) := by
  refine Met.ofW (cc := cX4_degree) (maxL := 2) (ret := (some .int)) (by decide +kernel) rfl ?_
  intro p e s m args below meth c s₁ B hml hv
  obtain ⟨rfl, hsz, hP, hK, hD0, hX⟩ := hv
  have hx := B.exec
  have hb := B.bytes
  have hr := B.returns
  have hts := atoms_spec (ws := vX4_degree) B.pre
  have hown : s.vm.findClass RX4 = some m.cls := findClass_of_methodNamed B.named
  have hlocks := B.notSynchronized
  subst hsz
  have hD := hD0.self (sz := s.heap.size)
  generalize hAe : va_A (cW ad g ck L pr (nI 0)) s.heap.size = A at hD hX ⊢
  have hA : ∀ q : Nat, s.heap.size ≤ q → A q := fun q h => by rw [← hAe]; exact Or.inr h
  have hS : va_S A s.heap s.heap [] := va_S.rf
  have hl := lv_entry ([.ref a]) (n := 2) (Nat.le_of_ble_eq_true rfl)
  rw [lg_entry_eq]
  generalize (lg_sl ([.ref a]) ++ List.replicate (2 - (lg_sl ([.ref a])).length) Slot.unset).toArray = ls at hl ⊢
  have hl : lv_has ls 2 [(0, .ref a)] := hl
  obtain ⟨H, hHe⟩ : ∃ H : Heap, H = s.heap := ⟨_, rfl⟩
  have hP : va_P (dC, dI) vwCl (cW ad g ck L pr (nI 0)) H := by rw [hHe]; exact hP
  have hS : va_S A s.heap H [] := by rw [hHe]; exact hS
  suffices hgo : W p l e (headSpec vX4_degree ({ frames := 0, cells := 0, slots := 0, locals := 0 })).room s m ([.ref a] : List Value).toArray below meth c H [] 0 0 (MQ below (va_Qi (fun r (_ : Unit) => (fun r => r = (-1)) r) (fun _ t => va_P (dC, dI) vwCl (cW ad g ck L pr (nI 0)) t.heap) A) ([.ref a] : List Value).toArray s 0 0 A) (F0 m 0 ls []) by rw [hHe] at hgo; exact hgo
  refine lv_bipush (v := nI 31) hx hb dX4_degree_0 (by decide +kernel) ?_
  refine lv_istore_n (lv' := [(1, .int (nI 31)), (0, .ref a)]) hx hb dX4_degree_2 rfl hl (by decide) rfl (fun ls hl => ?_)
  rw [show nI 31 = pm 32 from (pm_s 31).symm] at hl
  have LOOP3 : ∀ (f : Nat) (j : Nat), j < f → j ≤ 32 → ∀ (H : Heap) (locs : List Loc), va_P (dC, dI) vwCl (cW ad g ck L pr (nI 0)) H → va_S A s.heap H locs → ∀ (ls : Array Slot), lv_has ls 2 [(1, .int (pm j)), (0, .ref a)] → W p l e (headSpec vX4_degree ({ frames := 0, cells := 0, slots := 0, locals := 0 })).room s m ([.ref a] : List Value).toArray below meth c H locs 0 0 (MQ below (va_Qi (fun r (_ : Unit) => (fun r => r = (-1)) r) (fun _ t => va_P (dC, dI) vwCl (cW ad g ck L pr (nI 0)) t.heap) A) ([.ref a] : List Value).toArray s 0 0 A) (F0 m 3 ls []) := by
    intro f
    induction f with
    | zero => intro j hf; exact absurd hf (Nat.not_lt_zero _)
    | succ f ih =>
      intro j hf hj H locs hP hS ls hl
      cases j with
      | zero =>
        rw [pm_0] at hl
        refine lv_iload_n hx hb dX4_degree_3 rfl (lv_at hl 0 rfl) ?_
        refine lv_if_lt (tgt := 21) hx hb dX4_degree_4 (by decide) (fun _ => ?_) (fun hcc => absurd (by decide) hcc)
        refine lv_iconst (v := (-1)) hx hb dX4_degree_21 (by decide +kernel) ?_
        refine W.iret hx hb hr (fun t ht hW => eQi ?_ hP ht (hS.F ht)) hS.2.2 dX4_degree_22
        exact rfl
      | succ i =>
        rw [pm_s i] at hl
        refine lv_iload_n hx hb dX4_degree_3 rfl (lv_at hl 0 rfl) ?_
        refine lv_if_lt (tgt := 21) hx hb dX4_degree_4 (by decide) (fun hcc => absurd hcc (nI_pos (by omega))) (fun _ => ?_)
        refine lv_aload_n hx hb dX4_degree_7 rfl (lv_at hl 1 rfl) ?_
        refine lv_iload_n hx hb dX4_degree_8 rfl (lv_at hl 0 rfl) ?_
        refine zi_ld hx hb hK hP 0 rfl ha (vp_in_nI (by omega) (by decide)) dX4_degree_9 ?_
        refine lv_if_eq (tgt := 15) hx hb dX4_degree_10 (by decide) (fun _ => ?_) (fun hcc => absurd (nI_0) hcc)
        refine lv_iinc (v := pm i) (lv' := [(1, .int (pm i)), (0, .ref a)]) hx hb dX4_degree_15 hl (k := 0) rfl (pm_dec i) (by decide) rfl (fun ls hl => ?_)
        refine lv_goto (tgt := 3) hx hb dX4_degree_18 (by decide) ?_
        exact ih i (by omega) (by omega) H locs hP hS ls hl
  exact LOOP3 33 32 (by decide) (by decide) H [] hP hS ls hl

abbrev vJ7_fill_53178 : List Cond := .code yJ7_fill_53178 cJ7_fill_53178 4 none :: cWS
set_option maxHeartbeats 4000000 in
set_option maxRecDepth 100000 in
/-- Arrays.fill(zeros, 0) -/
theorem c_J7_fill_53178 (l : Launch) (dC : Nat → ClassId) (dI : Nat → Nat → Nat) (ad : Nat → Nat) (g : Nat → Option Nat) (ck : Nat → ClassId) (sa : Nat → Nat) (L : List Nat) (pr : Nat) (hok : cOk ad g L pr) (sz : Nat) (a : Nat) (ha : a ∈ L) : Met l yJ7_fill_53178 vJ7_fill_53178 ({ frames := 0, cells := 0, slots := 0, locals := 0 }) (va_Pc [.ref a, .int (nI 0)] (cP (dC, dI) ck sa (cW ad g ck L pr (nI 0)) sz)) (va_Qv (fun (_ : Unit) => True) (fun _ t => va_P (dC, dI) vwCl (cW ad g ck L pr (nI 0)) t.heap) (va_A (cW ad g ck L pr (nI 0)) sz)) 0 0 (va_A (cW ad g ck L pr (nI 0)) sz) := by
  refine Met.ofW (cc := cJ7_fill_53178) (maxL := 4) (ret := none) (by decide +kernel) rfl ?_
  intro p e s m args below meth c s₁ B hml hv
  obtain ⟨rfl, hsz, hP, hK, hD0, hX⟩ := hv
  have hx := B.exec
  have hb := B.bytes
  have hr := B.returns
  have hts := atoms_spec (ws := vJ7_fill_53178) B.pre
  have hown : s.vm.findClass RJ7 = some m.cls := findClass_of_methodNamed B.named
  have hlocks := B.notSynchronized
  subst hsz
  have hD := hD0.self (sz := s.heap.size)
  generalize hAe : va_A (cW ad g ck L pr (nI 0)) s.heap.size = A at hD hX ⊢
  have hA : ∀ q : Nat, s.heap.size ≤ q → A q := fun q h => by rw [← hAe]; exact Or.inr h
  have hS : va_S A s.heap s.heap [] := va_S.rf
  have hl := lv_entry ([.ref a, .int (nI 0)]) (n := 4) (Nat.le_of_ble_eq_true rfl)
  rw [lg_entry_eq]
  generalize (lg_sl ([.ref a, .int (nI 0)]) ++ List.replicate (4 - (lg_sl ([.ref a, .int (nI 0)])).length) Slot.unset).toArray = ls at hl ⊢
  have hl : lv_has ls 4 [(0, .ref a), (1, .int (nI 0))] := hl
  obtain ⟨H, hHe⟩ : ∃ H : Heap, H = s.heap := ⟨_, rfl⟩
  have hP : va_P (dC, dI) vwCl (cW ad g ck L pr (nI 0)) H := by rw [hHe]; exact hP
  have hS : va_S A s.heap H [] := by rw [hHe]; exact hS
  suffices hgo : W p l e (headSpec vJ7_fill_53178 ({ frames := 0, cells := 0, slots := 0, locals := 0 })).room s m ([.ref a, .int (nI 0)] : List Value).toArray below meth c H [] 0 0 (MQ below (va_Qv (fun (_ : Unit) => True) (fun _ t => va_P (dC, dI) vwCl (cW ad g ck L pr (nI 0)) t.heap) A) ([.ref a, .int (nI 0)] : List Value).toArray s 0 0 A) (F0 m 0 ls []) by rw [hHe] at hgo; exact hgo
  refine lv_iconst (v := nI 0) hx hb dJ7_fill_53178_0 (by decide +kernel) ?_
  refine lv_istore_n (lv' := [(2, .int (nI 0)), (0, .ref a), (1, .int (nI 0))]) hx hb dJ7_fill_53178_1 rfl hl (by decide) rfl (fun ls hl => ?_)
  refine lv_aload_n hx hb dJ7_fill_53178_2 rfl (lv_at hl 1 rfl) ?_
  refine zi_len hx hb hK hP 0 rfl ha dJ7_fill_53178_3 ?_
  refine lv_istore_n (lv' := [(3, .int (nI 32)), (2, .int (nI 0)), (0, .ref a), (1, .int (nI 0))]) hx hb dJ7_fill_53178_4 rfl hl (by decide) rfl (fun ls hl => ?_)
  have LOOP5 : ∀ (f : Nat) (k : Nat), 32 - k < f → k ≤ 32 → ∀ (H : Heap) (locs : List Loc), va_P (dC, dI) vwCl (cW ad g ck L pr (nI 0)) H → va_S A s.heap H locs → ∀ (ls : Array Slot), lv_has ls 4 [(3, .int (nI 32)), (2, .int (nI k)), (0, .ref a), (1, .int (nI 0))] → W p l e (headSpec vJ7_fill_53178 ({ frames := 0, cells := 0, slots := 0, locals := 0 })).room s m ([.ref a, .int (nI 0)] : List Value).toArray below meth c H locs 0 0 (MQ below (va_Qv (fun (_ : Unit) => True) (fun _ t => va_P (dC, dI) vwCl (cW ad g ck L pr (nI 0)) t.heap) A) ([.ref a, .int (nI 0)] : List Value).toArray s 0 0 A) (F0 m 5 ls []) := by
    intro f
    induction f with
    | zero => intro k hf; exact absurd hf (Nat.not_lt_zero _)
    | succ f ih =>
      intro k hf hk32 H locs hP hS ls hl
      refine lv_iload_n hx hb dJ7_fill_53178_5 rfl (lv_at hl 1 rfl) ?_
      refine lv_iload_n hx hb dJ7_fill_53178_6 rfl (lv_at hl 0 rfl) ?_
      refine lv_icmp_ge (tgt := 20) hx hb dJ7_fill_53178_7 (by decide) (fun hc7 => ?_) (fun hc7 => ?_)
      · refine W.vret hx hb hr (fun t ht hW => eQv ?_ hP ht (hS.F ht)) hS.2.2 dJ7_fill_53178_20
        exact trivial
      · have hk : k < 32 := Nat.lt_of_not_le fun h => hc7 (nI_le h (by omega))
        refine lv_aload_n hx hb dJ7_fill_53178_10 rfl (lv_at hl 2 rfl) ?_
        refine lv_iload_n hx hb dJ7_fill_53178_11 rfl (lv_at hl 1 rfl) ?_
        refine lv_iload_n hx hb dJ7_fill_53178_12 rfl (lv_at hl 3 rfl) ?_
        refine zi_st hx hb hK hP hD hS 0 rfl ha (vp_in_nI (by omega) (by decide)) dJ7_fill_53178_13 (fun H locs hP hS => ?_)
        refine lv_iinc (v := nI (k + 1)) (lv' := [(2, .int (nI (k + 1))), (3, .int (nI 32)), (0, .ref a), (1, .int (nI 0))]) hx hb dJ7_fill_53178_14 hl (k := 1) rfl (nI_1 k) (by decide) rfl (fun ls hl => ?_)
        refine lv_goto (tgt := 5) hx hb dJ7_fill_53178_17 (by decide) ?_
        exact ih (k + 1) (by omega) (by omega) H locs hP hS ls (lv_sub hl [1, 0, 2, 3] rfl)
  exact LOOP5 33 0 (by decide) (by decide) H [] hP hS ls (lv_sub hl [0, 1, 2, 3] rfl)

abbrev vJ7_fill_d0a16 : List Cond := .code yJ7_fill_d0a16 cJ7_fill_d0a16 5 none :: cWS
set_option maxHeartbeats 4000000 in
set_option maxRecDepth 100000 in
/-- Arrays.fill(wide, 0) -/
theorem c_J7_fill_d0a16 (l : Launch) (dC : Nat → ClassId) (dI : Nat → Nat → Nat) (ad : Nat → Nat) (g : Nat → Option Nat) (ck : Nat → ClassId) (sa : Nat → Nat) (L : List Nat) (pr : Nat) (hok : cOk ad g L pr) (sz : Nat) : Met l yJ7_fill_d0a16 vJ7_fill_d0a16 ({ frames := 0, cells := 0, slots := 0, locals := 0 }) (va_Pc [.ref (ad 3), .long (lN 0)] (cP (dC, dI) ck sa (cW ad g ck L pr (nI 0)) sz)) (va_Qv (fun (_ : Unit) => True) (fun _ t => va_P (dC, dI) vwCl (cW ad g ck L pr (nI 0)) t.heap) (va_A (cW ad g ck L pr (nI 0)) sz)) 0 0 (va_A (cW ad g ck L pr (nI 0)) sz) := by
  refine Met.ofW (cc := cJ7_fill_d0a16) (maxL := 5) (ret := none) (by decide +kernel) rfl ?_
  intro p e s m args below meth c s₁ B hml hv
  obtain ⟨rfl, hsz, hP, hK, hD0, hX⟩ := hv
  have hx := B.exec
  have hb := B.bytes
  have hr := B.returns
  have hts := atoms_spec (ws := vJ7_fill_d0a16) B.pre
  have hown : s.vm.findClass RJ7 = some m.cls := findClass_of_methodNamed B.named
  have hlocks := B.notSynchronized
  subst hsz
  have hD := hD0.self (sz := s.heap.size)
  generalize hAe : va_A (cW ad g ck L pr (nI 0)) s.heap.size = A at hD hX ⊢
  have hA : ∀ q : Nat, s.heap.size ≤ q → A q := fun q h => by rw [← hAe]; exact Or.inr h
  have hS : va_S A s.heap s.heap [] := va_S.rf
  have hl := lv_entry ([.ref (ad 3), .long (lN 0)]) (n := 5) (Nat.le_of_ble_eq_true rfl)
  rw [lg_entry_eq]
  generalize (lg_sl ([.ref (ad 3), .long (lN 0)]) ++ List.replicate (5 - (lg_sl ([.ref (ad 3), .long (lN 0)])).length) Slot.unset).toArray = ls at hl ⊢
  have hl : lv_has ls 5 [(0, .ref (ad 3)), (1, .long (lN 0))] := hl
  obtain ⟨H, hHe⟩ : ∃ H : Heap, H = s.heap := ⟨_, rfl⟩
  have hP : va_P (dC, dI) vwCl (cW ad g ck L pr (nI 0)) H := by rw [hHe]; exact hP
  have hS : va_S A s.heap H [] := by rw [hHe]; exact hS
  suffices hgo : W p l e (headSpec vJ7_fill_d0a16 ({ frames := 0, cells := 0, slots := 0, locals := 0 })).room s m ([.ref (ad 3), .long (lN 0)] : List Value).toArray below meth c H [] 0 0 (MQ below (va_Qv (fun (_ : Unit) => True) (fun _ t => va_P (dC, dI) vwCl (cW ad g ck L pr (nI 0)) t.heap) A) ([.ref (ad 3), .long (lN 0)] : List Value).toArray s 0 0 A) (F0 m 0 ls []) by rw [hHe] at hgo; exact hgo
  refine lv_iconst (v := nI 0) hx hb dJ7_fill_d0a16_0 (by decide +kernel) ?_
  refine lv_istore_n (lv' := [(3, .int (nI 0)), (0, .ref (ad 3)), (1, .long (lN 0))]) hx hb dJ7_fill_d0a16_1 rfl hl (by decide) rfl (fun ls hl => ?_)
  refine lv_aload_n hx hb dJ7_fill_d0a16_2 rfl (lv_at hl 1 rfl) ?_
  refine va_alen hx hb hK hP 3 1 rfl rfl (v := nI 64) rfl dJ7_fill_d0a16_3 ?_
  refine lv_istore (lv' := [(4, .int (nI 64)), (3, .int (nI 0)), (0, .ref (ad 3)), (1, .long (lN 0))]) hx hb dJ7_fill_d0a16_4 hl (by decide) rfl (fun ls hl => ?_)
  have LOOP6 : ∀ (f : Nat) (k : Nat), 64 - k < f → k ≤ 64 → ∀ (H : Heap) (locs : List Loc), va_P (dC, dI) vwCl (cW ad g ck L pr (nI 0)) H → va_S A s.heap H locs → ∀ (ls : Array Slot), lv_has ls 5 [(4, .int (nI 64)), (3, .int (nI k)), (0, .ref (ad 3)), (1, .long (lN 0))] → W p l e (headSpec vJ7_fill_d0a16 ({ frames := 0, cells := 0, slots := 0, locals := 0 })).room s m ([.ref (ad 3), .long (lN 0)] : List Value).toArray below meth c H locs 0 0 (MQ below (va_Qv (fun (_ : Unit) => True) (fun _ t => va_P (dC, dI) vwCl (cW ad g ck L pr (nI 0)) t.heap) A) ([.ref (ad 3), .long (lN 0)] : List Value).toArray s 0 0 A) (F0 m 6 ls []) := by
    intro f
    induction f with
    | zero => intro k hf; exact absurd hf (Nat.not_lt_zero _)
    | succ f ih =>
      intro k hf hk64 H locs hP hS ls hl
      refine lv_iload_n hx hb dJ7_fill_d0a16_6 rfl (lv_at hl 1 rfl) ?_
      refine lv_iload hx hb dJ7_fill_d0a16_7 (lv_at hl 0 rfl) ?_
      refine lv_icmp_ge (tgt := 22) hx hb dJ7_fill_d0a16_9 (by decide) (fun hc9 => ?_) (fun hc9 => ?_)
      · refine W.vret hx hb hr (fun t ht hW => eQv ?_ hP ht (hS.F ht)) hS.2.2 dJ7_fill_d0a16_22
        exact trivial
      · have hk : k < 64 := Nat.lt_of_not_le fun h => hc9 (nI_le h (by omega))
        refine lv_aload_n hx hb dJ7_fill_d0a16_12 rfl (lv_at hl 2 rfl) ?_
        refine lv_iload_n hx hb dJ7_fill_d0a16_13 rfl (lv_at hl 1 rfl) ?_
        refine lv_lload_n hx hb dJ7_fill_d0a16_14 rfl (lv_at hl 3 rfl) ?_
        refine zl_st hx hb hK hP hD hS 3 1 rfl rfl (vp_in_nI (by omega) (by decide)) dJ7_fill_d0a16_15 (fun H locs hP hS => ?_)
        refine lv_iinc (v := nI (k + 1)) (lv' := [(3, .int (nI (k + 1))), (4, .int (nI 64)), (0, .ref (ad 3)), (1, .long (lN 0))]) hx hb dJ7_fill_d0a16_16 hl (k := 1) rfl (nI_1 k) (by decide) rfl (fun ls hl => ?_)
        refine lv_goto (tgt := 6) hx hb dJ7_fill_d0a16_19 (by decide) ?_
        exact ih (k + 1) (by omega) (by omega) H locs hP hS ls (lv_sub hl [1, 0, 2, 3] rfl)
  exact LOOP6 65 0 (by decide) (by decide) H [] hP hS ls (lv_sub hl [0, 1, 2, 3] rfl)

abbrev vX4_copy : List Cond := .code yX4_copy cX4_copy 2 none :: cWS
set_option maxHeartbeats 4000000 in
set_option maxRecDepth 100000 in
/-- copy(from, to), zeros both -/
theorem c_X4_copy (l : Launch) (dC : Nat → ClassId) (dI : Nat → Nat → Nat) (ad : Nat → Nat) (g : Nat → Option Nat) (ck : Nat → ClassId) (sa : Nat → Nat) (L : List Nat) (pr : Nat) (hok : cOk ad g L pr) (sz : Nat) (a b : Nat) (ha : a ∈ L) (hb9 : b ∈ L) : Met l yX4_copy vX4_copy ({ frames := 1, cells := 0, slots := 0, locals := 40 }) (va_Pc [.ref a, .ref b] (cP (dC, dI) ck sa (cW ad g ck L pr (nI 0)) sz)) (va_Qv (fun (_ : Unit) => True) (fun _ t => va_P (dC, dI) vwCl (cW ad g ck L pr (nI 0)) t.heap) (va_A (cW ad g ck L pr (nI 0)) sz)) 0 0 (va_A (cW ad g ck L pr (nI 0)) sz) := by
  refine Met.ofW (cc := cX4_copy) (maxL := 2) (ret := none) (by decide +kernel) rfl ?_
  intro p e s m args below meth c s₁ B hml hv
  obtain ⟨rfl, hsz, hP, hK, hD0, hX⟩ := hv
  have hx := B.exec
  have hb := B.bytes
  have hr := B.returns
  have hts := atoms_spec (ws := vX4_copy) B.pre
  have hown : s.vm.findClass RX4 = some m.cls := findClass_of_methodNamed B.named
  have hlocks := B.notSynchronized
  subst hsz
  have hD := hD0.self (sz := s.heap.size)
  generalize hAe : va_A (cW ad g ck L pr (nI 0)) s.heap.size = A at hD hX ⊢
  have hA : ∀ q : Nat, s.heap.size ≤ q → A q := fun q h => by rw [← hAe]; exact Or.inr h
  have hS : va_S A s.heap s.heap [] := va_S.rf
  have hl := lv_entry ([.ref a, .ref b]) (n := 2) (Nat.le_of_ble_eq_true rfl)
  rw [lg_entry_eq]
  generalize (lg_sl ([.ref a, .ref b]) ++ List.replicate (2 - (lg_sl ([.ref a, .ref b])).length) Slot.unset).toArray = ls at hl ⊢
  have hl : lv_has ls 2 [(0, .ref a), (1, .ref b)] := hl
  obtain ⟨H, hHe⟩ : ∃ H : Heap, H = s.heap := ⟨_, rfl⟩
  have hP : va_P (dC, dI) vwCl (cW ad g ck L pr (nI 0)) H := by rw [hHe]; exact hP
  have hS : va_S A s.heap H [] := by rw [hHe]; exact hS
  suffices hgo : W p l e (headSpec vX4_copy ({ frames := 1, cells := 0, slots := 0, locals := 40 })).room s m ([.ref a, .ref b] : List Value).toArray below meth c H [] 0 0 (MQ below (va_Qv (fun (_ : Unit) => True) (fun _ t => va_P (dC, dI) vwCl (cW ad g ck L pr (nI 0)) t.heap) A) ([.ref a, .ref b] : List Value).toArray s 0 0 A) (F0 m 0 ls []) by rw [hHe] at hgo; exact hgo
  refine lv_aload_n hx hb dX4_copy_0 rfl (lv_at hl 0 rfl) ?_
  refine lv_iconst (v := nI 0) hx hb dX4_copy_1 (by decide +kernel) ?_
  refine lv_aload_n hx hb dX4_copy_2 rfl (lv_at hl 1 rfl) ?_
  refine lv_iconst (v := nI 0) hx hb dX4_copy_3 (by decide +kernel) ?_
  refine lv_bipush (v := nI 32) hx hb dX4_copy_4 (by decide +kernel) ?_
  refine zi_copy hx hb (hml.trans hl.1.symm) hown (hts (.methodLink RX4 203 arraycopyName) (by decide +kernel)) (hts (.native arraycopyName) (by decide +kernel)) (hts (.static arraycopyName) (by decide +kernel)) (hts (.initialized "java/lang/System") (by decide +kernel)) hK hP hD hS 0 rfl ha hb9 (by decide) (by decide) dX4_copy_6 (fun H locs hP hS => ?_)
  refine W.vret hx hb hr (fun t ht hW => eQv ?_ hP ht (hS.F ht)) hS.2.2 dX4_copy_9
  exact trivial

abbrev vX4_readResidues : List Cond := .code yX4_readResidues cX4_readResidues 5 none :: cWS
set_option maxHeartbeats 4000000 in
set_option maxRecDepth 100000 in
/-- readResidues(p, to) of zeros -/
theorem c_X4_readResidues (l : Launch) (dC : Nat → ClassId) (dI : Nat → Nat → Nat) (ad : Nat → Nat) (g : Nat → Option Nat) (ck : Nat → ClassId) (sa : Nat → Nat) (L : List Nat) (pr : Nat) (hok : cOk ad g L pr) (sz : Nat) (i : Nat) (hi : i < 96) (to : Nat) (hto : to ∈ L) : Met l yX4_readResidues vX4_readResidues ({ frames := 0, cells := 0, slots := 0, locals := 0 }) (va_Pc [.ref (ad 0), .int (nI i), .ref to] (cP (dC, dI) ck sa (cW ad g ck L pr (nI 0)) sz)) (va_Qv (fun (_ : Unit) => True) (fun _ t => va_P (dC, dI) vwCl (cW ad g ck L pr (nI 0)) t.heap) (va_A (cW ad g ck L pr (nI 0)) sz)) 0 0 (va_A (cW ad g ck L pr (nI 0)) sz) := by
  refine Met.ofW (cc := cX4_readResidues) (maxL := 5) (ret := none) (by decide +kernel) rfl ?_
  intro p e s m args below meth c s₁ B hml hv
  obtain ⟨rfl, hsz, hP, hK, hD0, hX⟩ := hv
  have hx := B.exec
  have hb := B.bytes
  have hr := B.returns
  have hts := atoms_spec (ws := vX4_readResidues) B.pre
  have hown : s.vm.findClass RX4 = some m.cls := findClass_of_methodNamed B.named
  have hlocks := B.notSynchronized
  subst hsz
  have hD := hD0.self (sz := s.heap.size)
  generalize hAe : va_A (cW ad g ck L pr (nI 0)) s.heap.size = A at hD hX ⊢
  have hA : ∀ q : Nat, s.heap.size ≤ q → A q := fun q h => by rw [← hAe]; exact Or.inr h
  have hS : va_S A s.heap s.heap [] := va_S.rf
  have hinX4 : ∀ w ∈ wsX40, w ∈ vX4_readResidues := fun w h => List.mem_cons_of_mem _ (inCX4 w h)
  have hl := lv_entry ([.ref (ad 0), .int (nI i), .ref to]) (n := 5) (Nat.le_of_ble_eq_true rfl)
  rw [lg_entry_eq]
  generalize (lg_sl ([.ref (ad 0), .int (nI i), .ref to]) ++ List.replicate (5 - (lg_sl ([.ref (ad 0), .int (nI i), .ref to])).length) Slot.unset).toArray = ls at hl ⊢
  have hl : lv_has ls 5 [(0, .ref (ad 0)), (1, .int (nI i)), (2, .ref to)] := hl
  obtain ⟨H, hHe⟩ : ∃ H : Heap, H = s.heap := ⟨_, rfl⟩
  have hP : va_P (dC, dI) vwCl (cW ad g ck L pr (nI 0)) H := by rw [hHe]; exact hP
  have hS : va_S A s.heap H [] := by rw [hHe]; exact hS
  suffices hgo : W p l e (headSpec vX4_readResidues ({ frames := 0, cells := 0, slots := 0, locals := 0 })).room s m ([.ref (ad 0), .int (nI i), .ref to] : List Value).toArray below meth c H [] 0 0 (MQ below (va_Qv (fun (_ : Unit) => True) (fun _ t => va_P (dC, dI) vwCl (cW ad g ck L pr (nI 0)) t.heap) A) ([.ref (ad 0), .int (nI i), .ref to] : List Value).toArray s 0 0 A) (F0 m 0 ls []) by rw [hHe] at hgo; exact hgo
  obtain ⟨y, hy, hyL⟩ := hok.1.1 i hi
  refine lv_aload_n hx hb dX4_readResidues_0 rfl (lv_at hl 0 rfl) ?_
  refine va_get (D := (dC, dI)) (ci := 5) (v := .ref (ad 1)) (C := RX4) (T := TX4) (N := 10) hx hb hts hinX4 hown hK hP 0 rfl rfl 1 (by decide) (hts (.fieldLink RX4 19 "ResidueRows" "rows" "[[I") (by decide +kernel)) (fun _ h9 => h9) rfl dX4_readResidues_1 ?_
  refine lv_iload_n hx hb dX4_readResidues_4 rfl (lv_at hl 1 rfl) ?_
  refine zg_ld hx hb hK hP 1 2 rfl rfl (i := i) hi (by decide) hy dX4_readResidues_5 ?_
  refine lv_astore_n (lv' := [(3, .ref y), (0, .ref (ad 0)), (1, .int (nI i)), (2, .ref to)]) hx hb dX4_readResidues_6 rfl hl (by decide) rfl (fun ls hl => ?_)
  refine lv_iconst (v := nI 0) hx hb dX4_readResidues_7 (by decide +kernel) ?_
  refine lv_istore (lv' := [(4, .int (nI 0)), (3, .ref y), (0, .ref (ad 0)), (1, .int (nI i)), (2, .ref to)]) hx hb dX4_readResidues_8 hl (by decide) rfl (fun ls hl => ?_)
  have LOOP10 : ∀ (f : Nat) (k : Nat), 32 - k < f → k ≤ 32 → ∀ (H : Heap) (locs : List Loc), va_P (dC, dI) vwCl (cW ad g ck L pr (nI 0)) H → va_S A s.heap H locs → ∀ (ls : Array Slot), lv_has ls 5 [(4, .int (nI k)), (3, .ref y), (0, .ref (ad 0)), (1, .int (nI i)), (2, .ref to)] → W p l e (headSpec vX4_readResidues ({ frames := 0, cells := 0, slots := 0, locals := 0 })).room s m ([.ref (ad 0), .int (nI i), .ref to] : List Value).toArray below meth c H locs 0 0 (MQ below (va_Qv (fun (_ : Unit) => True) (fun _ t => va_P (dC, dI) vwCl (cW ad g ck L pr (nI 0)) t.heap) A) ([.ref (ad 0), .int (nI i), .ref to] : List Value).toArray s 0 0 A) (F0 m 10 ls []) := by
    intro f
    induction f with
    | zero => intro k hf; exact absurd hf (Nat.not_lt_zero _)
    | succ f ih =>
      intro k hf hk32 H locs hP hS ls hl
      refine lv_iload hx hb dX4_readResidues_10 (lv_at hl 0 rfl) ?_
      refine lv_bipush (v := nI 32) hx hb dX4_readResidues_12 (by decide +kernel) ?_
      refine lv_icmp_ge (tgt := 36) hx hb dX4_readResidues_14 (by decide) (fun hc14 => ?_) (fun hc14 => ?_)
      · refine W.vret hx hb hr (fun t ht hW => eQv ?_ hP ht (hS.F ht)) hS.2.2 dX4_readResidues_36
        exact trivial
      · have hk : k < 32 := Nat.lt_of_not_le fun h => hc14 (nI_le h (by omega))
        refine lv_aload_n hx hb dX4_readResidues_17 rfl (lv_at hl 4 rfl) ?_
        refine lv_iload hx hb dX4_readResidues_18 (lv_at hl 0 rfl) ?_
        refine lv_aload_n hx hb dX4_readResidues_20 rfl (lv_at hl 1 rfl) ?_
        refine lv_iload hx hb dX4_readResidues_21 (lv_at hl 0 rfl) ?_
        refine zi_ld hx hb hK hP 0 rfl hyL (vp_in_nI (by omega) (by decide)) dX4_readResidues_23 ?_
        refine lv_aload_n hx hb dX4_readResidues_24 rfl (lv_at hl 2 rfl) ?_
        refine va_get (D := (dC, dI)) (ci := 5) (v := .int (nI pr)) (C := RX4) (T := TX4) (N := 10) hx hb hts hinX4 hown hK hP 0 rfl rfl 0 (by decide) (hts (.fieldLink RX4 13 "ResidueRows" "prime" "I") (by decide +kernel)) (fun _ h9 => h9) rfl dX4_readResidues_25 ?_
        refine lv_irem hx hb dX4_readResidues_28 (nI_ne0 (by have := hok.2.1.1; omega) hok.2.2) ?_
        refine zz_i (y := nI 0) ((pk_rem (by decide) (by have := hok.2.1.1; omega) hok.2.2).trans (congrArg nI (Nat.zero_mod pr))) ?_
        refine zi_st hx hb hK hP hD hS 0 rfl hto (vp_in_nI (by omega) (by decide)) dX4_readResidues_29 (fun H locs hP hS => ?_)
        refine lv_iinc (v := nI (k + 1)) (lv' := [(4, .int (nI (k + 1))), (3, .ref y), (0, .ref (ad 0)), (1, .int (nI i)), (2, .ref to)]) hx hb dX4_readResidues_30 hl (k := 0) rfl (nI_1 k) (by decide) rfl (fun ls hl => ?_)
        refine lv_goto (tgt := 10) hx hb dX4_readResidues_33 (by decide) ?_
        exact ih (k + 1) (by omega) (by omega) H locs hP hS ls (lv_sub hl [0, 1, 2, 3, 4] rfl)
  exact LOOP10 33 0 (by decide) (by decide) H [] hP hS ls (lv_sub hl [0, 1, 2, 3, 4] rfl)

abbrev vX4_needPolynomial : List Cond := .code yX4_needPolynomial cX4_needPolynomial 2 none :: cWS
set_option maxHeartbeats 4000000 in
set_option maxRecDepth 100000 in
/-- needPolynomial(p) -/
theorem c_X4_needPolynomial (l : Launch) (hnt : l.stackTraces = false) (dC : Nat → ClassId) (dI : Nat → Nat → Nat) (ad : Nat → Nat) (g : Nat → Option Nat) (ck : Nat → ClassId) (sa : Nat → Nat) (L : List Nat) (pr : Nat) (hok : cOk ad g L pr) (sz : Nat) (p0 : Int32) : vx_Met l yX4_needPolynomial vX4_needPolynomial ({ frames := 7, cells := 1, slots := 6, locals := 103 }) (va_Pc [.ref (ad 0), .int p0] (cP (dC, dI) ck sa (cW ad g ck L pr (nI 0)) sz)) (va_Qv (fun (_ : Unit) => inR p0 96) (fun _ t => va_P (dC, dI) vwCl (cW ad g ck L pr (nI 0)) t.heap) (va_A (cW ad g ck L pr (nI 0)) sz)) (cXC (fun E => E = nmA ∧ ¬ inR p0 96) (va_A (cW ad g ck L pr (nI 0)) sz)) 1 6 (va_A (cW ad g ck L pr (nI 0)) sz) := by
  refine vx_ofW (cc := cX4_needPolynomial) (maxL := 2) (ret := none) (by decide +kernel) rfl ?_
  intro p e s m args below meth c s₁ B hml hnoex hv
  obtain ⟨rfl, hsz, hP, hK, hD0, hX⟩ := hv
  have hx := B.exec
  have hb := B.bytes
  have hr := B.returns
  have hts := atoms_spec (ws := vX4_needPolynomial) B.pre
  have hown : s.vm.findClass RX4 = some m.cls := findClass_of_methodNamed B.named
  have hlocks := B.notSynchronized
  subst hsz
  have hD := hD0.self (sz := s.heap.size)
  generalize hAe : va_A (cW ad g ck L pr (nI 0)) s.heap.size = A at hD hX ⊢
  have hA : ∀ q : Nat, s.heap.size ≤ q → A q := fun q h => by rw [← hAe]; exact Or.inr h
  have hS : va_S A s.heap s.heap [] := va_S.rf
  have hinX4 : ∀ w ∈ wsX40, w ∈ vX4_needPolynomial := fun w h => List.mem_cons_of_mem _ (inCX4 w h)
  have hl := lv_entry ([.ref (ad 0), .int p0]) (n := 2) (Nat.le_of_ble_eq_true rfl)
  rw [lg_entry_eq]
  generalize (lg_sl ([.ref (ad 0), .int p0]) ++ List.replicate (2 - (lg_sl ([.ref (ad 0), .int p0])).length) Slot.unset).toArray = ls at hl ⊢
  have hl : lv_has ls 2 [(0, .ref (ad 0)), (1, .int p0)] := hl
  obtain ⟨H, hHe⟩ : ∃ H : Heap, H = s.heap := ⟨_, rfl⟩
  have hP : va_P (dC, dI) vwCl (cW ad g ck L pr (nI 0)) H := by rw [hHe]; exact hP
  have hS : va_S A s.heap H [] := by rw [hHe]; exact hS
  suffices hgo : W p l e (headSpec vX4_needPolynomial ({ frames := 7, cells := 1, slots := 6, locals := 103 })).room s m ([.ref (ad 0), .int p0] : List Value).toArray below meth c H [] 0 0 (vx_MQ below (va_Qv (fun (_ : Unit) => inR p0 96) (fun _ t => va_P (dC, dI) vwCl (cW ad g ck L pr (nI 0)) t.heap) A) (cXC (fun E => E = nmA ∧ ¬ inR p0 96) A) ([.ref (ad 0), .int p0] : List Value).toArray s 1 6 A) (F0 m 0 ls []) by rw [hHe] at hgo; exact hgo
  refine lv_iload_n hx hb dX4_needPolynomial_0 rfl (lv_at hl 1 rfl) ?_
  refine lv_if_lt (tgt := 10) hx hb dX4_needPolynomial_1 (by decide) (fun hc1 => ?_) (fun hc1 => ?_)
  · exact vx_throwS (own := RX4) (cls := nmA) (text := "no such polynomial") (names := chA) (A := A) hx hb hnt hown (by decide +kernel) (by decide +kernel) (hts (.classLink RX4 179 nmA) (by decide +kernel)) (hts (.initialized nmA) (by decide +kernel)) hX.2.2.1 (vx_hat (fun w9 h9 => hts w9 (List.mem_cons_of_mem _ (inCA w9 h9))) cNL_A (fun w9 h9 => va_Nw.use (cNL_on w9 h9) (hX.1 w9 h9))) at_otA hX.2.1.1 hX.2.1.2 hS (hl.1.trans hml.symm) dX4_needPolynomial_10 dX4_needPolynomial_13 dX4_needPolynomial_14 dX4_needPolynomial_16 dX4_needPolynomial_19 (fun x hx9 => (hnoex x hx9).elim) (by decide) (by decide) (by decide) (by decide) hlocks (fun t _ hz9 hk9 => cXC_new (⟨rfl, inR_neg (by decide) hc1⟩) hS hz9 hk9) hS.2.2 (by decide) (by decide)
  · refine lv_iload_n hx hb dX4_needPolynomial_4 rfl (lv_at hl 1 rfl) ?_
    refine lv_bipush (v := nI 96) hx hb dX4_needPolynomial_5 (by decide +kernel) ?_
    refine lv_icmp_lt (tgt := 20) hx hb dX4_needPolynomial_7 (by decide) (fun hc7 => ?_) (fun hc7 => ?_)
    · refine W.widen (k := 1) (n := 6) (by decide) (by decide) ?_
      refine vx_ret ?_
      refine W.vret hx hb hr (fun t ht hW => eQv ?_ hP ht (hS.F ht)) hS.2.2 dX4_needPolynomial_20
      exact inR_yes (by decide) hc1 hc7
    · exact vx_throwS (own := RX4) (cls := nmA) (text := "no such polynomial") (names := chA) (A := A) hx hb hnt hown (by decide +kernel) (by decide +kernel) (hts (.classLink RX4 179 nmA) (by decide +kernel)) (hts (.initialized nmA) (by decide +kernel)) hX.2.2.1 (vx_hat (fun w9 h9 => hts w9 (List.mem_cons_of_mem _ (inCA w9 h9))) cNL_A (fun w9 h9 => va_Nw.use (cNL_on w9 h9) (hX.1 w9 h9))) at_otA hX.2.1.1 hX.2.1.2 hS (hl.1.trans hml.symm) dX4_needPolynomial_10 dX4_needPolynomial_13 dX4_needPolynomial_14 dX4_needPolynomial_16 dX4_needPolynomial_19 (fun x hx9 => (hnoex x hx9).elim) (by decide) (by decide) (by decide) (by decide) hlocks (fun t _ hz9 hk9 => cXC_new (⟨rfl, inR_big (by decide) hc7⟩) hS hz9 hk9) hS.2.2 (by decide) (by decide)

abbrev vX4_needCoefficient : List Cond := .code yX4_needCoefficient cX4_needCoefficient 2 none :: cWS
set_option maxHeartbeats 4000000 in
set_option maxRecDepth 100000 in
/-- needCoefficient(k) -/
theorem c_X4_needCoefficient (l : Launch) (hnt : l.stackTraces = false) (dC : Nat → ClassId) (dI : Nat → Nat → Nat) (ad : Nat → Nat) (g : Nat → Option Nat) (ck : Nat → ClassId) (sa : Nat → Nat) (L : List Nat) (pr : Nat) (hok : cOk ad g L pr) (sz : Nat) (p0 : Int32) : vx_Met l yX4_needCoefficient vX4_needCoefficient ({ frames := 7, cells := 1, slots := 6, locals := 103 }) (va_Pc [.ref (ad 0), .int p0] (cP (dC, dI) ck sa (cW ad g ck L pr (nI 0)) sz)) (va_Qv (fun (_ : Unit) => inR p0 32) (fun _ t => va_P (dC, dI) vwCl (cW ad g ck L pr (nI 0)) t.heap) (va_A (cW ad g ck L pr (nI 0)) sz)) (cXC (fun E => E = nmA ∧ ¬ inR p0 32) (va_A (cW ad g ck L pr (nI 0)) sz)) 1 6 (va_A (cW ad g ck L pr (nI 0)) sz) := by
  refine vx_ofW (cc := cX4_needCoefficient) (maxL := 2) (ret := none) (by decide +kernel) rfl ?_
  intro p e s m args below meth c s₁ B hml hnoex hv
  obtain ⟨rfl, hsz, hP, hK, hD0, hX⟩ := hv
  have hx := B.exec
  have hb := B.bytes
  have hr := B.returns
  have hts := atoms_spec (ws := vX4_needCoefficient) B.pre
  have hown : s.vm.findClass RX4 = some m.cls := findClass_of_methodNamed B.named
  have hlocks := B.notSynchronized
  subst hsz
  have hD := hD0.self (sz := s.heap.size)
  generalize hAe : va_A (cW ad g ck L pr (nI 0)) s.heap.size = A at hD hX ⊢
  have hA : ∀ q : Nat, s.heap.size ≤ q → A q := fun q h => by rw [← hAe]; exact Or.inr h
  have hS : va_S A s.heap s.heap [] := va_S.rf
  have hinX4 : ∀ w ∈ wsX40, w ∈ vX4_needCoefficient := fun w h => List.mem_cons_of_mem _ (inCX4 w h)
  have hl := lv_entry ([.ref (ad 0), .int p0]) (n := 2) (Nat.le_of_ble_eq_true rfl)
  rw [lg_entry_eq]
  generalize (lg_sl ([.ref (ad 0), .int p0]) ++ List.replicate (2 - (lg_sl ([.ref (ad 0), .int p0])).length) Slot.unset).toArray = ls at hl ⊢
  have hl : lv_has ls 2 [(0, .ref (ad 0)), (1, .int p0)] := hl
  obtain ⟨H, hHe⟩ : ∃ H : Heap, H = s.heap := ⟨_, rfl⟩
  have hP : va_P (dC, dI) vwCl (cW ad g ck L pr (nI 0)) H := by rw [hHe]; exact hP
  have hS : va_S A s.heap H [] := by rw [hHe]; exact hS
  suffices hgo : W p l e (headSpec vX4_needCoefficient ({ frames := 7, cells := 1, slots := 6, locals := 103 })).room s m ([.ref (ad 0), .int p0] : List Value).toArray below meth c H [] 0 0 (vx_MQ below (va_Qv (fun (_ : Unit) => inR p0 32) (fun _ t => va_P (dC, dI) vwCl (cW ad g ck L pr (nI 0)) t.heap) A) (cXC (fun E => E = nmA ∧ ¬ inR p0 32) A) ([.ref (ad 0), .int p0] : List Value).toArray s 1 6 A) (F0 m 0 ls []) by rw [hHe] at hgo; exact hgo
  refine lv_iload_n hx hb dX4_needCoefficient_0 rfl (lv_at hl 1 rfl) ?_
  refine lv_if_lt (tgt := 10) hx hb dX4_needCoefficient_1 (by decide) (fun hc1 => ?_) (fun hc1 => ?_)
  · exact vx_throwS (own := RX4) (cls := nmA) (text := "no such coefficient") (names := chA) (A := A) hx hb hnt hown (by decide +kernel) (by decide +kernel) (hts (.classLink RX4 179 nmA) (by decide +kernel)) (hts (.initialized nmA) (by decide +kernel)) hX.2.2.2.1 (vx_hat (fun w9 h9 => hts w9 (List.mem_cons_of_mem _ (inCA w9 h9))) cNL_A (fun w9 h9 => va_Nw.use (cNL_on w9 h9) (hX.1 w9 h9))) at_otA hX.2.1.1 hX.2.1.2 hS (hl.1.trans hml.symm) dX4_needCoefficient_10 dX4_needCoefficient_13 dX4_needCoefficient_14 dX4_needCoefficient_16 dX4_needCoefficient_19 (fun x hx9 => (hnoex x hx9).elim) (by decide) (by decide) (by decide) (by decide) hlocks (fun t _ hz9 hk9 => cXC_new (⟨rfl, inR_neg (by decide) hc1⟩) hS hz9 hk9) hS.2.2 (by decide) (by decide)
  · refine lv_iload_n hx hb dX4_needCoefficient_4 rfl (lv_at hl 1 rfl) ?_
    refine lv_bipush (v := nI 32) hx hb dX4_needCoefficient_5 (by decide +kernel) ?_
    refine lv_icmp_lt (tgt := 20) hx hb dX4_needCoefficient_7 (by decide) (fun hc7 => ?_) (fun hc7 => ?_)
    · refine W.widen (k := 1) (n := 6) (by decide) (by decide) ?_
      refine vx_ret ?_
      refine W.vret hx hb hr (fun t ht hW => eQv ?_ hP ht (hS.F ht)) hS.2.2 dX4_needCoefficient_20
      exact inR_yes (by decide) hc1 hc7
    · exact vx_throwS (own := RX4) (cls := nmA) (text := "no such coefficient") (names := chA) (A := A) hx hb hnt hown (by decide +kernel) (by decide +kernel) (hts (.classLink RX4 179 nmA) (by decide +kernel)) (hts (.initialized nmA) (by decide +kernel)) hX.2.2.2.1 (vx_hat (fun w9 h9 => hts w9 (List.mem_cons_of_mem _ (inCA w9 h9))) cNL_A (fun w9 h9 => va_Nw.use (cNL_on w9 h9) (hX.1 w9 h9))) at_otA hX.2.1.1 hX.2.1.2 hS (hl.1.trans hml.symm) dX4_needCoefficient_10 dX4_needCoefficient_13 dX4_needCoefficient_14 dX4_needCoefficient_16 dX4_needCoefficient_19 (fun x hx9 => (hnoex x hx9).elim) (by decide) (by decide) (by decide) (by decide) hlocks (fun t _ hz9 hk9 => cXC_new (⟨rfl, inR_big (by decide) hc7⟩) hS hz9 hk9) hS.2.2 (by decide) (by decide)

abbrev vX4_needFactor : List Cond := .code yX4_needFactor cX4_needFactor 2 none :: cWS
set_option maxHeartbeats 4000000 in
set_option maxRecDepth 100000 in
/-- needFactor(k): nothing was factored yet -/
theorem c_X4_needFactor (l : Launch) (hnt : l.stackTraces = false) (dC : Nat → ClassId) (dI : Nat → Nat → Nat) (ad : Nat → Nat) (g : Nat → Option Nat) (ck : Nat → ClassId) (sa : Nat → Nat) (L : List Nat) (pr : Nat) (hok : cOk ad g L pr) (sz : Nat) (p0 : Int32) : vx_Met l yX4_needFactor vX4_needFactor ({ frames := 7, cells := 1, slots := 6, locals := 103 }) (va_Pc [.ref (ad 0), .int p0] (cP (dC, dI) ck sa (cW ad g ck L pr (nI 0)) sz)) (va_Qv (fun (_ : Unit) => False) (fun _ t => va_P (dC, dI) vwCl (cW ad g ck L pr (nI 0)) t.heap) (va_A (cW ad g ck L pr (nI 0)) sz)) (cXC (fun E => E = nmA) (va_A (cW ad g ck L pr (nI 0)) sz)) 1 6 (va_A (cW ad g ck L pr (nI 0)) sz) := by
  refine vx_ofW (cc := cX4_needFactor) (maxL := 2) (ret := none) (by decide +kernel) rfl ?_
  intro p e s m args below meth c s₁ B hml hnoex hv
  obtain ⟨rfl, hsz, hP, hK, hD0, hX⟩ := hv
  have hx := B.exec
  have hb := B.bytes
  have hr := B.returns
  have hts := atoms_spec (ws := vX4_needFactor) B.pre
  have hown : s.vm.findClass RX4 = some m.cls := findClass_of_methodNamed B.named
  have hlocks := B.notSynchronized
  subst hsz
  have hD := hD0.self (sz := s.heap.size)
  generalize hAe : va_A (cW ad g ck L pr (nI 0)) s.heap.size = A at hD hX ⊢
  have hA : ∀ q : Nat, s.heap.size ≤ q → A q := fun q h => by rw [← hAe]; exact Or.inr h
  have hS : va_S A s.heap s.heap [] := va_S.rf
  have hinX4 : ∀ w ∈ wsX40, w ∈ vX4_needFactor := fun w h => List.mem_cons_of_mem _ (inCX4 w h)
  have hinX0 : ∀ w ∈ wsX00, w ∈ vX4_needFactor := fun w h => List.mem_cons_of_mem _ (inCX0 w h)
  have hl := lv_entry ([.ref (ad 0), .int p0]) (n := 2) (Nat.le_of_ble_eq_true rfl)
  rw [lg_entry_eq]
  generalize (lg_sl ([.ref (ad 0), .int p0]) ++ List.replicate (2 - (lg_sl ([.ref (ad 0), .int p0])).length) Slot.unset).toArray = ls at hl ⊢
  have hl : lv_has ls 2 [(0, .ref (ad 0)), (1, .int p0)] := hl
  obtain ⟨H, hHe⟩ : ∃ H : Heap, H = s.heap := ⟨_, rfl⟩
  have hP : va_P (dC, dI) vwCl (cW ad g ck L pr (nI 0)) H := by rw [hHe]; exact hP
  have hS : va_S A s.heap H [] := by rw [hHe]; exact hS
  suffices hgo : W p l e (headSpec vX4_needFactor ({ frames := 7, cells := 1, slots := 6, locals := 103 })).room s m ([.ref (ad 0), .int p0] : List Value).toArray below meth c H [] 0 0 (vx_MQ below (va_Qv (fun (_ : Unit) => False) (fun _ t => va_P (dC, dI) vwCl (cW ad g ck L pr (nI 0)) t.heap) A) (cXC (fun E => E = nmA) A) ([.ref (ad 0), .int p0] : List Value).toArray s 1 6 A) (F0 m 0 ls []) by rw [hHe] at hgo; exact hgo
  refine lv_iload_n hx hb dX4_needFactor_0 rfl (lv_at hl 1 rfl) ?_
  refine lv_if_lt (tgt := 15) hx hb dX4_needFactor_1 (by decide) (fun hc1 => ?_) (fun hc1 => ?_)
  · exact vx_throwS (own := RX4) (cls := nmA) (text := "no such factor") (names := chA) (A := A) hx hb hnt hown (by decide +kernel) (by decide +kernel) (hts (.classLink RX4 179 nmA) (by decide +kernel)) (hts (.initialized nmA) (by decide +kernel)) hX.2.2.2.2.1 (vx_hat (fun w9 h9 => hts w9 (List.mem_cons_of_mem _ (inCA w9 h9))) cNL_A (fun w9 h9 => va_Nw.use (cNL_on w9 h9) (hX.1 w9 h9))) at_otA hX.2.1.1 hX.2.1.2 hS (hl.1.trans hml.symm) dX4_needFactor_15 dX4_needFactor_18 dX4_needFactor_19 dX4_needFactor_21 dX4_needFactor_24 (fun x hx9 => (hnoex x hx9).elim) (by decide) (by decide) (by decide) (by decide) hlocks (fun t _ hz9 hk9 => cXC_new (rfl) hS hz9 hk9) hS.2.2 (by decide) (by decide)
  · refine lv_iload_n hx hb dX4_needFactor_4 rfl (lv_at hl 1 rfl) ?_
    refine lv_aload_n hx hb dX4_needFactor_5 rfl (lv_at hl 0 rfl) ?_
    refine va_get (D := (dC, dI)) (ci := 5) (v := .ref (ad 4)) (C := RX4) (T := TX4) (N := 10) hx hb hts hinX4 hown hK hP 0 rfl rfl 5 (by decide) (hts (.fieldLink RX4 50 "ResidueRows" "latest" "LResidueRows$Factored;") (by decide +kernel)) (fun _ h9 => h9) rfl dX4_needFactor_6 ?_
    refine va_getN (D := (dC, dI)) (ci := 1) (v := .int 0) (C := RX0) (T := TX0) (N := 5) hx hb hts hinX0 hown hK hP 4 rfl rfl 4 (by decide) (va_Nw.use rfl (hX.1 (.fieldLinkNest RX4 146 RX0 "count" "I" RX4) (by decide +kernel))) (fun _ h9 => h9) rfl dX4_needFactor_9 ?_
    refine lv_icmp_lt (tgt := 25) hx hb dX4_needFactor_12 (by decide) (fun hc12 => ?_) (fun hc12 => ?_)
    · exact absurd hc12 hc1
    · exact vx_throwS (own := RX4) (cls := nmA) (text := "no such factor") (names := chA) (A := A) hx hb hnt hown (by decide +kernel) (by decide +kernel) (hts (.classLink RX4 179 nmA) (by decide +kernel)) (hts (.initialized nmA) (by decide +kernel)) hX.2.2.2.2.1 (vx_hat (fun w9 h9 => hts w9 (List.mem_cons_of_mem _ (inCA w9 h9))) cNL_A (fun w9 h9 => va_Nw.use (cNL_on w9 h9) (hX.1 w9 h9))) at_otA hX.2.1.1 hX.2.1.2 hS (hl.1.trans hml.symm) dX4_needFactor_15 dX4_needFactor_18 dX4_needFactor_19 dX4_needFactor_21 dX4_needFactor_24 (fun x hx9 => (hnoex x hx9).elim) (by decide) (by decide) (by decide) (by decide) hlocks (fun t _ hz9 hk9 => cXC_new (rfl) hS hz9 hk9) hS.2.2 (by decide) (by decide)

abbrev vX4_needNumbers : List Cond := .code yX4_needNumbers cX4_needNumbers 2 none :: cWS
set_option maxHeartbeats 4000000 in
set_option maxRecDepth 100000 in
/-- needNumbers(1), none given yet -/
theorem c_X4_needNumbers (l : Launch) (dC : Nat → ClassId) (dI : Nat → Nat → Nat) (ad : Nat → Nat) (g : Nat → Option Nat) (ck : Nat → ClassId) (sa : Nat → Nat) (L : List Nat) (pr : Nat) (hok : cOk ad g L pr) (sz : Nat) : Met l yX4_needNumbers vX4_needNumbers ({ frames := 0, cells := 0, slots := 0, locals := 0 }) (va_Pc [.ref (ad 0), .int (nI 1)] (cP (dC, dI) ck sa (cW ad g ck L pr (nI 0)) sz)) (va_Qv (fun (_ : Unit) => True) (fun _ t => va_P (dC, dI) vwCl (cW ad g ck L pr (nI 0)) t.heap) (va_A (cW ad g ck L pr (nI 0)) sz)) 0 0 (va_A (cW ad g ck L pr (nI 0)) sz) := by
  refine Met.ofW (cc := cX4_needNumbers) (maxL := 2) (ret := none) (by decide +kernel) rfl ?_
  intro p e s m args below meth c s₁ B hml hv
  obtain ⟨rfl, hsz, hP, hK, hD0, hX⟩ := hv
  have hx := B.exec
  have hb := B.bytes
  have hr := B.returns
  have hts := atoms_spec (ws := vX4_needNumbers) B.pre
  have hown : s.vm.findClass RX4 = some m.cls := findClass_of_methodNamed B.named
  have hlocks := B.notSynchronized
  subst hsz
  have hD := hD0.self (sz := s.heap.size)
  generalize hAe : va_A (cW ad g ck L pr (nI 0)) s.heap.size = A at hD hX ⊢
  have hA : ∀ q : Nat, s.heap.size ≤ q → A q := fun q h => by rw [← hAe]; exact Or.inr h
  have hS : va_S A s.heap s.heap [] := va_S.rf
  have hinX4 : ∀ w ∈ wsX40, w ∈ vX4_needNumbers := fun w h => List.mem_cons_of_mem _ (inCX4 w h)
  have hl := lv_entry ([.ref (ad 0), .int (nI 1)]) (n := 2) (Nat.le_of_ble_eq_true rfl)
  rw [lg_entry_eq]
  generalize (lg_sl ([.ref (ad 0), .int (nI 1)]) ++ List.replicate (2 - (lg_sl ([.ref (ad 0), .int (nI 1)])).length) Slot.unset).toArray = ls at hl ⊢
  have hl : lv_has ls 2 [(0, .ref (ad 0)), (1, .int (nI 1))] := hl
  obtain ⟨H, hHe⟩ : ∃ H : Heap, H = s.heap := ⟨_, rfl⟩
  have hP : va_P (dC, dI) vwCl (cW ad g ck L pr (nI 0)) H := by rw [hHe]; exact hP
  have hS : va_S A s.heap H [] := by rw [hHe]; exact hS
  suffices hgo : W p l e (headSpec vX4_needNumbers ({ frames := 0, cells := 0, slots := 0, locals := 0 })).room s m ([.ref (ad 0), .int (nI 1)] : List Value).toArray below meth c H [] 0 0 (MQ below (va_Qv (fun (_ : Unit) => True) (fun _ t => va_P (dC, dI) vwCl (cW ad g ck L pr (nI 0)) t.heap) A) ([.ref (ad 0), .int (nI 1)] : List Value).toArray s 0 0 A) (F0 m 0 ls []) by rw [hHe] at hgo; exact hgo
  refine lv_bipush (v := nI 96) hx hb dX4_needNumbers_0 (by decide +kernel) ?_
  refine lv_aload_n hx hb dX4_needNumbers_2 rfl (lv_at hl 0 rfl) ?_
  refine va_get (D := (dC, dI)) (ci := 5) (v := .int (nI 0)) (C := RX4) (T := TX4) (N := 10) hx hb hts hinX4 hown hK hP 0 rfl rfl 9 (by decide) (hts (.fieldLink RX4 64 "ResidueRows" "next" "I") (by decide +kernel)) (fun _ h9 => h9) rfl dX4_needNumbers_3 ?_
  refine lv_isub hx hb dX4_needNumbers_6 ?_
  refine zz_i (y := nI 96) (by decide +kernel) ?_
  refine lv_iload_n hx hb dX4_needNumbers_7 rfl (lv_at hl 1 rfl) ?_
  refine lv_icmp_ge (tgt := 21) hx hb dX4_needNumbers_8 (by decide) (fun _ => ?_) (fun hcc => absurd (by decide +kernel) hcc)
  refine W.vret hx hb hr (fun t ht hW => eQv ?_ hP ht (hS.F ht)) hS.2.2 dX4_needNumbers_21
  exact trivial

abbrev vX4_keep : List Cond := .code yX4_keep cX4_keep 3 (some .int) :: cWS
set_option maxHeartbeats 4000000 in
set_option maxRecDepth 100000 in
/-- keep(zeros): the first number -/
theorem c_X4_keep (l : Launch) (dC : Nat → ClassId) (dI : Nat → Nat → Nat) (ad : Nat → Nat) (g : Nat → Option Nat) (ck : Nat → ClassId) (sa : Nat → Nat) (L : List Nat) (pr : Nat) (hok : cOk ad g L pr) (sz : Nat) (a : Nat) (ha : a ∈ L) : Met l yX4_keep vX4_keep ({ frames := 2, cells := 0, slots := 0, locals := 61 }) (va_Pc [.ref (ad 0), .ref a] (cP (dC, dI) ck sa (cW ad g ck L pr (nI 0)) sz)) (va_Qi (fun r (_ : Unit) => (fun r => r = nI 0) r) (fun _ _ => True) (va_A (cW ad g ck L pr (nI 0)) sz)) 0 0 (va_A (cW ad g ck L pr (nI 0)) sz) := by
  refine Met.ofW (cc := cX4_keep) (maxL := 3) (ret := (some .int)) (by decide +kernel) rfl ?_
  intro p e s m args below meth c s₁ B hml hv
  obtain ⟨rfl, hsz, hP, hK, hD0, hX⟩ := hv
  have hx := B.exec
  have hb := B.bytes
  have hr := B.returns
  have hts := atoms_spec (ws := vX4_keep) B.pre
  have hown : s.vm.findClass RX4 = some m.cls := findClass_of_methodNamed B.named
  have hlocks := B.notSynchronized
  subst hsz
  have hD := hD0.self (sz := s.heap.size)
  generalize hAe : va_A (cW ad g ck L pr (nI 0)) s.heap.size = A at hD hX ⊢
  have hA : ∀ q : Nat, s.heap.size ≤ q → A q := fun q h => by rw [← hAe]; exact Or.inr h
  have hS : va_S A s.heap s.heap [] := va_S.rf
  have hinX4 : ∀ w ∈ wsX40, w ∈ vX4_keep := fun w h => List.mem_cons_of_mem _ (inCX4 w h)
  have hl := lv_entry ([.ref (ad 0), .ref a]) (n := 3) (Nat.le_of_ble_eq_true rfl)
  rw [lg_entry_eq]
  generalize (lg_sl ([.ref (ad 0), .ref a]) ++ List.replicate (3 - (lg_sl ([.ref (ad 0), .ref a])).length) Slot.unset).toArray = ls at hl ⊢
  have hl : lv_has ls 3 [(0, .ref (ad 0)), (1, .ref a)] := hl
  obtain ⟨H, hHe⟩ : ∃ H : Heap, H = s.heap := ⟨_, rfl⟩
  have hP : va_P (dC, dI) vwCl (cW ad g ck L pr (nI 0)) H := by rw [hHe]; exact hP
  have hS : va_S A s.heap H [] := by rw [hHe]; exact hS
  suffices hgo : W p l e (headSpec vX4_keep ({ frames := 2, cells := 0, slots := 0, locals := 61 })).room s m ([.ref (ad 0), .ref a] : List Value).toArray below meth c H [] 0 0 (MQ below (va_Qi (fun r (_ : Unit) => (fun r => r = nI 0) r) (fun _ _ => True) A) ([.ref (ad 0), .ref a] : List Value).toArray s 0 0 A) (F0 m 0 ls []) by rw [hHe] at hgo; exact hgo
  obtain ⟨y0, hy0, hyL0⟩ := hok.1.1 0 (by decide)
  refine lv_aload_n hx hb dX4_keep_0 rfl (lv_at hl 0 rfl) ?_
  refine va_get (D := (dC, dI)) (ci := 5) (v := .int (nI 0)) (C := RX4) (T := TX4) (N := 10) hx hb hts hinX4 hown hK hP 0 rfl rfl 9 (by decide) (hts (.fieldLink RX4 64 "ResidueRows" "next" "I") (by decide +kernel)) (fun _ h9 => h9) rfl dX4_keep_1 ?_
  refine lv_istore_n (lv' := [(2, .int (nI 0)), (0, .ref (ad 0)), (1, .ref a)]) hx hb dX4_keep_4 rfl hl (by decide) rfl (fun ls hl => ?_)
  refine lv_aload_n hx hb dX4_keep_5 rfl (lv_at hl 2 rfl) ?_
  refine lv_aload_n hx hb dX4_keep_6 rfl (lv_at hl 1 rfl) ?_
  refine va_get (D := (dC, dI)) (ci := 5) (v := .ref (ad 1)) (C := RX4) (T := TX4) (N := 10) hx hb hts hinX4 hown hK hP 0 rfl rfl 1 (by decide) (hts (.fieldLink RX4 19 "ResidueRows" "rows" "[[I") (by decide +kernel)) (fun _ h9 => h9) rfl dX4_keep_7 ?_
  refine lv_iload_n hx hb dX4_keep_10 rfl (lv_at hl 0 rfl) ?_
  refine zg_ld hx hb hK hP 1 2 rfl rfl (i := 0) (by decide) (by decide) hy0 dX4_keep_11 ?_
  refine cc_v (va_runS (As := [.ref a, .ref y0]) (rest := []) ⟨hx, hb, hml, hown, hts⟩ (c_X4_copy l dC dI ad g ck sa L pr hok H.size a y0 ha hyL0) (va_cwS 2 hts (gWs (by decide +kernel)) rfl rfl rfl (by decide +kernel) ⟨Nat.le_of_ble_eq_true rfl, Nat.le_of_ble_eq_true rfl⟩) ⟨cP_blind, cP_of hP hK hD hS hA hX⟩ rfl rfl hl.1 rfl (lv_room (Nat.le_of_ble_eq_true rfl)) dX4_keep_12 ⟨Nat.le_of_ble_eq_true rfl, Nat.le_of_ble_eq_true rfl⟩) hS (cF hD hS hA) (fun H locs hw_1 hP hS => ?_)
  refine lv_aload_n hx hb dX4_keep_15 rfl (lv_at hl 1 rfl) ?_
  refine lv_dup hx hb dX4_keep_16 rfl ?_
  refine va_get (D := (dC, dI)) (ci := 5) (v := .int (nI 0)) (C := RX4) (T := TX4) (N := 10) hx hb hts hinX4 hown hK hP 0 rfl rfl 9 (by decide) (hts (.fieldLink RX4 64 "ResidueRows" "next" "I") (by decide +kernel)) (fun _ h9 => h9) rfl dX4_keep_17 ?_
  refine lv_iconst (v := nI 1) hx hb dX4_keep_20 (by decide +kernel) ?_
  refine lv_iadd hx hb dX4_keep_21 ?_
  refine zz_i (y := nI 1) (by decide +kernel) ?_
  refine va_put (D := (dC, dI)) (ci := 5) (v := .int (nI 1)) (ty := .int) (C := RX4) (T := TX4) (N := 10) hx hb hts hinX4 tyX4 tyX4_ok nmX4 hown hK hP hD hS 0 rfl rfl 9 (by decide) (hts (.fieldLink RX4 64 "ResidueRows" "next" "I") (by decide +kernel)) (fun _ h9 => h9) rfl (by decide +kernel) rfl rfl (Nat.le_of_ble_eq_true rfl) dX4_keep_22 (fun H locs hP hD hS => ?_)
  have hP : va_P (dC, dI) vwCl (cW ad g ck L pr (nI 1)) H := hP
  have hD : va_D A (cW ad g ck L pr (nI 1)) := hD
  refine lv_iload_n hx hb dX4_keep_25 rfl (lv_at hl 0 rfl) ?_
  refine W.iret hx hb hr (fun t ht hW => eTi ?_ (hS.F ht)) hS.2.2 dX4_keep_26
  exact rfl

abbrev vX2_narrowRest : List Cond := .code yX2_narrowRest cX2_narrowRest 6 none :: cWS
set_option maxHeartbeats 4000000 in
set_option maxRecDepth 100000 in
/-- narrowRest(32, prime, to), the wide row 0 -/
theorem c_X2_narrowRest (l : Launch) (dC : Nat → ClassId) (dI : Nat → Nat → Nat) (ad : Nat → Nat) (g : Nat → Option Nat) (ck : Nat → ClassId) (sa : Nat → Nat) (L : List Nat) (pr : Nat) (hok : cOk ad g L pr) (sz : Nat) (a : Nat) (ha : a ∈ L) : Met l yX2_narrowRest vX2_narrowRest ({ frames := 0, cells := 0, slots := 0, locals := 0 }) (va_Pc [.ref (ad 2), .int (nI 32), .long (lN pr), .ref a] (cP (dC, dI) ck sa (cW ad g ck L pr (nI 0)) sz)) (va_Qv (fun (_ : Unit) => True) (fun _ t => va_P (dC, dI) vwCl (cW ad g ck L pr (nI 0)) t.heap) (va_A (cW ad g ck L pr (nI 0)) sz)) 0 0 (va_A (cW ad g ck L pr (nI 0)) sz) := by
  refine Met.ofW (cc := cX2_narrowRest) (maxL := 6) (ret := none) (by decide +kernel) rfl ?_
  intro p e s m args below meth c s₁ B hml hv
  obtain ⟨rfl, hsz, hP, hK, hD0, hX⟩ := hv
  have hx := B.exec
  have hb := B.bytes
  have hr := B.returns
  have hts := atoms_spec (ws := vX2_narrowRest) B.pre
  have hown : s.vm.findClass RX2 = some m.cls := findClass_of_methodNamed B.named
  have hlocks := B.notSynchronized
  subst hsz
  have hD := hD0.self (sz := s.heap.size)
  generalize hAe : va_A (cW ad g ck L pr (nI 0)) s.heap.size = A at hD hX ⊢
  have hA : ∀ q : Nat, s.heap.size ≤ q → A q := fun q h => by rw [← hAe]; exact Or.inr h
  have hS : va_S A s.heap s.heap [] := va_S.rf
  have hinX2 : ∀ w ∈ wsX20, w ∈ vX2_narrowRest := fun w h => List.mem_cons_of_mem _ (inCX2 w h)
  have hl := lv_entry ([.ref (ad 2), .int (nI 32), .long (lN pr), .ref a]) (n := 6) (Nat.le_of_ble_eq_true rfl)
  rw [lg_entry_eq]
  generalize (lg_sl ([.ref (ad 2), .int (nI 32), .long (lN pr), .ref a]) ++ List.replicate (6 - (lg_sl ([.ref (ad 2), .int (nI 32), .long (lN pr), .ref a])).length) Slot.unset).toArray = ls at hl ⊢
  have hl : lv_has ls 6 [(0, .ref (ad 2)), (1, .int (nI 32)), (2, .long (lN pr)), (4, .ref a)] := hl
  obtain ⟨H, hHe⟩ : ∃ H : Heap, H = s.heap := ⟨_, rfl⟩
  have hP : va_P (dC, dI) vwCl (cW ad g ck L pr (nI 0)) H := by rw [hHe]; exact hP
  have hS : va_S A s.heap H [] := by rw [hHe]; exact hS
  suffices hgo : W p l e (headSpec vX2_narrowRest ({ frames := 0, cells := 0, slots := 0, locals := 0 })).room s m ([.ref (ad 2), .int (nI 32), .long (lN pr), .ref a] : List Value).toArray below meth c H [] 0 0 (MQ below (va_Qv (fun (_ : Unit) => True) (fun _ t => va_P (dC, dI) vwCl (cW ad g ck L pr (nI 0)) t.heap) A) ([.ref (ad 2), .int (nI 32), .long (lN pr), .ref a] : List Value).toArray s 0 0 A) (F0 m 0 ls []) by rw [hHe] at hgo; exact hgo
  refine lv_iconst (v := nI 0) hx hb dX2_narrowRest_0 (by decide +kernel) ?_
  refine lv_istore (lv' := [(5, .int (nI 0)), (0, .ref (ad 2)), (1, .int (nI 32)), (2, .long (lN pr)), (4, .ref a)]) hx hb dX2_narrowRest_1 hl (by decide) rfl (fun ls hl => ?_)
  have LOOP3 : ∀ (f : Nat) (k : Nat), 32 - k < f → k ≤ 32 → ∀ (H : Heap) (locs : List Loc), va_P (dC, dI) vwCl (cW ad g ck L pr (nI 0)) H → va_S A s.heap H locs → ∀ (ls : Array Slot), lv_has ls 6 [(5, .int (nI k)), (0, .ref (ad 2)), (1, .int (nI 32)), (2, .long (lN pr)), (4, .ref a)] → W p l e (headSpec vX2_narrowRest ({ frames := 0, cells := 0, slots := 0, locals := 0 })).room s m ([.ref (ad 2), .int (nI 32), .long (lN pr), .ref a] : List Value).toArray below meth c H locs 0 0 (MQ below (va_Qv (fun (_ : Unit) => True) (fun _ t => va_P (dC, dI) vwCl (cW ad g ck L pr (nI 0)) t.heap) A) ([.ref (ad 2), .int (nI 32), .long (lN pr), .ref a] : List Value).toArray s 0 0 A) (F0 m 3 ls []) := by
    intro f
    induction f with
    | zero => intro k hf; exact absurd hf (Nat.not_lt_zero _)
    | succ f ih =>
      intro k hf hk32 H locs hP hS ls hl
      refine lv_iload hx hb dX2_narrowRest_3 (lv_at hl 0 rfl) ?_
      refine lv_bipush (v := nI 32) hx hb dX2_narrowRest_5 (by decide +kernel) ?_
      refine lv_icmp_ge (tgt := 41) hx hb dX2_narrowRest_7 (by decide) (fun hc7 => ?_) (fun hc7 => ?_)
      · refine W.vret hx hb hr (fun t ht hW => eQv ?_ hP ht (hS.F ht)) hS.2.2 dX2_narrowRest_41
        exact trivial
      · have hk : k < 32 := Nat.lt_of_not_le fun h => hc7 (nI_le h (by omega))
        refine lv_aload hx hb dX2_narrowRest_10 (lv_at hl 4 rfl) ?_
        refine lv_iload hx hb dX2_narrowRest_12 (lv_at hl 0 rfl) ?_
        refine lv_iload hx hb dX2_narrowRest_14 (lv_at hl 0 rfl) ?_
        refine lv_iload_n hx hb dX2_narrowRest_16 rfl (lv_at hl 2 rfl) ?_
        refine lv_icmp_ge (tgt := 33) hx hb dX2_narrowRest_17 (by decide) (fun hcc => absurd hcc (nI_ge hk (by decide))) (fun _ => ?_)
        refine lv_aload_n hx hb dX2_narrowRest_20 rfl (lv_at hl 1 rfl) ?_
        refine va_get (D := (dC, dI)) (ci := 3) (v := .ref (ad 3)) (C := RX2) (T := TX2) (N := 4) hx hb hts hinX2 hown hK hP 2 rfl rfl 1 (by decide) (hts (.fieldLink RX2 15 "ResidueRows$Residues" "wide" "[J") (by decide +kernel)) (fun _ h9 => h9) rfl dX2_narrowRest_21 ?_
        refine lv_iload hx hb dX2_narrowRest_24 (lv_at hl 0 rfl) ?_
        refine zl_ld hx hb hK hP 3 1 rfl rfl (vp_in_nI (by omega) (by decide)) dX2_narrowRest_26 ?_
        refine lv_lload_n hx hb dX2_narrowRest_27 rfl (lv_at hl 3 rfl) ?_
        refine lv_lrem hx hb dX2_narrowRest_28 (fun h => absurd ((pk_lEQ (b := 0) (by have := hok.2.2; omega) (by decide)).mp h) (by have := hok.2.1.1; omega)) ?_
        refine zz_l (y := lN 0) ((pk_lRem (by decide) (by have := hok.2.1.1; omega) (by have := hok.2.2; omega)).trans (congrArg lN (Nat.zero_mod pr))) ?_
        refine lv_l2i (v := nI 0) hx hb dX2_narrowRest_29 (by decide +kernel) ?_
        refine lv_goto (tgt := 34) hx hb dX2_narrowRest_30 (by decide) ?_
        refine zi_st hx hb hK hP hD hS 0 rfl ha (vp_in_nI (by omega) (by decide)) dX2_narrowRest_34 (fun H locs hP hS => ?_)
        refine lv_iinc (v := nI (k + 1)) (lv' := [(5, .int (nI (k + 1))), (0, .ref (ad 2)), (1, .int (nI 32)), (2, .long (lN pr)), (4, .ref a)]) hx hb dX2_narrowRest_35 hl (k := 0) rfl (nI_1 k) (by decide) rfl (fun ls hl => ?_)
        refine lv_goto (tgt := 3) hx hb dX2_narrowRest_38 (by decide) ?_
        exact ih (k + 1) (by omega) (by omega) H locs hP hS ls (lv_sub hl [0, 1, 2, 3, 4] rfl)
  exact LOOP3 33 0 (by decide) (by decide) H [] hP hS ls (lv_sub hl [0, 1, 2, 3, 4] rfl)

abbrev vX2_multiplyWide : List Cond := .code yX2_multiplyWide cX2_multiplyWide 12 none :: cWS
set_option maxHeartbeats 4000000 in
set_option maxRecDepth 100000 in
/-- multiplyWide of zeros -/
theorem c_X2_multiplyWide (l : Launch) (dC : Nat → ClassId) (dI : Nat → Nat → Nat) (ad : Nat → Nat) (g : Nat → Option Nat) (ck : Nat → ClassId) (sa : Nat → Nat) (L : List Nat) (pr : Nat) (hok : cOk ad g L pr) (sz : Nat) (a b : Nat) (ha : a ∈ L) (hb9 : b ∈ L) : Met l yX2_multiplyWide vX2_multiplyWide ({ frames := 1, cells := 0, slots := 0, locals := 24 }) (va_Pc [.ref (ad 2), .ref a, .ref b, .int (-1)] (cP (dC, dI) ck sa (cW ad g ck L pr (nI 0)) sz)) (va_Qv (fun (_ : Unit) => True) (fun _ t => va_P (dC, dI) vwCl (cW ad g ck L pr (nI 0)) t.heap) (va_A (cW ad g ck L pr (nI 0)) sz)) 0 0 (va_A (cW ad g ck L pr (nI 0)) sz) := by
  refine Met.ofW (cc := cX2_multiplyWide) (maxL := 12) (ret := none) (by decide +kernel) rfl ?_
  intro p e s m args below meth c s₁ B hml hv
  obtain ⟨rfl, hsz, hP, hK, hD0, hX⟩ := hv
  have hx := B.exec
  have hb := B.bytes
  have hr := B.returns
  have hts := atoms_spec (ws := vX2_multiplyWide) B.pre
  have hown : s.vm.findClass RX2 = some m.cls := findClass_of_methodNamed B.named
  have hlocks := B.notSynchronized
  subst hsz
  have hD := hD0.self (sz := s.heap.size)
  generalize hAe : va_A (cW ad g ck L pr (nI 0)) s.heap.size = A at hD hX ⊢
  have hA : ∀ q : Nat, s.heap.size ≤ q → A q := fun q h => by rw [← hAe]; exact Or.inr h
  have hS : va_S A s.heap s.heap [] := va_S.rf
  have hinX2 : ∀ w ∈ wsX20, w ∈ vX2_multiplyWide := fun w h => List.mem_cons_of_mem _ (inCX2 w h)
  have hl := lv_entry ([.ref (ad 2), .ref a, .ref b, .int (-1)]) (n := 12) (Nat.le_of_ble_eq_true rfl)
  rw [lg_entry_eq]
  generalize (lg_sl ([.ref (ad 2), .ref a, .ref b, .int (-1)]) ++ List.replicate (12 - (lg_sl ([.ref (ad 2), .ref a, .ref b, .int (-1)])).length) Slot.unset).toArray = ls at hl ⊢
  have hl : lv_has ls 12 [(0, .ref (ad 2)), (1, .ref a), (2, .ref b), (3, .int (-1))] := hl
  obtain ⟨H, hHe⟩ : ∃ H : Heap, H = s.heap := ⟨_, rfl⟩
  have hP : va_P (dC, dI) vwCl (cW ad g ck L pr (nI 0)) H := by rw [hHe]; exact hP
  have hS : va_S A s.heap H [] := by rw [hHe]; exact hS
  suffices hgo : W p l e (headSpec vX2_multiplyWide ({ frames := 1, cells := 0, slots := 0, locals := 24 })).room s m ([.ref (ad 2), .ref a, .ref b, .int (-1)] : List Value).toArray below meth c H [] 0 0 (MQ below (va_Qv (fun (_ : Unit) => True) (fun _ t => va_P (dC, dI) vwCl (cW ad g ck L pr (nI 0)) t.heap) A) ([.ref (ad 2), .ref a, .ref b, .int (-1)] : List Value).toArray s 0 0 A) (F0 m 0 ls []) by rw [hHe] at hgo; exact hgo
  refine lv_aload_n hx hb dX2_multiplyWide_0 rfl (lv_at hl 0 rfl) ?_
  refine va_get (D := (dC, dI)) (ci := 3) (v := .ref (ad 3)) (C := RX2) (T := TX2) (N := 4) hx hb hts hinX2 hown hK hP 2 rfl rfl 1 (by decide) (hts (.fieldLink RX2 15 "ResidueRows$Residues" "wide" "[J") (by decide +kernel)) (fun _ h9 => h9) rfl dX2_multiplyWide_1 ?_
  refine lv_lconst (v := lN 0) hx hb dX2_multiplyWide_4 (by decide +kernel) ?_
  refine cc_v (va_runS (As := [.ref (ad 3), .long (lN 0)]) (rest := []) ⟨hx, hb, hml, hown, hts⟩ (c_J7_fill_d0a16 l dC dI ad g ck sa L pr hok H.size ) (va_cwS 2 hts (gWs (by decide +kernel)) rfl rfl rfl (by decide +kernel) ⟨Nat.le_of_ble_eq_true rfl, Nat.le_of_ble_eq_true rfl⟩) ⟨cP_blind, cP_of hP hK hD hS hA hX⟩ rfl rfl hl.1 rfl (lv_room (Nat.le_of_ble_eq_true rfl)) dX2_multiplyWide_5 ⟨Nat.le_of_ble_eq_true rfl, Nat.le_of_ble_eq_true rfl⟩) hS (cF hD hS hA) (fun H locs hw_1 hP hS => ?_)
  refine lv_aload_n hx hb dX2_multiplyWide_8 rfl (lv_at hl 0 rfl) ?_
  refine va_get (D := (dC, dI)) (ci := 3) (v := .long (lN pr)) (C := RX2) (T := TX2) (N := 4) hx hb hts hinX2 hown hK hP 2 rfl rfl 0 (by decide) (hts (.fieldLink RX2 9 "ResidueRows$Residues" "prime" "J") (by decide +kernel)) (fun _ h9 => h9) rfl dX2_multiplyWide_9 ?_
  refine lv_aload_n hx hb dX2_multiplyWide_12 rfl (lv_at hl 0 rfl) ?_
  refine va_get (D := (dC, dI)) (ci := 3) (v := .long (lN pr)) (C := RX2) (T := TX2) (N := 4) hx hb hts hinX2 hown hK hP 2 rfl rfl 0 (by decide) (hts (.fieldLink RX2 9 "ResidueRows$Residues" "prime" "J") (by decide +kernel)) (fun _ h9 => h9) rfl dX2_multiplyWide_13 ?_
  refine lv_lmul hx hb dX2_multiplyWide_16 ?_
  refine lv_lstore (lv' := [(4, .long ((lN pr) * (lN pr))), (0, .ref (ad 2)), (1, .ref a), (2, .ref b), (3, .int (-1))]) hx hb dX2_multiplyWide_17 hl (by decide) rfl (fun ls hl => ?_)
  refine lv_iconst (v := nI 0) hx hb dX2_multiplyWide_19 (by decide +kernel) ?_
  refine lv_istore (lv' := [(6, .int (nI 0)), (4, .long ((lN pr) * (lN pr))), (0, .ref (ad 2)), (1, .ref a), (2, .ref b), (3, .int (-1))]) hx hb dX2_multiplyWide_20 hl (by decide) rfl (fun ls hl => ?_)
  have LOOP22 : ∀ (f : Nat) (k : Nat), 32 - k < f → k ≤ 32 → ∀ (H : Heap) (locs : List Loc), va_P (dC, dI) vwCl (cW ad g ck L pr (nI 0)) H → va_S A s.heap H locs → ∀ (ls : Array Slot), lv_has ls 12 [(6, .int (nI k)), (4, .long (lN pr * lN pr)), (0, .ref (ad 2)), (1, .ref a), (2, .ref b), (3, .int (-1))] → W p l e (headSpec vX2_multiplyWide ({ frames := 1, cells := 0, slots := 0, locals := 24 })).room s m ([.ref (ad 2), .ref a, .ref b, .int (-1)] : List Value).toArray below meth c H locs 0 0 (MQ below (va_Qv (fun (_ : Unit) => True) (fun _ t => va_P (dC, dI) vwCl (cW ad g ck L pr (nI 0)) t.heap) A) ([.ref (ad 2), .ref a, .ref b, .int (-1)] : List Value).toArray s 0 0 A) (F0 m 22 ls []) := by
    intro f
    induction f with
    | zero => intro k hf; exact absurd hf (Nat.not_lt_zero _)
    | succ f ih =>
      intro k hf hk32 H locs hP hS ls hl
      refine lv_iload hx hb dX2_multiplyWide_22 (lv_at hl 0 rfl) ?_
      refine lv_bipush (v := nI 32) hx hb dX2_multiplyWide_24 (by decide +kernel) ?_
      refine lv_icmp_ge (tgt := 113) hx hb dX2_multiplyWide_26 (by decide) (fun hc26 => ?_) (fun hc26 => ?_)
      · refine W.vret hx hb hr (fun t ht hW => eQv ?_ hP ht (hS.F ht)) hS.2.2 dX2_multiplyWide_113
        exact trivial
      · have hk : k < 32 := Nat.lt_of_not_le fun h => hc26 (nI_le h (by omega))
        refine lv_aload_n hx hb dX2_multiplyWide_29 rfl (lv_at hl 3 rfl) ?_
        refine lv_iload hx hb dX2_multiplyWide_30 (lv_at hl 0 rfl) ?_
        refine zi_ld hx hb hK hP 0 rfl ha (vp_in_nI (by omega) (by decide)) dX2_multiplyWide_32 ?_
        refine lv_i2l (v := lN 0) hx hb dX2_multiplyWide_33 (by decide +kernel) ?_
        refine lv_lstore (lv' := [(7, .long (lN 0)), (6, .int (nI k)), (4, .long (lN pr * lN pr)), (0, .ref (ad 2)), (1, .ref a), (2, .ref b), (3, .int (-1))]) hx hb dX2_multiplyWide_34 hl (by decide) rfl (fun ls hl => ?_)
        refine lv_iconst (v := nI 0) hx hb dX2_multiplyWide_36 (by decide +kernel) ?_
        refine lv_istore (lv' := [(9, .int (nI 0)), (7, .long (lN 0)), (6, .int (nI k)), (4, .long (lN pr * lN pr)), (0, .ref (ad 2)), (1, .ref a), (2, .ref b), (3, .int (-1))]) hx hb dX2_multiplyWide_37 hl (by decide) rfl (fun ls hl => ?_)
        refine lv_lload hx hb dX2_multiplyWide_39 (lv_at hl 1 rfl) ?_
        refine lv_lconst (v := lN 0) hx hb dX2_multiplyWide_41 (by decide +kernel) ?_
        refine W.lcmp hx hb dX2_multiplyWide_42 ?_
        refine lv_if_eq (tgt := 107) hx hb dX2_multiplyWide_43 (by decide) (fun _ => ?_) (fun hcc => absurd ((lc_eq _ _).mpr rfl) hcc)
        refine lv_iinc (v := nI (k + 1)) (lv' := [(6, .int (nI (k + 1))), (9, .int (nI 0)), (7, .long (lN 0)), (4, .long (lN pr * lN pr)), (0, .ref (ad 2)), (1, .ref a), (2, .ref b), (3, .int (-1))]) hx hb dX2_multiplyWide_107 hl (k := 2) rfl (nI_1 k) (by decide) rfl (fun ls hl => ?_)
        refine lv_goto (tgt := 22) hx hb dX2_multiplyWide_110 (by decide) ?_
        exact ih (k + 1) (by omega) (by omega) H locs hP hS ls (lv_sub hl [0, 3, 4, 5, 6, 7] rfl)
  exact LOOP22 33 0 (by decide) (by decide) H locs hP hS ls (lv_sub hl [0, 1, 2, 3, 4, 5] rfl)

abbrev vX2_product : List Cond := .code yX2_product cX2_product 4 none :: cWS
set_option maxHeartbeats 4000000 in
set_option maxRecDepth 100000 in
/-- product of zeros -/
theorem c_X2_product (l : Launch) (dC : Nat → ClassId) (dI : Nat → Nat → Nat) (ad : Nat → Nat) (g : Nat → Option Nat) (ck : Nat → ClassId) (sa : Nat → Nat) (L : List Nat) (pr : Nat) (hok : cOk ad g L pr) (sz : Nat) (a b d : Nat) (ha : a ∈ L) (hb9 : b ∈ L) (hd : d ∈ L) : Met l yX2_product vX2_product ({ frames := 2, cells := 0, slots := 0, locals := 55 }) (va_Pc [.ref (ad 2), .ref a, .ref b, .ref d] (cP (dC, dI) ck sa (cW ad g ck L pr (nI 0)) sz)) (va_Qv (fun (_ : Unit) => True) (fun _ t => va_P (dC, dI) vwCl (cW ad g ck L pr (nI 0)) t.heap) (va_A (cW ad g ck L pr (nI 0)) sz)) 0 0 (va_A (cW ad g ck L pr (nI 0)) sz) := by
  refine Met.ofW (cc := cX2_product) (maxL := 4) (ret := none) (by decide +kernel) rfl ?_
  intro p e s m args below meth c s₁ B hml hv
  obtain ⟨rfl, hsz, hP, hK, hD0, hX⟩ := hv
  have hx := B.exec
  have hb := B.bytes
  have hr := B.returns
  have hts := atoms_spec (ws := vX2_product) B.pre
  have hown : s.vm.findClass RX2 = some m.cls := findClass_of_methodNamed B.named
  have hlocks := B.notSynchronized
  subst hsz
  have hD := hD0.self (sz := s.heap.size)
  generalize hAe : va_A (cW ad g ck L pr (nI 0)) s.heap.size = A at hD hX ⊢
  have hA : ∀ q : Nat, s.heap.size ≤ q → A q := fun q h => by rw [← hAe]; exact Or.inr h
  have hS : va_S A s.heap s.heap [] := va_S.rf
  have hinX2 : ∀ w ∈ wsX20, w ∈ vX2_product := fun w h => List.mem_cons_of_mem _ (inCX2 w h)
  have hl := lv_entry ([.ref (ad 2), .ref a, .ref b, .ref d]) (n := 4) (Nat.le_of_ble_eq_true rfl)
  rw [lg_entry_eq]
  generalize (lg_sl ([.ref (ad 2), .ref a, .ref b, .ref d]) ++ List.replicate (4 - (lg_sl ([.ref (ad 2), .ref a, .ref b, .ref d])).length) Slot.unset).toArray = ls at hl ⊢
  have hl : lv_has ls 4 [(0, .ref (ad 2)), (1, .ref a), (2, .ref b), (3, .ref d)] := hl
  obtain ⟨H, hHe⟩ : ∃ H : Heap, H = s.heap := ⟨_, rfl⟩
  have hP : va_P (dC, dI) vwCl (cW ad g ck L pr (nI 0)) H := by rw [hHe]; exact hP
  have hS : va_S A s.heap H [] := by rw [hHe]; exact hS
  suffices hgo : W p l e (headSpec vX2_product ({ frames := 2, cells := 0, slots := 0, locals := 55 })).room s m ([.ref (ad 2), .ref a, .ref b, .ref d] : List Value).toArray below meth c H [] 0 0 (MQ below (va_Qv (fun (_ : Unit) => True) (fun _ t => va_P (dC, dI) vwCl (cW ad g ck L pr (nI 0)) t.heap) A) ([.ref (ad 2), .ref a, .ref b, .ref d] : List Value).toArray s 0 0 A) (F0 m 0 ls []) by rw [hHe] at hgo; exact hgo
  refine lv_aload_n hx hb dX2_product_0 rfl (lv_at hl 0 rfl) ?_
  refine lv_aload_n hx hb dX2_product_1 rfl (lv_at hl 1 rfl) ?_
  refine lv_aload_n hx hb dX2_product_2 rfl (lv_at hl 2 rfl) ?_
  refine lv_aload_n hx hb dX2_product_3 rfl (lv_at hl 2 rfl) ?_
  refine cc_i (va_runSN (As := [.ref b]) (rest := [.ref b, .ref a, .ref (ad 2)]) ⟨hx, hb, hml, hown, hts⟩ (c_X4_degree l dC dI ad g ck sa L pr hok H.size b hb9) ⟨va_cnB 1 hts (gWc (by decide +kernel)) rfl rfl rfl (hX.1 (.methodLinkNest RX2 32 yX4_degree RX4) (by decide +kernel)) (hts (.initialized RX4) (by decide +kernel)) (by decide +kernel) ⟨Nat.le_of_ble_eq_true rfl, Nat.le_of_ble_eq_true rfl⟩, (hts (.static yX4_degree) (by decide +kernel)), trivial⟩ ⟨cP_blind, cP_of hP hK hD hS hA hX⟩ rfl rfl hl.1 rfl (lv_room (Nat.le_of_ble_eq_true rfl)) dX2_product_4 ⟨Nat.le_of_ble_eq_true rfl, Nat.le_of_ble_eq_true rfl⟩) hS (cF hD hS hA) (fun r_2 H locs hw_1 hP hS => ?_)
  subst hw_1
  refine cc_v (va_runV (As := [.ref a, .ref b, .int (-1)]) (rest := []) ⟨hx, hb, hml, hown, hts⟩ (c_X2_multiplyWide l dC dI ad g ck sa L pr hok H.size a b ha hb9) (cwV 3 hts (gWv (by decide +kernel)) rfl rfl rfl (by decide +kernel) ⟨Nat.le_of_ble_eq_true rfl, Nat.le_of_ble_eq_true rfl⟩) ⟨cP_blind, va_recv hK hP (ci := 3) (q0 := 2) rfl rfl, cP_of hP hK hD hS hA hX⟩ rfl rfl hl.1 rfl (lv_room (Nat.le_of_ble_eq_true rfl)) dX2_product_7 ⟨Nat.le_of_ble_eq_true rfl, Nat.le_of_ble_eq_true rfl⟩) hS (cF hD hS hA) (fun H locs hw_3 hP hS => ?_)
  refine lv_aload_n hx hb dX2_product_10 rfl (lv_at hl 0 rfl) ?_
  refine lv_bipush (v := nI 32) hx hb dX2_product_11 (by decide +kernel) ?_
  refine lv_aload_n hx hb dX2_product_13 rfl (lv_at hl 0 rfl) ?_
  refine va_get (D := (dC, dI)) (ci := 3) (v := .long (lN pr)) (C := RX2) (T := TX2) (N := 4) hx hb hts hinX2 hown hK hP 2 rfl rfl 0 (by decide) (hts (.fieldLink RX2 9 "ResidueRows$Residues" "prime" "J") (by decide +kernel)) (fun _ h9 => h9) rfl dX2_product_14 ?_
  refine lv_aload_n hx hb dX2_product_17 rfl (lv_at hl 3 rfl) ?_
  refine cc_v (va_runV (As := [.int (nI 32), .long (lN pr), .ref d]) (rest := []) ⟨hx, hb, hml, hown, hts⟩ (c_X2_narrowRest l dC dI ad g ck sa L pr hok H.size d hd) (cwV 3 hts (gWv (by decide +kernel)) rfl rfl rfl (by decide +kernel) ⟨Nat.le_of_ble_eq_true rfl, Nat.le_of_ble_eq_true rfl⟩) ⟨cP_blind, va_recv hK hP (ci := 3) (q0 := 2) rfl rfl, cP_of hP hK hD hS hA hX⟩ rfl rfl hl.1 rfl (lv_room (Nat.le_of_ble_eq_true rfl)) dX2_product_18 ⟨Nat.le_of_ble_eq_true rfl, Nat.le_of_ble_eq_true rfl⟩) hS (cF hD hS hA) (fun H locs hw_4 hP hS => ?_)
  refine W.vret hx hb hr (fun t ht hW => eQv ?_ hP ht (hS.F ht)) hS.2.2 dX2_product_21
  exact trivial

abbrev vX2_makeMonic : List Cond := .code yX2_makeMonic cX2_makeMonic 3 none :: cWS
set_option maxHeartbeats 4000000 in
set_option maxRecDepth 100000 in
/-- makeMonic of zeros -/
theorem c_X2_makeMonic (l : Launch) (dC : Nat → ClassId) (dI : Nat → Nat → Nat) (ad : Nat → Nat) (g : Nat → Option Nat) (ck : Nat → ClassId) (sa : Nat → Nat) (L : List Nat) (pr : Nat) (hok : cOk ad g L pr) (sz : Nat) (a : Nat) (ha : a ∈ L) : Met l yX2_makeMonic vX2_makeMonic ({ frames := 1, cells := 0, slots := 0, locals := 21 }) (va_Pc [.ref (ad 2), .ref a] (cP (dC, dI) ck sa (cW ad g ck L pr (nI 0)) sz)) (va_Qv (fun (_ : Unit) => True) (fun _ t => va_P (dC, dI) vwCl (cW ad g ck L pr (nI 0)) t.heap) (va_A (cW ad g ck L pr (nI 0)) sz)) 0 0 (va_A (cW ad g ck L pr (nI 0)) sz) := by
  refine Met.ofW (cc := cX2_makeMonic) (maxL := 3) (ret := none) (by decide +kernel) rfl ?_
  intro p e s m args below meth c s₁ B hml hv
  obtain ⟨rfl, hsz, hP, hK, hD0, hX⟩ := hv
  have hx := B.exec
  have hb := B.bytes
  have hr := B.returns
  have hts := atoms_spec (ws := vX2_makeMonic) B.pre
  have hown : s.vm.findClass RX2 = some m.cls := findClass_of_methodNamed B.named
  have hlocks := B.notSynchronized
  subst hsz
  have hD := hD0.self (sz := s.heap.size)
  generalize hAe : va_A (cW ad g ck L pr (nI 0)) s.heap.size = A at hD hX ⊢
  have hA : ∀ q : Nat, s.heap.size ≤ q → A q := fun q h => by rw [← hAe]; exact Or.inr h
  have hS : va_S A s.heap s.heap [] := va_S.rf
  have hinX2 : ∀ w ∈ wsX20, w ∈ vX2_makeMonic := fun w h => List.mem_cons_of_mem _ (inCX2 w h)
  have hl := lv_entry ([.ref (ad 2), .ref a]) (n := 3) (Nat.le_of_ble_eq_true rfl)
  rw [lg_entry_eq]
  generalize (lg_sl ([.ref (ad 2), .ref a]) ++ List.replicate (3 - (lg_sl ([.ref (ad 2), .ref a])).length) Slot.unset).toArray = ls at hl ⊢
  have hl : lv_has ls 3 [(0, .ref (ad 2)), (1, .ref a)] := hl
  obtain ⟨H, hHe⟩ : ∃ H : Heap, H = s.heap := ⟨_, rfl⟩
  have hP : va_P (dC, dI) vwCl (cW ad g ck L pr (nI 0)) H := by rw [hHe]; exact hP
  have hS : va_S A s.heap H [] := by rw [hHe]; exact hS
  suffices hgo : W p l e (headSpec vX2_makeMonic ({ frames := 1, cells := 0, slots := 0, locals := 21 })).room s m ([.ref (ad 2), .ref a] : List Value).toArray below meth c H [] 0 0 (MQ below (va_Qv (fun (_ : Unit) => True) (fun _ t => va_P (dC, dI) vwCl (cW ad g ck L pr (nI 0)) t.heap) A) ([.ref (ad 2), .ref a] : List Value).toArray s 0 0 A) (F0 m 0 ls []) by rw [hHe] at hgo; exact hgo
  refine lv_aload_n hx hb dX2_makeMonic_0 rfl (lv_at hl 1 rfl) ?_
  refine cc_i (va_runSN (As := [.ref a]) (rest := []) ⟨hx, hb, hml, hown, hts⟩ (c_X4_degree l dC dI ad g ck sa L pr hok H.size a ha) ⟨va_cnB 1 hts (gWc (by decide +kernel)) rfl rfl rfl (hX.1 (.methodLinkNest RX2 32 yX4_degree RX4) (by decide +kernel)) (hts (.initialized RX4) (by decide +kernel)) (by decide +kernel) ⟨Nat.le_of_ble_eq_true rfl, Nat.le_of_ble_eq_true rfl⟩, (hts (.static yX4_degree) (by decide +kernel)), trivial⟩ ⟨cP_blind, cP_of hP hK hD hS hA hX⟩ rfl rfl hl.1 rfl (lv_room (Nat.le_of_ble_eq_true rfl)) dX2_makeMonic_1 ⟨Nat.le_of_ble_eq_true rfl, Nat.le_of_ble_eq_true rfl⟩) hS (cF hD hS hA) (fun r_2 H locs hw_1 hP hS => ?_)
  subst hw_1
  refine lv_istore_n (lv' := [(2, .int (-1)), (0, .ref (ad 2)), (1, .ref a)]) hx hb dX2_makeMonic_4 rfl hl (by decide) rfl (fun ls hl => ?_)
  refine lv_iload_n hx hb dX2_makeMonic_5 rfl (lv_at hl 0 rfl) ?_
  refine lv_if_lt (tgt := 36) hx hb dX2_makeMonic_6 (by decide) (fun _ => ?_) (fun hcc => absurd (by decide) hcc)
  refine W.vret hx hb hr (fun t ht hW => eQv ?_ hP ht (hS.F ht)) hS.2.2 dX2_makeMonic_36
  exact trivial

abbrev vX2_commonDivisor : List Cond := .code yX2_commonDivisor cX2_commonDivisor 8 none :: cWS
set_option maxHeartbeats 4000000 in
set_option maxRecDepth 100000 in
/-- commonDivisor of zeros -/
theorem c_X2_commonDivisor (l : Launch) (dC : Nat → ClassId) (dI : Nat → Nat → Nat) (ad : Nat → Nat) (g : Nat → Option Nat) (ck : Nat → ClassId) (sa : Nat → Nat) (L : List Nat) (pr : Nat) (hok : cOk ad g L pr) (sz : Nat) (a b d : Nat) (ha : a ∈ L) (hb9 : b ∈ L) (hd : d ∈ L) : Met l yX2_commonDivisor vX2_commonDivisor ({ frames := 2, cells := 0, slots := 0, locals := 61 }) (va_Pc [.ref (ad 2), .ref a, .ref b, .ref d] (cP (dC, dI) ck sa (cW ad g ck L pr (nI 0)) sz)) (va_Qv (fun (_ : Unit) => True) (fun _ t => va_P (dC, dI) vwCl (cW ad g ck L pr (nI 0)) t.heap) (va_A (cW ad g ck L pr (nI 0)) sz)) 0 0 (va_A (cW ad g ck L pr (nI 0)) sz) := by
  refine Met.ofW (cc := cX2_commonDivisor) (maxL := 8) (ret := none) (by decide +kernel) rfl ?_
  intro p e s m args below meth c s₁ B hml hv
  obtain ⟨rfl, hsz, hP, hK, hD0, hX⟩ := hv
  have hx := B.exec
  have hb := B.bytes
  have hr := B.returns
  have hts := atoms_spec (ws := vX2_commonDivisor) B.pre
  have hown : s.vm.findClass RX2 = some m.cls := findClass_of_methodNamed B.named
  have hlocks := B.notSynchronized
  subst hsz
  have hD := hD0.self (sz := s.heap.size)
  generalize hAe : va_A (cW ad g ck L pr (nI 0)) s.heap.size = A at hD hX ⊢
  have hA : ∀ q : Nat, s.heap.size ≤ q → A q := fun q h => by rw [← hAe]; exact Or.inr h
  have hS : va_S A s.heap s.heap [] := va_S.rf
  have hinX2 : ∀ w ∈ wsX20, w ∈ vX2_commonDivisor := fun w h => List.mem_cons_of_mem _ (inCX2 w h)
  have hl := lv_entry ([.ref (ad 2), .ref a, .ref b, .ref d]) (n := 8) (Nat.le_of_ble_eq_true rfl)
  rw [lg_entry_eq]
  generalize (lg_sl ([.ref (ad 2), .ref a, .ref b, .ref d]) ++ List.replicate (8 - (lg_sl ([.ref (ad 2), .ref a, .ref b, .ref d])).length) Slot.unset).toArray = ls at hl ⊢
  have hl : lv_has ls 8 [(0, .ref (ad 2)), (1, .ref a), (2, .ref b), (3, .ref d)] := hl
  obtain ⟨H, hHe⟩ : ∃ H : Heap, H = s.heap := ⟨_, rfl⟩
  have hP : va_P (dC, dI) vwCl (cW ad g ck L pr (nI 0)) H := by rw [hHe]; exact hP
  have hS : va_S A s.heap H [] := by rw [hHe]; exact hS
  suffices hgo : W p l e (headSpec vX2_commonDivisor ({ frames := 2, cells := 0, slots := 0, locals := 61 })).room s m ([.ref (ad 2), .ref a, .ref b, .ref d] : List Value).toArray below meth c H [] 0 0 (MQ below (va_Qv (fun (_ : Unit) => True) (fun _ t => va_P (dC, dI) vwCl (cW ad g ck L pr (nI 0)) t.heap) A) ([.ref (ad 2), .ref a, .ref b, .ref d] : List Value).toArray s 0 0 A) (F0 m 0 ls []) by rw [hHe] at hgo; exact hgo
  refine lv_aload_n hx hb dX2_commonDivisor_0 rfl (lv_at hl 0 rfl) ?_
  refine va_get (D := (dC, dI)) (ci := 3) (v := .ref (ad 8)) (C := RX2) (T := TX2) (N := 4) hx hb hts hinX2 hown hK hP 2 rfl rfl 2 (by decide) (hts (.fieldLink RX2 19 "ResidueRows$Residues" "dividend" "[I") (by decide +kernel)) (fun _ h9 => h9) rfl dX2_commonDivisor_1 ?_
  refine lv_astore (lv' := [(4, .ref (ad 8)), (0, .ref (ad 2)), (1, .ref a), (2, .ref b), (3, .ref d)]) hx hb dX2_commonDivisor_4 hl (by decide) rfl (fun ls hl => ?_)
  refine lv_aload_n hx hb dX2_commonDivisor_6 rfl (lv_at hl 1 rfl) ?_
  refine va_get (D := (dC, dI)) (ci := 3) (v := .ref (ad 9)) (C := RX2) (T := TX2) (N := 4) hx hb hts hinX2 hown hK hP 2 rfl rfl 3 (by decide) (hts (.fieldLink RX2 23 "ResidueRows$Residues" "divisor" "[I") (by decide +kernel)) (fun _ h9 => h9) rfl dX2_commonDivisor_7 ?_
  refine lv_astore (lv' := [(5, .ref (ad 9)), (4, .ref (ad 8)), (0, .ref (ad 2)), (1, .ref a), (2, .ref b), (3, .ref d)]) hx hb dX2_commonDivisor_10 hl (by decide) rfl (fun ls hl => ?_)
  refine lv_aload_n hx hb dX2_commonDivisor_12 rfl (lv_at hl 3 rfl) ?_
  refine lv_aload hx hb dX2_commonDivisor_13 (lv_at hl 1 rfl) ?_
  refine cc_v (va_runSN (As := [.ref a, .ref (ad 8)]) (rest := []) ⟨hx, hb, hml, hown, hts⟩ (c_X4_copy l dC dI ad g ck sa L pr hok H.size a (ad 8) ha hok.1.2.2.2.2.1) ⟨va_cnB 2 hts (gWc (by decide +kernel)) rfl rfl rfl (hX.1 (.methodLinkNest RX2 73 yX4_copy RX4) (by decide +kernel)) (hts (.initialized RX4) (by decide +kernel)) (by decide +kernel) ⟨Nat.le_of_ble_eq_true rfl, Nat.le_of_ble_eq_true rfl⟩, (hts (.static yX4_copy) (by decide +kernel)), trivial⟩ ⟨cP_blind, cP_of hP hK hD hS hA hX⟩ rfl rfl hl.1 rfl (lv_room (Nat.le_of_ble_eq_true rfl)) dX2_commonDivisor_15 ⟨Nat.le_of_ble_eq_true rfl, Nat.le_of_ble_eq_true rfl⟩) hS (cF hD hS hA) (fun H locs hw_1 hP hS => ?_)
  refine lv_aload_n hx hb dX2_commonDivisor_18 rfl (lv_at hl 4 rfl) ?_
  refine lv_aload hx hb dX2_commonDivisor_19 (lv_at hl 0 rfl) ?_
  refine cc_v (va_runSN (As := [.ref b, .ref (ad 9)]) (rest := []) ⟨hx, hb, hml, hown, hts⟩ (c_X4_copy l dC dI ad g ck sa L pr hok H.size b (ad 9) hb9 hok.1.2.2.2.2.2) ⟨va_cnB 2 hts (gWc (by decide +kernel)) rfl rfl rfl (hX.1 (.methodLinkNest RX2 73 yX4_copy RX4) (by decide +kernel)) (hts (.initialized RX4) (by decide +kernel)) (by decide +kernel) ⟨Nat.le_of_ble_eq_true rfl, Nat.le_of_ble_eq_true rfl⟩, (hts (.static yX4_copy) (by decide +kernel)), trivial⟩ ⟨cP_blind, cP_of hP hK hD hS hA hX⟩ rfl rfl hl.1 rfl (lv_room (Nat.le_of_ble_eq_true rfl)) dX2_commonDivisor_21 ⟨Nat.le_of_ble_eq_true rfl, Nat.le_of_ble_eq_true rfl⟩) hS (cF hD hS hA) (fun H locs hw_2 hP hS => ?_)
  refine lv_iconst (v := nI 0) hx hb dX2_commonDivisor_24 (by decide +kernel) ?_
  refine lv_istore (lv' := [(6, .int (nI 0)), (5, .ref (ad 9)), (4, .ref (ad 8)), (0, .ref (ad 2)), (1, .ref a), (2, .ref b), (3, .ref d)]) hx hb dX2_commonDivisor_25 hl (by decide) rfl (fun ls hl => ?_)
  refine lv_iload hx hb dX2_commonDivisor_27 (lv_at hl 0 rfl) ?_
  refine lv_bipush (v := nI 32) hx hb dX2_commonDivisor_29 (by decide +kernel) ?_
  refine lv_icmp_gt (tgt := 80) hx hb dX2_commonDivisor_31 (by decide) (fun hcc => absurd hcc (nI_nlt (by decide) (by decide))) (fun _ => ?_)
  refine lv_aload hx hb dX2_commonDivisor_34 (lv_at hl 1 rfl) ?_
  refine cc_i (va_runSN (As := [.ref (ad 9)]) (rest := []) ⟨hx, hb, hml, hown, hts⟩ (c_X4_degree l dC dI ad g ck sa L pr hok H.size (ad 9) hok.1.2.2.2.2.2) ⟨va_cnB 1 hts (gWc (by decide +kernel)) rfl rfl rfl (hX.1 (.methodLinkNest RX2 32 yX4_degree RX4) (by decide +kernel)) (hts (.initialized RX4) (by decide +kernel)) (by decide +kernel) ⟨Nat.le_of_ble_eq_true rfl, Nat.le_of_ble_eq_true rfl⟩, (hts (.static yX4_degree) (by decide +kernel)), trivial⟩ ⟨cP_blind, cP_of hP hK hD hS hA hX⟩ rfl rfl hl.1 rfl (lv_room (Nat.le_of_ble_eq_true rfl)) dX2_commonDivisor_36 ⟨Nat.le_of_ble_eq_true rfl, Nat.le_of_ble_eq_true rfl⟩) hS (cF hD hS hA) (fun r_4 H locs hw_3 hP hS => ?_)
  subst hw_3
  refine lv_if_lt (tgt := 80) hx hb dX2_commonDivisor_39 (by decide) (fun _ => ?_) (fun hcc => absurd (by decide) hcc)
  refine lv_aload_n hx hb dX2_commonDivisor_80 rfl (lv_at hl 3 rfl) ?_
  refine lv_aload hx hb dX2_commonDivisor_81 (lv_at hl 2 rfl) ?_
  refine cc_v (va_runV (As := [.ref (ad 8)]) (rest := []) ⟨hx, hb, hml, hown, hts⟩ (c_X2_makeMonic l dC dI ad g ck sa L pr hok H.size (ad 8) hok.1.2.2.2.2.1) (cwV 1 hts (gWv (by decide +kernel)) rfl rfl rfl (by decide +kernel) ⟨Nat.le_of_ble_eq_true rfl, Nat.le_of_ble_eq_true rfl⟩) ⟨cP_blind, va_recv hK hP (ci := 3) (q0 := 2) rfl rfl, cP_of hP hK hD hS hA hX⟩ rfl rfl hl.1 rfl (lv_room (Nat.le_of_ble_eq_true rfl)) dX2_commonDivisor_83 ⟨Nat.le_of_ble_eq_true rfl, Nat.le_of_ble_eq_true rfl⟩) hS (cF hD hS hA) (fun H locs hw_5 hP hS => ?_)
  refine lv_aload hx hb dX2_commonDivisor_86 (lv_at hl 2 rfl) ?_
  refine lv_aload_n hx hb dX2_commonDivisor_88 rfl (lv_at hl 6 rfl) ?_
  refine cc_v (va_runSN (As := [.ref (ad 8), .ref d]) (rest := []) ⟨hx, hb, hml, hown, hts⟩ (c_X4_copy l dC dI ad g ck sa L pr hok H.size (ad 8) d hok.1.2.2.2.2.1 hd) ⟨va_cnB 2 hts (gWc (by decide +kernel)) rfl rfl rfl (hX.1 (.methodLinkNest RX2 73 yX4_copy RX4) (by decide +kernel)) (hts (.initialized RX4) (by decide +kernel)) (by decide +kernel) ⟨Nat.le_of_ble_eq_true rfl, Nat.le_of_ble_eq_true rfl⟩, (hts (.static yX4_copy) (by decide +kernel)), trivial⟩ ⟨cP_blind, cP_of hP hK hD hS hA hX⟩ rfl rfl hl.1 rfl (lv_room (Nat.le_of_ble_eq_true rfl)) dX2_commonDivisor_89 ⟨Nat.le_of_ble_eq_true rfl, Nat.le_of_ble_eq_true rfl⟩) hS (cF hD hS hA) (fun H locs hw_6 hP hS => ?_)
  refine W.vret hx hb hr (fun t ht hW => eQv ?_ hP ht (hS.F ht)) hS.2.2 dX2_commonDivisor_92
  exact trivial
