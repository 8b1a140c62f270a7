abbrev vL_poly : List Cond := .codeWith yL_poly cL_poly 3 (some .int) [(0, 8, 11, 13)] :: lWS
set_option maxHeartbeats 4000000 in
set_option maxRecDepth 100000 in
/-- poly -/
theorem c_L_poly (l : Launch) (hnt : l.stackTraces = false) (dC : Nat → ClassId) (dI : Nat → Nat → Nat) (ad : Nat → Nat) (g : Nat → Option Nat) (ck : Nat → ClassId) (sa : Nat → Nat) (L : List Nat) (pr : Nat) (hok : cOk ad g L pr) (o sz : Nat) : Met l yL_poly vL_poly ({ frames := 4, cells := 0, slots := 0, locals := 103 }) (va_Pc [.ref (ad 0), .ref o] (fun U => cP (dC, dI) ck sa (((o, zL (ck 1) 1) :: cwX ad g ck pr (nI 0)) ++ va_pl L (fun _ => zI (ck 0))) sz U ∧ lNc U)) (va_Qi (fun (k9 : Int32) (f9 : Nat → Int64) => (k9 = nI 0 ∧ ∃ r : Int32, (fun r => r = nI 0) r ∧ f9 0 = r.toInt64)) (fun (f9 : Nat → Int64) t => va_P (dC, dI) vwCl [(o, .inl (ck 1, 1, .inr (.inl f9)))] t.heap) (va_A (((o, zL (ck 1) 1) :: cwX ad g ck pr (nI 0)) ++ va_pl L (fun _ => zI (ck 0))) sz)) 0 0 (va_A (((o, zL (ck 1) 1) :: cwX ad g ck pr (nI 0)) ++ va_pl L (fun _ => zI (ck 0))) sz) := by
  refine va_MetW (cc := cL_poly) (maxL := 3) (ret := (some .int)) (hh := [(0, 8, 11, 13)]) (by decide +kernel) rfl ?_
  intro p e s m args below meth c s₁ B hml hv
  obtain ⟨rfl, ⟨hsz, hP, hK, hD0, hX⟩, hN9⟩ := hv
  have hx := B.exec
  have hb := B.bytes
  have hr := B.returns
  have hts := atoms_spec (ws := vL_poly) B.pre
  have htab := vx_table (x := yL_poly) B (hts (.codeWith yL_poly cL_poly 3 (some .int) [(0, 8, 11, 13)]) List.mem_cons_self)
  have hown : s.vm.findClass RL = some m.cls := findClass_of_methodNamed B.named
  have hlocks := B.notSynchronized
  subst hsz
  have hD := hD0.self (sz := s.heap.size)
  generalize hAe : va_A (((o, zL (ck 1) 1) :: cwX ad g ck pr (nI 0)) ++ va_pl L (fun _ => zI (ck 0))) s.heap.size = A at hD hX ⊢
  have hA : ∀ q : Nat, s.heap.size ≤ q → A q := fun q h => by rw [← hAe]; exact Or.inr h
  have hS : va_S A s.heap s.heap [] := va_S.rf
  have hl := lv_entry ([.ref (ad 0), .ref o]) (n := 3) (Nat.le_of_ble_eq_true rfl)
  rw [lg_entry_eq]
  generalize (lg_sl ([.ref (ad 0), .ref o]) ++ List.replicate (3 - (lg_sl ([.ref (ad 0), .ref o])).length) Slot.unset).toArray = ls at hl ⊢
  have hl : lv_has ls 3 [(0, .ref (ad 0)), (1, .ref o)] := hl
  obtain ⟨H, hHe⟩ : ∃ H : Heap, H = s.heap := ⟨_, rfl⟩
  have hP : va_P (dC, dI) vwCl (((o, zL (ck 1) 1) :: cwX ad g ck pr (nI 0)) ++ va_pl L (fun _ => zI (ck 0))) H := by rw [hHe]; exact hP
  have hS : va_S A s.heap H [] := by rw [hHe]; exact hS
  suffices hgo : W p l e (headSpec vL_poly ({ frames := 4, cells := 0, slots := 0, locals := 103 })).room s m ([.ref (ad 0), .ref o] : List Value).toArray below meth c H [] 0 0 (MQ below (va_Qi (fun (k9 : Int32) (f9 : Nat → Int64) => (k9 = nI 0 ∧ ∃ r : Int32, (fun r => r = nI 0) r ∧ f9 0 = r.toInt64)) (fun (f9 : Nat → Int64) t => va_P (dC, dI) vwCl [(o, .inl (ck 1, 1, .inr (.inl f9)))] t.heap) A) ([.ref (ad 0), .ref o] : List Value).toArray s 0 0 A) (F0 m 0 ls []) by rw [hHe] at hgo; exact hgo
  have hPc : va_P (dC, dI) vwCl (cW ad g ck L pr (nI 0)) H := va_P.part (X := (o, zL (ck 1) 1) :: cwX ad g ck pr (nI 0)) hP [1, 2, 3, 4, 5] rfl
  have hDc : va_D A (cW ad g ck L pr (nI 0)) := va_D.part (X := (o, zL (ck 1) 1) :: cwX ad g ck pr (nI 0)) hD [1, 2, 3, 4, 5] (by decide) rfl
  have hoN : ¬ va_A (cW ad g ck L pr (nI 0)) H.size o := out_apart hP hD
  have hPo : va_P (dC, dI) vwCl [(o, zL (ck 1) 1)] H := fun k9 q9 h9 => hP k9 q9 (out_first h9)
  have hDo : va_D A [(o, zL (ck 1) 1)] := out_one (hD.2 0 _ rfl)
  refine lv_aload_n hx hb dL_poly_0 rfl (lv_at hl 1 rfl) ?_
  refine lv_iconst (v := nI 0) hx hb dL_poly_1 (by decide +kernel) ?_
  refine lv_aload_n hx hb dL_poly_2 rfl (lv_at hl 0 rfl) ?_
  refine va_calli (va_runV (As := []) (rest := [.int (nI 0), .ref o]) ⟨hx, hb, hml, hown, hts⟩ (c_X4_poly l dC dI ad g ck sa L pr hok H.size ) (cwV 0 hts (gLv (by decide +kernel)) rfl rfl rfl (by decide +kernel) ⟨Nat.le_of_ble_eq_true rfl, Nat.le_of_ble_eq_true rfl⟩) ⟨cP_blind, va_recv hK hPc (ci := 5) (q0 := 0) rfl rfl, cP_of hPc hK hDc hS hA hX⟩ rfl rfl hl.1 rfl (lv_room (Nat.le_of_ble_eq_true rfl)) dL_poly_3 ⟨Nat.le_of_ble_eq_true rfl, Nat.le_of_ble_eq_true rfl⟩) hS (fun q _ h => cF hDc hS hA q h) (cF hDc hS hA) (fun r0 u t H1 locs1 ht hvm hw hB hz hk hS => ?_)
  have hPo : va_P (dC, dI) vwCl [(o, zL (ck 1) 1)] H1 := out_kept hPo hoN hk
  generalize H1 = H at hPo hS ⊢
  refine lv_i2l (v := r0.toInt64) hx hb dL_poly_6 (rfl) ?_
  refine va_last hx hb hK hPo hDo hS 0 1 rfl rfl (vp_in_nI (by decide) (by decide)) dL_poly_7 (fun H locs hPo hDo hS => ?_)
  have hPo : va_P (dC, dI) vwCl [(o, .inl (ck 1, 1, .inr (.inl (vp_updL (fun _ => 0) (nI 0).toNatClampNeg r0.toInt64))))] H := hPo
  refine lv_goto (tgt := 14) hx hb dL_poly_8 (by decide) ?_
  refine lv_iconst (v := nI 0) hx hb dL_poly_14 (by decide +kernel) ?_
  refine W.widen (k := 0) (n := 0) (by decide) (by decide) ?_
  refine W.iret hx hb hr (fun t ht hW => ⟨⟨_, _, rfl, ?_, by show va_P _ _ _ t.heap; rw [ht]; exact hPo⟩, hS.F ht⟩) hS.2.2 dL_poly_15
  exact ⟨rfl, r0, hw, pk_uLs⟩

abbrev vL_set : List Cond := .codeWith yL_set cL_set 6 (some .int) [(0, 19, 22, 19)] :: lWS
set_option maxHeartbeats 4000000 in
set_option maxRecDepth 100000 in
/-- set -/
theorem c_L_set (l : Launch) (hnt : l.stackTraces = false) (dC : Nat → ClassId) (dI : Nat → Nat → Nat) (ad : Nat → Nat) (g : Nat → Option Nat) (ck : Nat → ClassId) (sa : Nat → Nat) (L : List Nat) (pr : Nat) (hok : cOk ad g L pr) (o sz : Nat) (p0 p1 p2 : Int32) : Met l yL_set vL_set ({ frames := 9, cells := 2, slots := 12, locals := 149 }) (va_Pc [.ref (ad 0), .int p0, .int p1, .int p2, .ref o] (fun U => cP (dC, dI) ck sa (((o, zL (ck 1) 1) :: cwX ad g ck pr (nI 0)) ++ va_pl L (fun _ => zI (ck 0))) sz U ∧ lNc U)) (va_Qi (fun (k9 : Int32) (f9 : Nat → Int64) => (k9 = nI 0 ∧ ∃ r : Int32, (fun r => inR p0 96 ∧ inR p1 32 ∧ ((r = nI 1 ∧ (p2.toInt % pr).toNat ≠ 0) ∨ (r = nI 0 ∧ (p2.toInt % pr).toNat = 0))) r ∧ ((r = nI 1 ∧ f9 0 = lN 1) ∨ (r = nI 0 ∧ f9 0 = lN 0))) ∨ (k9 = nI 1 ∧ ¬ (inR p0 96 ∧ inR p1 32))) (fun (f9 : Nat → Int64) t => va_P (dC, dI) vwCl [(o, .inl (ck 1, 1, .inr (.inl f9)))] t.heap) (va_A (((o, zL (ck 1) 1) :: cwX ad g ck pr (nI 0)) ++ va_pl L (fun _ => zI (ck 0))) sz)) 2 12 (va_A (((o, zL (ck 1) 1) :: cwX ad g ck pr (nI 0)) ++ va_pl L (fun _ => zI (ck 0))) sz) := by
  refine va_MetW (cc := cL_set) (maxL := 6) (ret := (some .int)) (hh := [(0, 19, 22, 19)]) (by decide +kernel) rfl ?_
  intro p e s m args below meth c s₁ B hml hv
  obtain ⟨rfl, ⟨hsz, hP, hK, hD0, hX⟩, hN9⟩ := hv
  have hx := B.exec
  have hb := B.bytes
  have hr := B.returns
  have hts := atoms_spec (ws := vL_set) B.pre
  have htab := vx_table (x := yL_set) B (hts (.codeWith yL_set cL_set 6 (some .int) [(0, 19, 22, 19)]) List.mem_cons_self)
  have hown : s.vm.findClass RL = some m.cls := findClass_of_methodNamed B.named
  have hlocks := B.notSynchronized
  subst hsz
  have hD := hD0.self (sz := s.heap.size)
  generalize hAe : va_A (((o, zL (ck 1) 1) :: cwX ad g ck pr (nI 0)) ++ va_pl L (fun _ => zI (ck 0))) s.heap.size = A at hD hX ⊢
  have hA : ∀ q : Nat, s.heap.size ≤ q → A q := fun q h => by rw [← hAe]; exact Or.inr h
  have hS : va_S A s.heap s.heap [] := va_S.rf
  have hl := lv_entry ([.ref (ad 0), .int p0, .int p1, .int p2, .ref o]) (n := 6) (Nat.le_of_ble_eq_true rfl)
  rw [lg_entry_eq]
  generalize (lg_sl ([.ref (ad 0), .int p0, .int p1, .int p2, .ref o]) ++ List.replicate (6 - (lg_sl ([.ref (ad 0), .int p0, .int p1, .int p2, .ref o])).length) Slot.unset).toArray = ls at hl ⊢
  have hl : lv_has ls 6 [(0, .ref (ad 0)), (1, .int p0), (2, .int p1), (3, .int p2), (4, .ref o)] := hl
  obtain ⟨H, hHe⟩ : ∃ H : Heap, H = s.heap := ⟨_, rfl⟩
  have hP : va_P (dC, dI) vwCl (((o, zL (ck 1) 1) :: cwX ad g ck pr (nI 0)) ++ va_pl L (fun _ => zI (ck 0))) H := by rw [hHe]; exact hP
  have hS : va_S A s.heap H [] := by rw [hHe]; exact hS
  suffices hgo : W p l e (headSpec vL_set ({ frames := 9, cells := 2, slots := 12, locals := 149 })).room s m ([.ref (ad 0), .int p0, .int p1, .int p2, .ref o] : List Value).toArray below meth c H [] 0 0 (MQ below (va_Qi (fun (k9 : Int32) (f9 : Nat → Int64) => (k9 = nI 0 ∧ ∃ r : Int32, (fun r => inR p0 96 ∧ inR p1 32 ∧ ((r = nI 1 ∧ (p2.toInt % pr).toNat ≠ 0) ∨ (r = nI 0 ∧ (p2.toInt % pr).toNat = 0))) r ∧ ((r = nI 1 ∧ f9 0 = lN 1) ∨ (r = nI 0 ∧ f9 0 = lN 0))) ∨ (k9 = nI 1 ∧ ¬ (inR p0 96 ∧ inR p1 32))) (fun (f9 : Nat → Int64) t => va_P (dC, dI) vwCl [(o, .inl (ck 1, 1, .inr (.inl f9)))] t.heap) A) ([.ref (ad 0), .int p0, .int p1, .int p2, .ref o] : List Value).toArray s 2 12 A) (F0 m 0 ls []) by rw [hHe] at hgo; exact hgo
  have hPc : va_P (dC, dI) vwCl (cW ad g ck L pr (nI 0)) H := va_P.part (X := (o, zL (ck 1) 1) :: cwX ad g ck pr (nI 0)) hP [1, 2, 3, 4, 5] rfl
  have hDc : va_D A (cW ad g ck L pr (nI 0)) := va_D.part (X := (o, zL (ck 1) 1) :: cwX ad g ck pr (nI 0)) hD [1, 2, 3, 4, 5] (by decide) rfl
  have hoN : ¬ va_A (cW ad g ck L pr (nI 0)) H.size o := out_apart hP hD
  have hPo : va_P (dC, dI) vwCl [(o, zL (ck 1) 1)] H := fun k9 q9 h9 => hP k9 q9 (out_first h9)
  have hDo : va_D A [(o, zL (ck 1) 1)] := out_one (hD.2 0 _ rfl)
  refine lv_aload hx hb dL_set_0 (lv_at hl 4 rfl) ?_
  refine lv_iconst (v := nI 0) hx hb dL_set_2 (by decide +kernel) ?_
  refine lv_aload_n hx hb dL_set_3 rfl (lv_at hl 0 rfl) ?_
  refine lv_iload_n hx hb dL_set_4 rfl (lv_at hl 1 rfl) ?_
  refine lv_iload_n hx hb dL_set_5 rfl (lv_at hl 2 rfl) ?_
  refine lv_iload_n hx hb dL_set_6 rfl (lv_at hl 3 rfl) ?_
  refine vx_calli (vx_runV (As := [.int p0, .int p1, .int p2]) (rest := [.int (nI 0), .ref o]) ⟨hx, hb, hml, hown, hts⟩ (c_X4_set l hnt dC dI ad g ck sa L pr hok H.size p0 p1 p2) (cwV 3 hts (gLv (by decide +kernel)) rfl rfl rfl (by decide +kernel) ⟨Nat.le_of_ble_eq_true rfl, Nat.le_of_ble_eq_true rfl⟩) ⟨cP_blind, va_recv hK hPc (ci := 5) (q0 := 0) rfl rfl, cP_of hPc hK hDc hS hA hX⟩ rfl rfl hl.1 rfl (lv_room (Nat.le_of_ble_eq_true rfl)) dL_set_7 ⟨Nat.le_of_ble_eq_true rfl, Nat.le_of_ble_eq_true rfl⟩) hS (fun q _ h => cF hDc hS hA q h) (cF hDc hS hA) (fun q _ h => cF hDc hS hA q h) (fun E ce q9 u t H1 locs1 ht hvm hpx hE hz hk hS h1 h2 h3 => ?_) (fun r0 u t H1 locs1 ht hvm hw hB hz hk hS => ?_)
  · have hPo : va_P (dC, dI) vwCl [(o, zL (ck 1) 1)] H1 := out_kept hPo hoN hk
    generalize H1 = H at hPo hS h1 ⊢
    obtain ⟨rfl, hE⟩ := hE
    refine vx_catch (pc := 7) (name := nmA) hown [] ⟨0, 19, 22, 19⟩ [] (htab.trans rfl) (fun z hz => nomatch hz) (by decide) (by decide) (hts (.classLink RL 19 nmA) (by decide +kernel)) (va_Nw.use rfl (hX.1 (.castable nmA nmA) (by decide +kernel))) h1 h2 h3 ?_
    refine lv_astore (lv' := [(5, .ref q9), (0, .ref (ad 0)), (1, .int p0), (2, .int p1), (3, .int p2), (4, .ref o)]) hx hb dL_set_22 hl (by decide) rfl (fun ls hl => ?_)
    refine lv_iconst (v := nI 1) hx hb dL_set_24 (by decide +kernel) ?_
    refine W.widen (k := 2) (n := 12) (by decide) (by decide) ?_
    refine W.iret hx hb hr (fun t ht hW => ⟨⟨_, _, rfl, ?_, by show va_P _ _ _ t.heap; rw [ht]; exact hPo⟩, hS.F ht⟩) hS.2.2 dL_set_25
    exact Or.inr ⟨rfl, hE⟩
  have hPo : va_P (dC, dI) vwCl [(o, zL (ck 1) 1)] H1 := out_kept hPo hoN hk
  generalize H1 = H at hPo hS ⊢
  rcases id hw with ⟨-, -, ⟨e9, -⟩ | ⟨e9, -⟩⟩
  · subst e9
    refine lv_if_eq (tgt := 17) hx hb dL_set_10 (by decide) (fun hcc => absurd hcc (by decide +kernel)) (fun _ => ?_)
    refine lv_lconst (v := lN 1) hx hb dL_set_13 (by decide +kernel) ?_
    refine lv_goto (tgt := 18) hx hb dL_set_14 (by decide) ?_
    refine va_last hx hb hK hPo hDo hS 0 1 rfl rfl (vp_in_nI (by decide) (by decide)) dL_set_18 (fun H locs hPo hDo hS => ?_)
    have hPo : va_P (dC, dI) vwCl [(o, .inl (ck 1, 1, .inr (.inl (vp_updL (fun _ => 0) (nI 0).toNatClampNeg (lN 1)))))] H := hPo
    refine lv_goto (tgt := 26) hx hb dL_set_19 (by decide) ?_
    refine lv_iconst (v := nI 0) hx hb dL_set_26 (by decide +kernel) ?_
    refine W.widen (k := 2) (n := 12) (by decide) (by decide) ?_
    refine W.iret hx hb hr (fun t ht hW => ⟨⟨_, _, rfl, ?_, by show va_P _ _ _ t.heap; rw [ht]; exact hPo⟩, hS.F ht⟩) hS.2.2 dL_set_27
    exact Or.inl ⟨rfl, _, hw, Or.inl ⟨rfl, pk_uLs⟩⟩
  · subst e9
    refine lv_if_eq (tgt := 17) hx hb dL_set_10 (by decide) (fun _ => ?_) (fun hcc => absurd (by decide +kernel) hcc)
    refine lv_lconst (v := lN 0) hx hb dL_set_17 (by decide +kernel) ?_
    refine va_last hx hb hK hPo hDo hS 0 1 rfl rfl (vp_in_nI (by decide) (by decide)) dL_set_18 (fun H locs hPo hDo hS => ?_)
    have hPo : va_P (dC, dI) vwCl [(o, .inl (ck 1, 1, .inr (.inl (vp_updL (fun _ => 0) (nI 0).toNatClampNeg (lN 0)))))] H := hPo
    refine lv_goto (tgt := 26) hx hb dL_set_19 (by decide) ?_
    refine lv_iconst (v := nI 0) hx hb dL_set_26 (by decide +kernel) ?_
    refine W.widen (k := 2) (n := 12) (by decide) (by decide) ?_
    refine W.iret hx hb hr (fun t ht hW => ⟨⟨_, _, rfl, ?_, by show va_P _ _ _ t.heap; rw [ht]; exact hPo⟩, hS.F ht⟩) hS.2.2 dL_set_27
    exact Or.inl ⟨rfl, _, hw, Or.inr ⟨rfl, pk_uLs⟩⟩

abbrev vL_times : List Cond := .codeWith yL_times cL_times 5 (some .int) [(0, 10, 13, 19), (0, 10, 17, 13), (0, 10, 21, 25)] :: lWS
set_option maxHeartbeats 4000000 in
set_option maxRecDepth 100000 in
/-- times -/
theorem c_L_times (l : Launch) (hnt : l.stackTraces = false) (dC : Nat → ClassId) (dI : Nat → Nat → Nat) (ad : Nat → Nat) (g : Nat → Option Nat) (ck : Nat → ClassId) (sa : Nat → Nat) (L : List Nat) (pr : Nat) (hok : cOk ad g L pr) (o sz : Nat) (p0 p1 : Int32) : Met l yL_times vL_times ({ frames := 9, cells := 2, slots := 12, locals := 146 }) (va_Pc [.ref (ad 0), .int p0, .int p1, .ref o] (fun U => cP (dC, dI) ck sa (((o, zL (ck 1) 1) :: cwX ad g ck pr (nI 0)) ++ va_pl L (fun _ => zI (ck 0))) sz U ∧ lNc U)) (va_Qi (fun (k9 : Int32) (f9 : Nat → Int64) => (k9 = nI 0 ∧ ∃ r : Int32, (fun r => inR p0 96 ∧ inR p1 96 ∧ r = nI 0) r ∧ f9 0 = r.toInt64) ∨ (k9 = nI 1 ∧ ¬ (inR p0 96 ∧ inR p1 96))) (fun (f9 : Nat → Int64) t => va_P (dC, dI) vwCl [(o, .inl (ck 1, 1, .inr (.inl f9)))] t.heap) (va_A (((o, zL (ck 1) 1) :: cwX ad g ck pr (nI 0)) ++ va_pl L (fun _ => zI (ck 0))) sz)) 2 12 (va_A (((o, zL (ck 1) 1) :: cwX ad g ck pr (nI 0)) ++ va_pl L (fun _ => zI (ck 0))) sz) := by
  refine va_MetW (cc := cL_times) (maxL := 5) (ret := (some .int)) (hh := [(0, 10, 13, 19), (0, 10, 17, 13), (0, 10, 21, 25)]) (by decide +kernel) rfl ?_
  intro p e s m args below meth c s₁ B hml hv
  obtain ⟨rfl, ⟨hsz, hP, hK, hD0, hX⟩, hN9⟩ := hv
  have hx := B.exec
  have hb := B.bytes
  have hr := B.returns
  have hts := atoms_spec (ws := vL_times) B.pre
  have htab := vx_table (x := yL_times) B (hts (.codeWith yL_times cL_times 5 (some .int) [(0, 10, 13, 19), (0, 10, 17, 13), (0, 10, 21, 25)]) List.mem_cons_self)
  have hown : s.vm.findClass RL = some m.cls := findClass_of_methodNamed B.named
  have hlocks := B.notSynchronized
  subst hsz
  have hD := hD0.self (sz := s.heap.size)
  generalize hAe : va_A (((o, zL (ck 1) 1) :: cwX ad g ck pr (nI 0)) ++ va_pl L (fun _ => zI (ck 0))) s.heap.size = A at hD hX ⊢
  have hA : ∀ q : Nat, s.heap.size ≤ q → A q := fun q h => by rw [← hAe]; exact Or.inr h
  have hS : va_S A s.heap s.heap [] := va_S.rf
  have hl := lv_entry ([.ref (ad 0), .int p0, .int p1, .ref o]) (n := 5) (Nat.le_of_ble_eq_true rfl)
  rw [lg_entry_eq]
  generalize (lg_sl ([.ref (ad 0), .int p0, .int p1, .ref o]) ++ List.replicate (5 - (lg_sl ([.ref (ad 0), .int p0, .int p1, .ref o])).length) Slot.unset).toArray = ls at hl ⊢
  have hl : lv_has ls 5 [(0, .ref (ad 0)), (1, .int p0), (2, .int p1), (3, .ref o)] := hl
  obtain ⟨H, hHe⟩ : ∃ H : Heap, H = s.heap := ⟨_, rfl⟩
  have hP : va_P (dC, dI) vwCl (((o, zL (ck 1) 1) :: cwX ad g ck pr (nI 0)) ++ va_pl L (fun _ => zI (ck 0))) H := by rw [hHe]; exact hP
  have hS : va_S A s.heap H [] := by rw [hHe]; exact hS
  suffices hgo : W p l e (headSpec vL_times ({ frames := 9, cells := 2, slots := 12, locals := 146 })).room s m ([.ref (ad 0), .int p0, .int p1, .ref o] : List Value).toArray below meth c H [] 0 0 (MQ below (va_Qi (fun (k9 : Int32) (f9 : Nat → Int64) => (k9 = nI 0 ∧ ∃ r : Int32, (fun r => inR p0 96 ∧ inR p1 96 ∧ r = nI 0) r ∧ f9 0 = r.toInt64) ∨ (k9 = nI 1 ∧ ¬ (inR p0 96 ∧ inR p1 96))) (fun (f9 : Nat → Int64) t => va_P (dC, dI) vwCl [(o, .inl (ck 1, 1, .inr (.inl f9)))] t.heap) A) ([.ref (ad 0), .int p0, .int p1, .ref o] : List Value).toArray s 2 12 A) (F0 m 0 ls []) by rw [hHe] at hgo; exact hgo
  have hPc : va_P (dC, dI) vwCl (cW ad g ck L pr (nI 0)) H := va_P.part (X := (o, zL (ck 1) 1) :: cwX ad g ck pr (nI 0)) hP [1, 2, 3, 4, 5] rfl
  have hDc : va_D A (cW ad g ck L pr (nI 0)) := va_D.part (X := (o, zL (ck 1) 1) :: cwX ad g ck pr (nI 0)) hD [1, 2, 3, 4, 5] (by decide) rfl
  have hoN : ¬ va_A (cW ad g ck L pr (nI 0)) H.size o := out_apart hP hD
  have hPo : va_P (dC, dI) vwCl [(o, zL (ck 1) 1)] H := fun k9 q9 h9 => hP k9 q9 (out_first h9)
  have hDo : va_D A [(o, zL (ck 1) 1)] := out_one (hD.2 0 _ rfl)
  refine lv_aload_n hx hb dL_times_0 rfl (lv_at hl 3 rfl) ?_
  refine lv_iconst (v := nI 0) hx hb dL_times_1 (by decide +kernel) ?_
  refine lv_aload_n hx hb dL_times_2 rfl (lv_at hl 0 rfl) ?_
  refine lv_iload_n hx hb dL_times_3 rfl (lv_at hl 1 rfl) ?_
  refine lv_iload_n hx hb dL_times_4 rfl (lv_at hl 2 rfl) ?_
  refine vx_calli (vx_runV (As := [.int p0, .int p1]) (rest := [.int (nI 0), .ref o]) ⟨hx, hb, hml, hown, hts⟩ (c_X4_times l hnt dC dI ad g ck sa L pr hok H.size p0 p1) (cwV 2 hts (gLv (by decide +kernel)) rfl rfl rfl (by decide +kernel) ⟨Nat.le_of_ble_eq_true rfl, Nat.le_of_ble_eq_true rfl⟩) ⟨cP_blind, va_recv hK hPc (ci := 5) (q0 := 0) rfl rfl, cP_of hPc hK hDc hS hA hX⟩ rfl rfl hl.1 rfl (lv_room (Nat.le_of_ble_eq_true rfl)) dL_times_5 ⟨Nat.le_of_ble_eq_true rfl, Nat.le_of_ble_eq_true rfl⟩) hS (fun q _ h => cF hDc hS hA q h) (cF hDc hS hA) (fun q _ h => cF hDc hS hA q h) (fun E ce q9 u t H1 locs1 ht hvm hpx hE hz hk hS h1 h2 h3 => ?_) (fun r0 u t H1 locs1 ht hvm hw hB hz hk hS => ?_)
  · have hPo : va_P (dC, dI) vwCl [(o, zL (ck 1) 1)] H1 := out_kept hPo hoN hk
    generalize H1 = H at hPo hS h1 ⊢
    obtain ⟨rfl, hE⟩ := hE
    refine vx_catch (pc := 5) (name := nmA) hown [] ⟨0, 10, 13, 19⟩ [⟨0, 10, 17, 13⟩, ⟨0, 10, 21, 25⟩] (htab.trans rfl) (fun z hz => nomatch hz) (by decide) (by decide) (hts (.classLink RL 19 nmA) (by decide +kernel)) (va_Nw.use rfl (hX.1 (.castable nmA nmA) (by decide +kernel))) h1 h2 h3 ?_
    refine lv_astore (lv' := [(4, .ref q9), (0, .ref (ad 0)), (1, .int p0), (2, .int p1), (3, .ref o)]) hx hb dL_times_13 hl (by decide) rfl (fun ls hl => ?_)
    refine lv_iconst (v := nI 1) hx hb dL_times_15 (by decide +kernel) ?_
    refine W.widen (k := 2) (n := 12) (by decide) (by decide) ?_
    refine W.iret hx hb hr (fun t ht hW => ⟨⟨_, _, rfl, ?_, by show va_P _ _ _ t.heap; rw [ht]; exact hPo⟩, hS.F ht⟩) hS.2.2 dL_times_16
    exact Or.inr ⟨rfl, hE⟩
  have hPo : va_P (dC, dI) vwCl [(o, zL (ck 1) 1)] H1 := out_kept hPo hoN hk
  generalize H1 = H at hPo hS ⊢
  refine lv_i2l (v := r0.toInt64) hx hb dL_times_8 (rfl) ?_
  refine va_last hx hb hK hPo hDo hS 0 1 rfl rfl (vp_in_nI (by decide) (by decide)) dL_times_9 (fun H locs hPo hDo hS => ?_)
  have hPo : va_P (dC, dI) vwCl [(o, .inl (ck 1, 1, .inr (.inl (vp_updL (fun _ => 0) (nI 0).toNatClampNeg r0.toInt64))))] H := hPo
  refine lv_goto (tgt := 25) hx hb dL_times_10 (by decide) ?_
  refine lv_iconst (v := nI 0) hx hb dL_times_25 (by decide +kernel) ?_
  refine W.widen (k := 2) (n := 12) (by decide) (by decide) ?_
  refine W.iret hx hb hr (fun t ht hW => ⟨⟨_, _, rfl, ?_, by show va_P _ _ _ t.heap; rw [ht]; exact hPo⟩, hS.F ht⟩) hS.2.2 dL_times_26
  exact Or.inl ⟨rfl, r0, hw, pk_uLs⟩

abbrev vL_over : List Cond := .codeWith yL_over cL_over 6 (some .int) [(0, 12, 15, 19), (0, 12, 19, 13), (0, 12, 23, 25), (0, 12, 27, 31)] :: lWS
set_option maxHeartbeats 4000000 in
set_option maxRecDepth 100000 in
/-- over -/
theorem c_L_over (l : Launch) (hnt : l.stackTraces = false) (dC : Nat → ClassId) (dI : Nat → Nat → Nat) (ad : Nat → Nat) (g : Nat → Option Nat) (ck : Nat → ClassId) (sa : Nat → Nat) (L : List Nat) (pr : Nat) (hok : cOk ad g L pr) (o sz : Nat) (p0 p1 p2 : Int32) : Met l yL_over vL_over ({ frames := 9, cells := 3, slots := 18, locals := 150 }) (va_Pc [.ref (ad 0), .int p0, .int p1, .int p2, .ref o] (fun U => cP (dC, dI) ck sa (((o, zL (ck 1) 1) :: cwX ad g ck pr (nI 0)) ++ va_pl L (fun _ => zI (ck 0))) sz U ∧ lNc U)) (va_Qi (fun (k9 : Int32) (f9 : Nat → Int64) => (k9 = nI 0 ∧ ∃ r : Int32, (fun _ => False) r ∧ f9 0 = r.toInt64) ∨ ((k9 = nI 1 ∧ ¬ (inR p0 96 ∧ inR p1 96)) ∨ (k9 = nI 3 ∧ (inR p0 96 ∧ inR p1 96) ∧ ¬ (p2 = 0 ∨ p2 = nI 1)) ∨ (k9 = nI 4 ∧ (inR p0 96 ∧ inR p1 96) ∧ (p2 = 0 ∨ p2 = nI 1)))) (fun (f9 : Nat → Int64) t => va_P (dC, dI) vwCl [(o, .inl (ck 1, 1, .inr (.inl f9)))] t.heap) (va_A (((o, zL (ck 1) 1) :: cwX ad g ck pr (nI 0)) ++ va_pl L (fun _ => zI (ck 0))) sz)) 3 18 (va_A (((o, zL (ck 1) 1) :: cwX ad g ck pr (nI 0)) ++ va_pl L (fun _ => zI (ck 0))) sz) := by
  refine va_MetW (cc := cL_over) (maxL := 6) (ret := (some .int)) (hh := [(0, 12, 15, 19), (0, 12, 19, 13), (0, 12, 23, 25), (0, 12, 27, 31)]) (by decide +kernel) rfl ?_
  intro p e s m args below meth c s₁ B hml hv
  obtain ⟨rfl, ⟨hsz, hP, hK, hD0, hX⟩, hN9⟩ := hv
  have hx := B.exec
  have hb := B.bytes
  have hr := B.returns
  have hts := atoms_spec (ws := vL_over) B.pre
  have htab := vx_table (x := yL_over) B (hts (.codeWith yL_over cL_over 6 (some .int) [(0, 12, 15, 19), (0, 12, 19, 13), (0, 12, 23, 25), (0, 12, 27, 31)]) List.mem_cons_self)
  have hown : s.vm.findClass RL = some m.cls := findClass_of_methodNamed B.named
  have hlocks := B.notSynchronized
  subst hsz
  have hD := hD0.self (sz := s.heap.size)
  generalize hAe : va_A (((o, zL (ck 1) 1) :: cwX ad g ck pr (nI 0)) ++ va_pl L (fun _ => zI (ck 0))) s.heap.size = A at hD hX ⊢
  have hA : ∀ q : Nat, s.heap.size ≤ q → A q := fun q h => by rw [← hAe]; exact Or.inr h
  have hS : va_S A s.heap s.heap [] := va_S.rf
  have hl := lv_entry ([.ref (ad 0), .int p0, .int p1, .int p2, .ref o]) (n := 6) (Nat.le_of_ble_eq_true rfl)
  rw [lg_entry_eq]
  generalize (lg_sl ([.ref (ad 0), .int p0, .int p1, .int p2, .ref o]) ++ List.replicate (6 - (lg_sl ([.ref (ad 0), .int p0, .int p1, .int p2, .ref o])).length) Slot.unset).toArray = ls at hl ⊢
  have hl : lv_has ls 6 [(0, .ref (ad 0)), (1, .int p0), (2, .int p1), (3, .int p2), (4, .ref o)] := hl
  obtain ⟨H, hHe⟩ : ∃ H : Heap, H = s.heap := ⟨_, rfl⟩
  have hP : va_P (dC, dI) vwCl (((o, zL (ck 1) 1) :: cwX ad g ck pr (nI 0)) ++ va_pl L (fun _ => zI (ck 0))) H := by rw [hHe]; exact hP
  have hS : va_S A s.heap H [] := by rw [hHe]; exact hS
  suffices hgo : W p l e (headSpec vL_over ({ frames := 9, cells := 3, slots := 18, locals := 150 })).room s m ([.ref (ad 0), .int p0, .int p1, .int p2, .ref o] : List Value).toArray below meth c H [] 0 0 (MQ below (va_Qi (fun (k9 : Int32) (f9 : Nat → Int64) => (k9 = nI 0 ∧ ∃ r : Int32, (fun _ => False) r ∧ f9 0 = r.toInt64) ∨ ((k9 = nI 1 ∧ ¬ (inR p0 96 ∧ inR p1 96)) ∨ (k9 = nI 3 ∧ (inR p0 96 ∧ inR p1 96) ∧ ¬ (p2 = 0 ∨ p2 = nI 1)) ∨ (k9 = nI 4 ∧ (inR p0 96 ∧ inR p1 96) ∧ (p2 = 0 ∨ p2 = nI 1)))) (fun (f9 : Nat → Int64) t => va_P (dC, dI) vwCl [(o, .inl (ck 1, 1, .inr (.inl f9)))] t.heap) A) ([.ref (ad 0), .int p0, .int p1, .int p2, .ref o] : List Value).toArray s 3 18 A) (F0 m 0 ls []) by rw [hHe] at hgo; exact hgo
  have hPc : va_P (dC, dI) vwCl (cW ad g ck L pr (nI 0)) H := va_P.part (X := (o, zL (ck 1) 1) :: cwX ad g ck pr (nI 0)) hP [1, 2, 3, 4, 5] rfl
  have hDc : va_D A (cW ad g ck L pr (nI 0)) := va_D.part (X := (o, zL (ck 1) 1) :: cwX ad g ck pr (nI 0)) hD [1, 2, 3, 4, 5] (by decide) rfl
  have hoN : ¬ va_A (cW ad g ck L pr (nI 0)) H.size o := out_apart hP hD
  have hPo : va_P (dC, dI) vwCl [(o, zL (ck 1) 1)] H := fun k9 q9 h9 => hP k9 q9 (out_first h9)
  have hDo : va_D A [(o, zL (ck 1) 1)] := out_one (hD.2 0 _ rfl)
  refine lv_aload hx hb dL_over_0 (lv_at hl 4 rfl) ?_
  refine lv_iconst (v := nI 0) hx hb dL_over_2 (by decide +kernel) ?_
  refine lv_aload_n hx hb dL_over_3 rfl (lv_at hl 0 rfl) ?_
  refine lv_iload_n hx hb dL_over_4 rfl (lv_at hl 1 rfl) ?_
  refine lv_iload_n hx hb dL_over_5 rfl (lv_at hl 2 rfl) ?_
  refine lv_iload_n hx hb dL_over_6 rfl (lv_at hl 3 rfl) ?_
  refine vx_calli (vx_runV (As := [.int p0, .int p1, .int p2]) (rest := [.int (nI 0), .ref o]) ⟨hx, hb, hml, hown, hts⟩ (c_X4_over l hnt dC dI ad g ck sa L pr hok H.size p0 p1 p2) (cwV 3 hts (gLv (by decide +kernel)) rfl rfl rfl (by decide +kernel) ⟨Nat.le_of_ble_eq_true rfl, Nat.le_of_ble_eq_true rfl⟩) ⟨cP_blind, va_recv hK hPc (ci := 5) (q0 := 0) rfl rfl, cP_of hPc hK hDc hS hA hX⟩ rfl rfl hl.1 rfl (lv_room (Nat.le_of_ble_eq_true rfl)) dL_over_7 ⟨Nat.le_of_ble_eq_true rfl, Nat.le_of_ble_eq_true rfl⟩) hS (fun q _ h => cF hDc hS hA q h) (cF hDc hS hA) (fun q _ h => cF hDc hS hA q h) (fun E ce q9 u t H1 locs1 ht hvm hpx hE hz hk hS h1 h2 h3 => ?_) (fun r0 u t H1 locs1 ht hvm hw hB hz hk hS => ?_)
  · have hPo : va_P (dC, dI) vwCl [(o, zL (ck 1) 1)] H1 := out_kept hPo hoN hk
    generalize H1 = H at hPo hS h1 ⊢
    rcases hE with ⟨rfl, hE⟩ | ⟨rfl, hE⟩ | ⟨rfl, hE⟩
    · refine vx_catch (pc := 7) (name := nmA) hown [] ⟨0, 12, 15, 19⟩ [⟨0, 12, 19, 13⟩, ⟨0, 12, 23, 25⟩, ⟨0, 12, 27, 31⟩] (htab.trans rfl) (fun z hz => nomatch hz) (by decide) (by decide) (hts (.classLink RL 19 nmA) (by decide +kernel)) (va_Nw.use rfl (hX.1 (.castable nmA nmA) (by decide +kernel))) h1 h2 h3 ?_
      refine lv_astore (lv' := [(5, .ref q9), (0, .ref (ad 0)), (1, .int p0), (2, .int p1), (3, .int p2), (4, .ref o)]) hx hb dL_over_15 hl (by decide) rfl (fun ls hl => ?_)
      refine lv_iconst (v := nI 1) hx hb dL_over_17 (by decide +kernel) ?_
      refine W.widen (k := 3) (n := 18) (by decide) (by decide) ?_
      refine W.iret hx hb hr (fun t ht hW => ⟨⟨_, _, rfl, ?_, by show va_P _ _ _ t.heap; rw [ht]; exact hPo⟩, hS.F ht⟩) hS.2.2 dL_over_18
      exact Or.inr (Or.inl ⟨rfl, hE⟩)
    · have hpass : ∀ z ∈ ([⟨0, 12, 15, 19⟩, ⟨0, 12, 19, 13⟩] : List ExceptionTableEntry), covers z 7 = false ∨ (z.catchType ≠ 0 ∧ ∃ nm : String, (Cond.classLink RL z.catchType nm).before ([.ref (ad 0), .int p0, .int p1, .int p2, .ref o] : List Value).toArray s = true ∧ va_Nc nmI nm s) := by
        intro z hz
        simp only [List.mem_cons, List.not_mem_nil, or_false] at hz
        rcases hz with rfl | rfl
        · exact Or.inr ⟨by decide, nmA, (hts (.classLink RL 19 nmA) (by decide +kernel)), hN9.1⟩
        · exact Or.inr ⟨by decide, nmS, (hts (.classLink RL 13 nmS) (by decide +kernel)), hN9.2.1⟩
      refine vx_catch (pc := 7) (name := nmI) hown [⟨0, 12, 15, 19⟩, ⟨0, 12, 19, 13⟩] ⟨0, 12, 23, 25⟩ [⟨0, 12, 27, 31⟩] (htab.trans rfl) (hpass) (by decide) (by decide) (hts (.classLink RL 25 nmI) (by decide +kernel)) (va_Nw.use rfl (hX.1 (.castable nmI nmI) (by decide +kernel))) h1 h2 h3 ?_
      refine lv_astore (lv' := [(5, .ref q9), (0, .ref (ad 0)), (1, .int p0), (2, .int p1), (3, .int p2), (4, .ref o)]) hx hb dL_over_23 hl (by decide) rfl (fun ls hl => ?_)
      refine lv_iconst (v := nI 3) hx hb dL_over_25 (by decide +kernel) ?_
      refine W.widen (k := 3) (n := 18) (by decide) (by decide) ?_
      refine W.iret hx hb hr (fun t ht hW => ⟨⟨_, _, rfl, ?_, by show va_P _ _ _ t.heap; rw [ht]; exact hPo⟩, hS.F ht⟩) hS.2.2 dL_over_26
      exact Or.inr (Or.inr (Or.inl ⟨rfl, hE⟩))
    · have hpass : ∀ z ∈ ([⟨0, 12, 15, 19⟩, ⟨0, 12, 19, 13⟩, ⟨0, 12, 23, 25⟩] : List ExceptionTableEntry), covers z 7 = false ∨ (z.catchType ≠ 0 ∧ ∃ nm : String, (Cond.classLink RL z.catchType nm).before ([.ref (ad 0), .int p0, .int p1, .int p2, .ref o] : List Value).toArray s = true ∧ va_Nc nmE nm s) := by
        intro z hz
        simp only [List.mem_cons, List.not_mem_nil, or_false] at hz
        rcases hz with rfl | rfl | rfl
        · exact Or.inr ⟨by decide, nmA, (hts (.classLink RL 19 nmA) (by decide +kernel)), hN9.2.2.1⟩
        · exact Or.inr ⟨by decide, nmS, (hts (.classLink RL 13 nmS) (by decide +kernel)), hN9.2.2.2.1⟩
        · exact Or.inr ⟨by decide, nmI, (hts (.classLink RL 25 nmI) (by decide +kernel)), hN9.2.2.2.2⟩
      refine vx_catch (pc := 7) (name := nmE) hown [⟨0, 12, 15, 19⟩, ⟨0, 12, 19, 13⟩, ⟨0, 12, 23, 25⟩] ⟨0, 12, 27, 31⟩ [] (htab.trans rfl) (hpass) (by decide) (by decide) (hts (.classLink RL 31 nmE) (by decide +kernel)) (va_Nw.use rfl (hX.1 (.castable nmE nmE) (by decide +kernel))) h1 h2 h3 ?_
      refine lv_astore (lv' := [(5, .ref q9), (0, .ref (ad 0)), (1, .int p0), (2, .int p1), (3, .int p2), (4, .ref o)]) hx hb dL_over_27 hl (by decide) rfl (fun ls hl => ?_)
      refine lv_iconst (v := nI 4) hx hb dL_over_29 (by decide +kernel) ?_
      refine W.widen (k := 3) (n := 18) (by decide) (by decide) ?_
      refine W.iret hx hb hr (fun t ht hW => ⟨⟨_, _, rfl, ?_, by show va_P _ _ _ t.heap; rw [ht]; exact hPo⟩, hS.F ht⟩) hS.2.2 dL_over_30
      exact Or.inr (Or.inr (Or.inr ⟨rfl, hE⟩))
  have hPo : va_P (dC, dI) vwCl [(o, zL (ck 1) 1)] H1 := out_kept hPo hoN hk
  generalize H1 = H at hPo hS ⊢
  exact hw.elim

abbrev vL_gcd : List Cond := .codeWith yL_gcd cL_gcd 5 (some .int) [(0, 10, 13, 19), (0, 10, 17, 13)] :: lWS
set_option maxHeartbeats 4000000 in
set_option maxRecDepth 100000 in
/-- gcd -/
theorem c_L_gcd (l : Launch) (hnt : l.stackTraces = false) (dC : Nat → ClassId) (dI : Nat → Nat → Nat) (ad : Nat → Nat) (g : Nat → Option Nat) (ck : Nat → ClassId) (sa : Nat → Nat) (L : List Nat) (pr : Nat) (hok : cOk ad g L pr) (o sz : Nat) (p0 p1 : Int32) : Met l yL_gcd vL_gcd ({ frames := 9, cells := 2, slots := 12, locals := 146 }) (va_Pc [.ref (ad 0), .int p0, .int p1, .ref o] (fun U => cP (dC, dI) ck sa (((o, zL (ck 1) 1) :: cwX ad g ck pr (nI 0)) ++ va_pl L (fun _ => zI (ck 0))) sz U ∧ lNc U)) (va_Qi (fun (k9 : Int32) (f9 : Nat → Int64) => (k9 = nI 0 ∧ ∃ r : Int32, (fun r => inR p0 96 ∧ inR p1 96 ∧ r = nI 0) r ∧ f9 0 = r.toInt64) ∨ (k9 = nI 1 ∧ ¬ (inR p0 96 ∧ inR p1 96))) (fun (f9 : Nat → Int64) t => va_P (dC, dI) vwCl [(o, .inl (ck 1, 1, .inr (.inl f9)))] t.heap) (va_A (((o, zL (ck 1) 1) :: cwX ad g ck pr (nI 0)) ++ va_pl L (fun _ => zI (ck 0))) sz)) 2 12 (va_A (((o, zL (ck 1) 1) :: cwX ad g ck pr (nI 0)) ++ va_pl L (fun _ => zI (ck 0))) sz) := by
  refine va_MetW (cc := cL_gcd) (maxL := 5) (ret := (some .int)) (hh := [(0, 10, 13, 19), (0, 10, 17, 13)]) (by decide +kernel) rfl ?_
  intro p e s m args below meth c s₁ B hml hv
  obtain ⟨rfl, ⟨hsz, hP, hK, hD0, hX⟩, hN9⟩ := hv
  have hx := B.exec
  have hb := B.bytes
  have hr := B.returns
  have hts := atoms_spec (ws := vL_gcd) B.pre
  have htab := vx_table (x := yL_gcd) B (hts (.codeWith yL_gcd cL_gcd 5 (some .int) [(0, 10, 13, 19), (0, 10, 17, 13)]) List.mem_cons_self)
  have hown : s.vm.findClass RL = some m.cls := findClass_of_methodNamed B.named
  have hlocks := B.notSynchronized
  subst hsz
  have hD := hD0.self (sz := s.heap.size)
  generalize hAe : va_A (((o, zL (ck 1) 1) :: cwX ad g ck pr (nI 0)) ++ va_pl L (fun _ => zI (ck 0))) s.heap.size = A at hD hX ⊢
  have hA : ∀ q : Nat, s.heap.size ≤ q → A q := fun q h => by rw [← hAe]; exact Or.inr h
  have hS : va_S A s.heap s.heap [] := va_S.rf
  have hl := lv_entry ([.ref (ad 0), .int p0, .int p1, .ref o]) (n := 5) (Nat.le_of_ble_eq_true rfl)
  rw [lg_entry_eq]
  generalize (lg_sl ([.ref (ad 0), .int p0, .int p1, .ref o]) ++ List.replicate (5 - (lg_sl ([.ref (ad 0), .int p0, .int p1, .ref o])).length) Slot.unset).toArray = ls at hl ⊢
  have hl : lv_has ls 5 [(0, .ref (ad 0)), (1, .int p0), (2, .int p1), (3, .ref o)] := hl
  obtain ⟨H, hHe⟩ : ∃ H : Heap, H = s.heap := ⟨_, rfl⟩
  have hP : va_P (dC, dI) vwCl (((o, zL (ck 1) 1) :: cwX ad g ck pr (nI 0)) ++ va_pl L (fun _ => zI (ck 0))) H := by rw [hHe]; exact hP
  have hS : va_S A s.heap H [] := by rw [hHe]; exact hS
  suffices hgo : W p l e (headSpec vL_gcd ({ frames := 9, cells := 2, slots := 12, locals := 146 })).room s m ([.ref (ad 0), .int p0, .int p1, .ref o] : List Value).toArray below meth c H [] 0 0 (MQ below (va_Qi (fun (k9 : Int32) (f9 : Nat → Int64) => (k9 = nI 0 ∧ ∃ r : Int32, (fun r => inR p0 96 ∧ inR p1 96 ∧ r = nI 0) r ∧ f9 0 = r.toInt64) ∨ (k9 = nI 1 ∧ ¬ (inR p0 96 ∧ inR p1 96))) (fun (f9 : Nat → Int64) t => va_P (dC, dI) vwCl [(o, .inl (ck 1, 1, .inr (.inl f9)))] t.heap) A) ([.ref (ad 0), .int p0, .int p1, .ref o] : List Value).toArray s 2 12 A) (F0 m 0 ls []) by rw [hHe] at hgo; exact hgo
  have hPc : va_P (dC, dI) vwCl (cW ad g ck L pr (nI 0)) H := va_P.part (X := (o, zL (ck 1) 1) :: cwX ad g ck pr (nI 0)) hP [1, 2, 3, 4, 5] rfl
  have hDc : va_D A (cW ad g ck L pr (nI 0)) := va_D.part (X := (o, zL (ck 1) 1) :: cwX ad g ck pr (nI 0)) hD [1, 2, 3, 4, 5] (by decide) rfl
  have hoN : ¬ va_A (cW ad g ck L pr (nI 0)) H.size o := out_apart hP hD
  have hPo : va_P (dC, dI) vwCl [(o, zL (ck 1) 1)] H := fun k9 q9 h9 => hP k9 q9 (out_first h9)
  have hDo : va_D A [(o, zL (ck 1) 1)] := out_one (hD.2 0 _ rfl)
  refine lv_aload_n hx hb dL_gcd_0 rfl (lv_at hl 3 rfl) ?_
  refine lv_iconst (v := nI 0) hx hb dL_gcd_1 (by decide +kernel) ?_
  refine lv_aload_n hx hb dL_gcd_2 rfl (lv_at hl 0 rfl) ?_
  refine lv_iload_n hx hb dL_gcd_3 rfl (lv_at hl 1 rfl) ?_
  refine lv_iload_n hx hb dL_gcd_4 rfl (lv_at hl 2 rfl) ?_
  refine vx_calli (vx_runV (As := [.int p0, .int p1]) (rest := [.int (nI 0), .ref o]) ⟨hx, hb, hml, hown, hts⟩ (c_X4_gcd l hnt dC dI ad g ck sa L pr hok H.size p0 p1) (cwV 2 hts (gLv (by decide +kernel)) rfl rfl rfl (by decide +kernel) ⟨Nat.le_of_ble_eq_true rfl, Nat.le_of_ble_eq_true rfl⟩) ⟨cP_blind, va_recv hK hPc (ci := 5) (q0 := 0) rfl rfl, cP_of hPc hK hDc hS hA hX⟩ rfl rfl hl.1 rfl (lv_room (Nat.le_of_ble_eq_true rfl)) dL_gcd_5 ⟨Nat.le_of_ble_eq_true rfl, Nat.le_of_ble_eq_true rfl⟩) hS (fun q _ h => cF hDc hS hA q h) (cF hDc hS hA) (fun q _ h => cF hDc hS hA q h) (fun E ce q9 u t H1 locs1 ht hvm hpx hE hz hk hS h1 h2 h3 => ?_) (fun r0 u t H1 locs1 ht hvm hw hB hz hk hS => ?_)
  · have hPo : va_P (dC, dI) vwCl [(o, zL (ck 1) 1)] H1 := out_kept hPo hoN hk
    generalize H1 = H at hPo hS h1 ⊢
    obtain ⟨rfl, hE⟩ := hE
    refine vx_catch (pc := 5) (name := nmA) hown [] ⟨0, 10, 13, 19⟩ [⟨0, 10, 17, 13⟩] (htab.trans rfl) (fun z hz => nomatch hz) (by decide) (by decide) (hts (.classLink RL 19 nmA) (by decide +kernel)) (va_Nw.use rfl (hX.1 (.castable nmA nmA) (by decide +kernel))) h1 h2 h3 ?_
    refine lv_astore (lv' := [(4, .ref q9), (0, .ref (ad 0)), (1, .int p0), (2, .int p1), (3, .ref o)]) hx hb dL_gcd_13 hl (by decide) rfl (fun ls hl => ?_)
    refine lv_iconst (v := nI 1) hx hb dL_gcd_15 (by decide +kernel) ?_
    refine W.widen (k := 2) (n := 12) (by decide) (by decide) ?_
    refine W.iret hx hb hr (fun t ht hW => ⟨⟨_, _, rfl, ?_, by show va_P _ _ _ t.heap; rw [ht]; exact hPo⟩, hS.F ht⟩) hS.2.2 dL_gcd_16
    exact Or.inr ⟨rfl, hE⟩
  have hPo : va_P (dC, dI) vwCl [(o, zL (ck 1) 1)] H1 := out_kept hPo hoN hk
  generalize H1 = H at hPo hS ⊢
  refine lv_i2l (v := r0.toInt64) hx hb dL_gcd_8 (rfl) ?_
  refine va_last hx hb hK hPo hDo hS 0 1 rfl rfl (vp_in_nI (by decide) (by decide)) dL_gcd_9 (fun H locs hPo hDo hS => ?_)
  have hPo : va_P (dC, dI) vwCl [(o, .inl (ck 1, 1, .inr (.inl (vp_updL (fun _ => 0) (nI 0).toNatClampNeg r0.toInt64))))] H := hPo
  refine lv_goto (tgt := 21) hx hb dL_gcd_10 (by decide) ?_
  refine lv_iconst (v := nI 0) hx hb dL_gcd_21 (by decide +kernel) ?_
  refine W.widen (k := 2) (n := 12) (by decide) (by decide) ?_
  refine W.iret hx hb hr (fun t ht hW => ⟨⟨_, _, rfl, ?_, by show va_P _ _ _ t.heap; rw [ht]; exact hPo⟩, hS.F ht⟩) hS.2.2 dL_gcd_22
  exact Or.inl ⟨rfl, r0, hw, pk_uLs⟩

abbrev vL_factor : List Cond := .codeWith yL_factor cL_factor 6 (some .int) [(0, 11, 14, 19), (0, 11, 18, 13)] :: lWS
set_option maxHeartbeats 4000000 in
set_option maxRecDepth 100000 in
/-- factor -/
theorem c_L_factor (l : Launch) (hnt : l.stackTraces = false) (dC : Nat → ClassId) (dI : Nat → Nat → Nat) (ad : Nat → Nat) (g : Nat → Option Nat) (ck : Nat → ClassId) (sa : Nat → Nat) (L : List Nat) (pr : Nat) (hok : cOk ad g L pr) (o sz : Nat) (p0 : Int32) (sd : Int64) : Met l yL_factor vL_factor ({ frames := 9, cells := 1, slots := 6, locals := 149 }) (va_Pc [.ref (ad 0), .int p0, .long sd, .ref o] (fun U => cP (dC, dI) ck sa (((o, zL (ck 1) 1) :: cwX ad g ck pr (nI 0)) ++ va_pl L (fun _ => zI (ck 0))) sz U ∧ lNc U)) (va_Qi (fun (k9 : Int32) (f9 : Nat → Int64) => (k9 = nI 0 ∧ ∃ r : Int32, (fun r => inR p0 96 ∧ r = (-1)) r ∧ f9 0 = r.toInt64) ∨ (k9 = nI 1 ∧ ¬ inR p0 96)) (fun (f9 : Nat → Int64) t => va_P (dC, dI) vwCl [(o, .inl (ck 1, 1, .inr (.inl f9)))] t.heap) (va_A (((o, zL (ck 1) 1) :: cwX ad g ck pr (nI 0)) ++ va_pl L (fun _ => zI (ck 0))) sz)) 1 6 (va_A (((o, zL (ck 1) 1) :: cwX ad g ck pr (nI 0)) ++ va_pl L (fun _ => zI (ck 0))) sz) := by
  refine va_MetW (cc := cL_factor) (maxL := 6) (ret := (some .int)) (hh := [(0, 11, 14, 19), (0, 11, 18, 13)]) (by decide +kernel) rfl ?_
  intro p e s m args below meth c s₁ B hml hv
  obtain ⟨rfl, ⟨hsz, hP, hK, hD0, hX⟩, hN9⟩ := hv
  have hx := B.exec
  have hb := B.bytes
  have hr := B.returns
  have hts := atoms_spec (ws := vL_factor) B.pre
  have htab := vx_table (x := yL_factor) B (hts (.codeWith yL_factor cL_factor 6 (some .int) [(0, 11, 14, 19), (0, 11, 18, 13)]) List.mem_cons_self)
  have hown : s.vm.findClass RL = some m.cls := findClass_of_methodNamed B.named
  have hlocks := B.notSynchronized
  subst hsz
  have hD := hD0.self (sz := s.heap.size)
  generalize hAe : va_A (((o, zL (ck 1) 1) :: cwX ad g ck pr (nI 0)) ++ va_pl L (fun _ => zI (ck 0))) s.heap.size = A at hD hX ⊢
  have hA : ∀ q : Nat, s.heap.size ≤ q → A q := fun q h => by rw [← hAe]; exact Or.inr h
  have hS : va_S A s.heap s.heap [] := va_S.rf
  have hl := lv_entry ([.ref (ad 0), .int p0, .long sd, .ref o]) (n := 6) (Nat.le_of_ble_eq_true rfl)
  rw [lg_entry_eq]
  generalize (lg_sl ([.ref (ad 0), .int p0, .long sd, .ref o]) ++ List.replicate (6 - (lg_sl ([.ref (ad 0), .int p0, .long sd, .ref o])).length) Slot.unset).toArray = ls at hl ⊢
  have hl : lv_has ls 6 [(0, .ref (ad 0)), (1, .int p0), (2, .long sd), (4, .ref o)] := hl
  obtain ⟨H, hHe⟩ : ∃ H : Heap, H = s.heap := ⟨_, rfl⟩
  have hP : va_P (dC, dI) vwCl (((o, zL (ck 1) 1) :: cwX ad g ck pr (nI 0)) ++ va_pl L (fun _ => zI (ck 0))) H := by rw [hHe]; exact hP
  have hS : va_S A s.heap H [] := by rw [hHe]; exact hS
  suffices hgo : W p l e (headSpec vL_factor ({ frames := 9, cells := 1, slots := 6, locals := 149 })).room s m ([.ref (ad 0), .int p0, .long sd, .ref o] : List Value).toArray below meth c H [] 0 0 (MQ below (va_Qi (fun (k9 : Int32) (f9 : Nat → Int64) => (k9 = nI 0 ∧ ∃ r : Int32, (fun r => inR p0 96 ∧ r = (-1)) r ∧ f9 0 = r.toInt64) ∨ (k9 = nI 1 ∧ ¬ inR p0 96)) (fun (f9 : Nat → Int64) t => va_P (dC, dI) vwCl [(o, .inl (ck 1, 1, .inr (.inl f9)))] t.heap) A) ([.ref (ad 0), .int p0, .long sd, .ref o] : List Value).toArray s 1 6 A) (F0 m 0 ls []) by rw [hHe] at hgo; exact hgo
  have hPc : va_P (dC, dI) vwCl (cW ad g ck L pr (nI 0)) H := va_P.part (X := (o, zL (ck 1) 1) :: cwX ad g ck pr (nI 0)) hP [1, 2, 3, 4, 5] rfl
  have hDc : va_D A (cW ad g ck L pr (nI 0)) := va_D.part (X := (o, zL (ck 1) 1) :: cwX ad g ck pr (nI 0)) hD [1, 2, 3, 4, 5] (by decide) rfl
  have hoN : ¬ va_A (cW ad g ck L pr (nI 0)) H.size o := out_apart hP hD
  have hPo : va_P (dC, dI) vwCl [(o, zL (ck 1) 1)] H := fun k9 q9 h9 => hP k9 q9 (out_first h9)
  have hDo : va_D A [(o, zL (ck 1) 1)] := out_one (hD.2 0 _ rfl)
  refine lv_aload hx hb dL_factor_0 (lv_at hl 3 rfl) ?_
  refine lv_iconst (v := nI 0) hx hb dL_factor_2 (by decide +kernel) ?_
  refine lv_aload_n hx hb dL_factor_3 rfl (lv_at hl 0 rfl) ?_
  refine lv_iload_n hx hb dL_factor_4 rfl (lv_at hl 1 rfl) ?_
  refine lv_lload_n hx hb dL_factor_5 rfl (lv_at hl 2 rfl) ?_
  refine vx_calli (vx_runV (As := [.int p0, .long sd]) (rest := [.int (nI 0), .ref o]) ⟨hx, hb, hml, hown, hts⟩ (c_X4_factor l hnt dC dI ad g ck sa L pr hok H.size p0 sd) (cwV 2 hts (gLv (by decide +kernel)) rfl rfl rfl (by decide +kernel) ⟨Nat.le_of_ble_eq_true rfl, Nat.le_of_ble_eq_true rfl⟩) ⟨cP_blind, va_recv hK hPc (ci := 5) (q0 := 0) rfl rfl, cP_of hPc hK hDc hS hA hX⟩ rfl rfl hl.1 rfl (lv_room (Nat.le_of_ble_eq_true rfl)) dL_factor_6 ⟨Nat.le_of_ble_eq_true rfl, Nat.le_of_ble_eq_true rfl⟩) hS (fun q _ h => cF hDc hS hA q h) (cF hDc hS hA) (fun q _ h => cF hDc hS hA q h) (fun E ce q9 u t H1 locs1 ht hvm hpx hE hz hk hS h1 h2 h3 => ?_) (fun r0 u t H1 locs1 ht hvm hw hB hz hk hS => ?_)
  · have hPo : va_P (dC, dI) vwCl [(o, zL (ck 1) 1)] H1 := out_kept hPo hoN hk
    generalize H1 = H at hPo hS h1 ⊢
    obtain ⟨rfl, hE⟩ := hE
    refine vx_catch (pc := 6) (name := nmA) hown [] ⟨0, 11, 14, 19⟩ [⟨0, 11, 18, 13⟩] (htab.trans rfl) (fun z hz => nomatch hz) (by decide) (by decide) (hts (.classLink RL 19 nmA) (by decide +kernel)) (va_Nw.use rfl (hX.1 (.castable nmA nmA) (by decide +kernel))) h1 h2 h3 ?_
    refine lv_astore (lv' := [(5, .ref q9), (0, .ref (ad 0)), (1, .int p0), (2, .long sd), (4, .ref o)]) hx hb dL_factor_14 hl (by decide) rfl (fun ls hl => ?_)
    refine lv_iconst (v := nI 1) hx hb dL_factor_16 (by decide +kernel) ?_
    refine W.widen (k := 1) (n := 6) (by decide) (by decide) ?_
    refine W.iret hx hb hr (fun t ht hW => ⟨⟨_, _, rfl, ?_, by show va_P _ _ _ t.heap; rw [ht]; exact hPo⟩, hS.F ht⟩) hS.2.2 dL_factor_17
    exact Or.inr ⟨rfl, hE⟩
  have hPo : va_P (dC, dI) vwCl [(o, zL (ck 1) 1)] H1 := out_kept hPo hoN hk
  generalize H1 = H at hPo hS ⊢
  refine lv_i2l (v := r0.toInt64) hx hb dL_factor_9 (rfl) ?_
  refine va_last hx hb hK hPo hDo hS 0 1 rfl rfl (vp_in_nI (by decide) (by decide)) dL_factor_10 (fun H locs hPo hDo hS => ?_)
  have hPo : va_P (dC, dI) vwCl [(o, .inl (ck 1, 1, .inr (.inl (vp_updL (fun _ => 0) (nI 0).toNatClampNeg r0.toInt64))))] H := hPo
  refine lv_goto (tgt := 22) hx hb dL_factor_11 (by decide) ?_
  refine lv_iconst (v := nI 0) hx hb dL_factor_22 (by decide +kernel) ?_
  refine W.widen (k := 1) (n := 6) (by decide) (by decide) ?_
  refine W.iret hx hb hr (fun t ht hW => ⟨⟨_, _, rfl, ?_, by show va_P _ _ _ t.heap; rw [ht]; exact hPo⟩, hS.F ht⟩) hS.2.2 dL_factor_23
  exact Or.inl ⟨rfl, r0, hw, pk_uLs⟩

abbrev vL_factorOf : List Cond := .codeWith yL_factorOf cL_factorOf 4 (some .int) [(0, 9, 12, 19)] :: lWS
set_option maxHeartbeats 4000000 in
set_option maxRecDepth 100000 in
/-- factorOf -/
theorem c_L_factorOf (l : Launch) (hnt : l.stackTraces = false) (dC : Nat → ClassId) (dI : Nat → Nat → Nat) (ad : Nat → Nat) (g : Nat → Option Nat) (ck : Nat → ClassId) (sa : Nat → Nat) (L : List Nat) (pr : Nat) (hok : cOk ad g L pr) (o sz : Nat) (p0 : Int32) : Met l yL_factorOf vL_factorOf ({ frames := 9, cells := 1, slots := 6, locals := 145 }) (va_Pc [.ref (ad 0), .int p0, .ref o] (fun U => cP (dC, dI) ck sa (((o, zL (ck 1) 1) :: cwX ad g ck pr (nI 0)) ++ va_pl L (fun _ => zI (ck 0))) sz U ∧ lNc U)) (va_Qi (fun (k9 : Int32) (f9 : Nat → Int64) => (k9 = nI 0 ∧ ∃ r : Int32, (fun _ => False) r ∧ f9 0 = r.toInt64) ∨ (k9 = nI 1)) (fun (f9 : Nat → Int64) t => va_P (dC, dI) vwCl [(o, .inl (ck 1, 1, .inr (.inl f9)))] t.heap) (va_A (((o, zL (ck 1) 1) :: cwX ad g ck pr (nI 0)) ++ va_pl L (fun _ => zI (ck 0))) sz)) 1 6 (va_A (((o, zL (ck 1) 1) :: cwX ad g ck pr (nI 0)) ++ va_pl L (fun _ => zI (ck 0))) sz) := by
  refine va_MetW (cc := cL_factorOf) (maxL := 4) (ret := (some .int)) (hh := [(0, 9, 12, 19)]) (by decide +kernel) rfl ?_
  intro p e s m args below meth c s₁ B hml hv
  obtain ⟨rfl, ⟨hsz, hP, hK, hD0, hX⟩, hN9⟩ := hv
  have hx := B.exec
  have hb := B.bytes
  have hr := B.returns
  have hts := atoms_spec (ws := vL_factorOf) B.pre
  have htab := vx_table (x := yL_factorOf) B (hts (.codeWith yL_factorOf cL_factorOf 4 (some .int) [(0, 9, 12, 19)]) List.mem_cons_self)
  have hown : s.vm.findClass RL = some m.cls := findClass_of_methodNamed B.named
  have hlocks := B.notSynchronized
  subst hsz
  have hD := hD0.self (sz := s.heap.size)
  generalize hAe : va_A (((o, zL (ck 1) 1) :: cwX ad g ck pr (nI 0)) ++ va_pl L (fun _ => zI (ck 0))) s.heap.size = A at hD hX ⊢
  have hA : ∀ q : Nat, s.heap.size ≤ q → A q := fun q h => by rw [← hAe]; exact Or.inr h
  have hS : va_S A s.heap s.heap [] := va_S.rf
  have hl := lv_entry ([.ref (ad 0), .int p0, .ref o]) (n := 4) (Nat.le_of_ble_eq_true rfl)
  rw [lg_entry_eq]
  generalize (lg_sl ([.ref (ad 0), .int p0, .ref o]) ++ List.replicate (4 - (lg_sl ([.ref (ad 0), .int p0, .ref o])).length) Slot.unset).toArray = ls at hl ⊢
  have hl : lv_has ls 4 [(0, .ref (ad 0)), (1, .int p0), (2, .ref o)] := hl
  obtain ⟨H, hHe⟩ : ∃ H : Heap, H = s.heap := ⟨_, rfl⟩
  have hP : va_P (dC, dI) vwCl (((o, zL (ck 1) 1) :: cwX ad g ck pr (nI 0)) ++ va_pl L (fun _ => zI (ck 0))) H := by rw [hHe]; exact hP
  have hS : va_S A s.heap H [] := by rw [hHe]; exact hS
  suffices hgo : W p l e (headSpec vL_factorOf ({ frames := 9, cells := 1, slots := 6, locals := 145 })).room s m ([.ref (ad 0), .int p0, .ref o] : List Value).toArray below meth c H [] 0 0 (MQ below (va_Qi (fun (k9 : Int32) (f9 : Nat → Int64) => (k9 = nI 0 ∧ ∃ r : Int32, (fun _ => False) r ∧ f9 0 = r.toInt64) ∨ (k9 = nI 1)) (fun (f9 : Nat → Int64) t => va_P (dC, dI) vwCl [(o, .inl (ck 1, 1, .inr (.inl f9)))] t.heap) A) ([.ref (ad 0), .int p0, .ref o] : List Value).toArray s 1 6 A) (F0 m 0 ls []) by rw [hHe] at hgo; exact hgo
  have hPc : va_P (dC, dI) vwCl (cW ad g ck L pr (nI 0)) H := va_P.part (X := (o, zL (ck 1) 1) :: cwX ad g ck pr (nI 0)) hP [1, 2, 3, 4, 5] rfl
  have hDc : va_D A (cW ad g ck L pr (nI 0)) := va_D.part (X := (o, zL (ck 1) 1) :: cwX ad g ck pr (nI 0)) hD [1, 2, 3, 4, 5] (by decide) rfl
  have hoN : ¬ va_A (cW ad g ck L pr (nI 0)) H.size o := out_apart hP hD
  have hPo : va_P (dC, dI) vwCl [(o, zL (ck 1) 1)] H := fun k9 q9 h9 => hP k9 q9 (out_first h9)
  have hDo : va_D A [(o, zL (ck 1) 1)] := out_one (hD.2 0 _ rfl)
  refine lv_aload_n hx hb dL_factorOf_0 rfl (lv_at hl 2 rfl) ?_
  refine lv_iconst (v := nI 0) hx hb dL_factorOf_1 (by decide +kernel) ?_
  refine lv_aload_n hx hb dL_factorOf_2 rfl (lv_at hl 0 rfl) ?_
  refine lv_iload_n hx hb dL_factorOf_3 rfl (lv_at hl 1 rfl) ?_
  refine vx_calli (vx_runV (As := [.int p0]) (rest := [.int (nI 0), .ref o]) ⟨hx, hb, hml, hown, hts⟩ (c_X4_factorOf l hnt dC dI ad g ck sa L pr hok H.size p0) (cwV 1 hts (gLv (by decide +kernel)) rfl rfl rfl (by decide +kernel) ⟨Nat.le_of_ble_eq_true rfl, Nat.le_of_ble_eq_true rfl⟩) ⟨cP_blind, va_recv hK hPc (ci := 5) (q0 := 0) rfl rfl, cP_of hPc hK hDc hS hA hX⟩ rfl rfl hl.1 rfl (lv_room (Nat.le_of_ble_eq_true rfl)) dL_factorOf_4 ⟨Nat.le_of_ble_eq_true rfl, Nat.le_of_ble_eq_true rfl⟩) hS (fun q _ h => cF hDc hS hA q h) (cF hDc hS hA) (fun q _ h => cF hDc hS hA q h) (fun E ce q9 u t H1 locs1 ht hvm hpx hE hz hk hS h1 h2 h3 => ?_) (fun r0 u t H1 locs1 ht hvm hw hB hz hk hS => ?_)
  · have hPo : va_P (dC, dI) vwCl [(o, zL (ck 1) 1)] H1 := out_kept hPo hoN hk
    generalize H1 = H at hPo hS h1 ⊢
    obtain rfl := hE
    refine vx_catch (pc := 4) (name := nmA) hown [] ⟨0, 9, 12, 19⟩ [] (htab.trans rfl) (fun z hz => nomatch hz) (by decide) (by decide) (hts (.classLink RL 19 nmA) (by decide +kernel)) (va_Nw.use rfl (hX.1 (.castable nmA nmA) (by decide +kernel))) h1 h2 h3 ?_
    refine lv_astore_n (lv' := [(3, .ref q9), (0, .ref (ad 0)), (1, .int p0), (2, .ref o)]) hx hb dL_factorOf_12 rfl hl (by decide) rfl (fun ls hl => ?_)
    refine lv_iconst (v := nI 1) hx hb dL_factorOf_13 (by decide +kernel) ?_
    refine W.widen (k := 1) (n := 6) (by decide) (by decide) ?_
    refine W.iret hx hb hr (fun t ht hW => ⟨⟨_, _, rfl, ?_, by show va_P _ _ _ t.heap; rw [ht]; exact hPo⟩, hS.F ht⟩) hS.2.2 dL_factorOf_14
    exact Or.inr rfl
  have hPo : va_P (dC, dI) vwCl [(o, zL (ck 1) 1)] H1 := out_kept hPo hoN hk
  generalize H1 = H at hPo hS ⊢
  exact hw.elim

abbrev vL_multiplicity : List Cond := .codeWith yL_multiplicity cL_multiplicity 4 (some .int) [(0, 9, 12, 19)] :: lWS
set_option maxHeartbeats 4000000 in
set_option maxRecDepth 100000 in
/-- multiplicity -/
theorem c_L_multiplicity (l : Launch) (hnt : l.stackTraces = false) (dC : Nat → ClassId) (dI : Nat → Nat → Nat) (ad : Nat → Nat) (g : Nat → Option Nat) (ck : Nat → ClassId) (sa : Nat → Nat) (L : List Nat) (pr : Nat) (hok : cOk ad g L pr) (o sz : Nat) (p0 : Int32) : Met l yL_multiplicity vL_multiplicity ({ frames := 9, cells := 1, slots := 6, locals := 145 }) (va_Pc [.ref (ad 0), .int p0, .ref o] (fun U => cP (dC, dI) ck sa (((o, zL (ck 1) 1) :: cwX ad g ck pr (nI 0)) ++ va_pl L (fun _ => zI (ck 0))) sz U ∧ lNc U)) (va_Qi (fun (k9 : Int32) (f9 : Nat → Int64) => (k9 = nI 0 ∧ ∃ r : Int32, (fun _ => False) r ∧ f9 0 = r.toInt64) ∨ (k9 = nI 1)) (fun (f9 : Nat → Int64) t => va_P (dC, dI) vwCl [(o, .inl (ck 1, 1, .inr (.inl f9)))] t.heap) (va_A (((o, zL (ck 1) 1) :: cwX ad g ck pr (nI 0)) ++ va_pl L (fun _ => zI (ck 0))) sz)) 1 6 (va_A (((o, zL (ck 1) 1) :: cwX ad g ck pr (nI 0)) ++ va_pl L (fun _ => zI (ck 0))) sz) := by
  refine va_MetW (cc := cL_multiplicity) (maxL := 4) (ret := (some .int)) (hh := [(0, 9, 12, 19)]) (by decide +kernel) rfl ?_
  intro p e s m args below meth c s₁ B hml hv
  obtain ⟨rfl, ⟨hsz, hP, hK, hD0, hX⟩, hN9⟩ := hv
  have hx := B.exec
  have hb := B.bytes
  have hr := B.returns
  have hts := atoms_spec (ws := vL_multiplicity) B.pre
  have htab := vx_table (x := yL_multiplicity) B (hts (.codeWith yL_multiplicity cL_multiplicity 4 (some .int) [(0, 9, 12, 19)]) List.mem_cons_self)
  have hown : s.vm.findClass RL = some m.cls := findClass_of_methodNamed B.named
  have hlocks := B.notSynchronized
  subst hsz
  have hD := hD0.self (sz := s.heap.size)
  generalize hAe : va_A (((o, zL (ck 1) 1) :: cwX ad g ck pr (nI 0)) ++ va_pl L (fun _ => zI (ck 0))) s.heap.size = A at hD hX ⊢
  have hA : ∀ q : Nat, s.heap.size ≤ q → A q := fun q h => by rw [← hAe]; exact Or.inr h
  have hS : va_S A s.heap s.heap [] := va_S.rf
  have hl := lv_entry ([.ref (ad 0), .int p0, .ref o]) (n := 4) (Nat.le_of_ble_eq_true rfl)
  rw [lg_entry_eq]
  generalize (lg_sl ([.ref (ad 0), .int p0, .ref o]) ++ List.replicate (4 - (lg_sl ([.ref (ad 0), .int p0, .ref o])).length) Slot.unset).toArray = ls at hl ⊢
  have hl : lv_has ls 4 [(0, .ref (ad 0)), (1, .int p0), (2, .ref o)] := hl
  obtain ⟨H, hHe⟩ : ∃ H : Heap, H = s.heap := ⟨_, rfl⟩
  have hP : va_P (dC, dI) vwCl (((o, zL (ck 1) 1) :: cwX ad g ck pr (nI 0)) ++ va_pl L (fun _ => zI (ck 0))) H := by rw [hHe]; exact hP
  have hS : va_S A s.heap H [] := by rw [hHe]; exact hS
  suffices hgo : W p l e (headSpec vL_multiplicity ({ frames := 9, cells := 1, slots := 6, locals := 145 })).room s m ([.ref (ad 0), .int p0, .ref o] : List Value).toArray below meth c H [] 0 0 (MQ below (va_Qi (fun (k9 : Int32) (f9 : Nat → Int64) => (k9 = nI 0 ∧ ∃ r : Int32, (fun _ => False) r ∧ f9 0 = r.toInt64) ∨ (k9 = nI 1)) (fun (f9 : Nat → Int64) t => va_P (dC, dI) vwCl [(o, .inl (ck 1, 1, .inr (.inl f9)))] t.heap) A) ([.ref (ad 0), .int p0, .ref o] : List Value).toArray s 1 6 A) (F0 m 0 ls []) by rw [hHe] at hgo; exact hgo
  have hPc : va_P (dC, dI) vwCl (cW ad g ck L pr (nI 0)) H := va_P.part (X := (o, zL (ck 1) 1) :: cwX ad g ck pr (nI 0)) hP [1, 2, 3, 4, 5] rfl
  have hDc : va_D A (cW ad g ck L pr (nI 0)) := va_D.part (X := (o, zL (ck 1) 1) :: cwX ad g ck pr (nI 0)) hD [1, 2, 3, 4, 5] (by decide) rfl
  have hoN : ¬ va_A (cW ad g ck L pr (nI 0)) H.size o := out_apart hP hD
  have hPo : va_P (dC, dI) vwCl [(o, zL (ck 1) 1)] H := fun k9 q9 h9 => hP k9 q9 (out_first h9)
  have hDo : va_D A [(o, zL (ck 1) 1)] := out_one (hD.2 0 _ rfl)
  refine lv_aload_n hx hb dL_multiplicity_0 rfl (lv_at hl 2 rfl) ?_
  refine lv_iconst (v := nI 0) hx hb dL_multiplicity_1 (by decide +kernel) ?_
  refine lv_aload_n hx hb dL_multiplicity_2 rfl (lv_at hl 0 rfl) ?_
  refine lv_iload_n hx hb dL_multiplicity_3 rfl (lv_at hl 1 rfl) ?_
  refine vx_calli (vx_runV (As := [.int p0]) (rest := [.int (nI 0), .ref o]) ⟨hx, hb, hml, hown, hts⟩ (c_X4_multiplicity l hnt dC dI ad g ck sa L pr hok H.size p0) (cwV 1 hts (gLv (by decide +kernel)) rfl rfl rfl (by decide +kernel) ⟨Nat.le_of_ble_eq_true rfl, Nat.le_of_ble_eq_true rfl⟩) ⟨cP_blind, va_recv hK hPc (ci := 5) (q0 := 0) rfl rfl, cP_of hPc hK hDc hS hA hX⟩ rfl rfl hl.1 rfl (lv_room (Nat.le_of_ble_eq_true rfl)) dL_multiplicity_4 ⟨Nat.le_of_ble_eq_true rfl, Nat.le_of_ble_eq_true rfl⟩) hS (fun q _ h => cF hDc hS hA q h) (cF hDc hS hA) (fun q _ h => cF hDc hS hA q h) (fun E ce q9 u t H1 locs1 ht hvm hpx hE hz hk hS h1 h2 h3 => ?_) (fun r0 u t H1 locs1 ht hvm hw hB hz hk hS => ?_)
  · have hPo : va_P (dC, dI) vwCl [(o, zL (ck 1) 1)] H1 := out_kept hPo hoN hk
    generalize H1 = H at hPo hS h1 ⊢
    obtain rfl := hE
    refine vx_catch (pc := 4) (name := nmA) hown [] ⟨0, 9, 12, 19⟩ [] (htab.trans rfl) (fun z hz => nomatch hz) (by decide) (by decide) (hts (.classLink RL 19 nmA) (by decide +kernel)) (va_Nw.use rfl (hX.1 (.castable nmA nmA) (by decide +kernel))) h1 h2 h3 ?_
    refine lv_astore_n (lv' := [(3, .ref q9), (0, .ref (ad 0)), (1, .int p0), (2, .ref o)]) hx hb dL_multiplicity_12 rfl hl (by decide) rfl (fun ls hl => ?_)
    refine lv_iconst (v := nI 1) hx hb dL_multiplicity_13 (by decide +kernel) ?_
    refine W.widen (k := 1) (n := 6) (by decide) (by decide) ?_
    refine W.iret hx hb hr (fun t ht hW => ⟨⟨_, _, rfl, ?_, by show va_P _ _ _ t.heap; rw [ht]; exact hPo⟩, hS.F ht⟩) hS.2.2 dL_multiplicity_14
    exact Or.inr rfl
  have hPo : va_P (dC, dI) vwCl [(o, zL (ck 1) 1)] H1 := out_kept hPo hoN hk
  generalize H1 = H at hPo hS ⊢
  exact hw.elim

abbrev vL_at : List Cond := .codeWith yL_at cL_at 5 (some .int) [(0, 10, 13, 19)] :: lWS
set_option maxHeartbeats 4000000 in
set_option maxRecDepth 100000 in
/-- at -/
theorem c_L_at (l : Launch) (hnt : l.stackTraces = false) (dC : Nat → ClassId) (dI : Nat → Nat → Nat) (ad : Nat → Nat) (g : Nat → Option Nat) (ck : Nat → ClassId) (sa : Nat → Nat) (L : List Nat) (pr : Nat) (hok : cOk ad g L pr) (o sz : Nat) (p0 p1 : Int32) : Met l yL_at vL_at ({ frames := 9, cells := 2, slots := 12, locals := 146 }) (va_Pc [.ref (ad 0), .int p0, .int p1, .ref o] (fun U => cP (dC, dI) ck sa (((o, zL (ck 1) 1) :: cwX ad g ck pr (nI 0)) ++ va_pl L (fun _ => zI (ck 0))) sz U ∧ lNc U)) (va_Qi (fun (k9 : Int32) (f9 : Nat → Int64) => (k9 = nI 0 ∧ ∃ r : Int32, (fun r => inR p0 96 ∧ inR p1 32 ∧ r = nI 0) r ∧ f9 0 = r.toInt64) ∨ (k9 = nI 1 ∧ ¬ (inR p0 96 ∧ inR p1 32))) (fun (f9 : Nat → Int64) t => va_P (dC, dI) vwCl [(o, .inl (ck 1, 1, .inr (.inl f9)))] t.heap) (va_A (((o, zL (ck 1) 1) :: cwX ad g ck pr (nI 0)) ++ va_pl L (fun _ => zI (ck 0))) sz)) 2 12 (va_A (((o, zL (ck 1) 1) :: cwX ad g ck pr (nI 0)) ++ va_pl L (fun _ => zI (ck 0))) sz) := by
  refine va_MetW (cc := cL_at) (maxL := 5) (ret := (some .int)) (hh := [(0, 10, 13, 19)]) (by decide +kernel) rfl ?_
  intro p e s m args below meth c s₁ B hml hv
  obtain ⟨rfl, ⟨hsz, hP, hK, hD0, hX⟩, hN9⟩ := hv
  have hx := B.exec
  have hb := B.bytes
  have hr := B.returns
  have hts := atoms_spec (ws := vL_at) B.pre
  have htab := vx_table (x := yL_at) B (hts (.codeWith yL_at cL_at 5 (some .int) [(0, 10, 13, 19)]) List.mem_cons_self)
  have hown : s.vm.findClass RL = some m.cls := findClass_of_methodNamed B.named
  have hlocks := B.notSynchronized
  subst hsz
  have hD := hD0.self (sz := s.heap.size)
  generalize hAe : va_A (((o, zL (ck 1) 1) :: cwX ad g ck pr (nI 0)) ++ va_pl L (fun _ => zI (ck 0))) s.heap.size = A at hD hX ⊢
  have hA : ∀ q : Nat, s.heap.size ≤ q → A q := fun q h => by rw [← hAe]; exact Or.inr h
  have hS : va_S A s.heap s.heap [] := va_S.rf
  have hl := lv_entry ([.ref (ad 0), .int p0, .int p1, .ref o]) (n := 5) (Nat.le_of_ble_eq_true rfl)
  rw [lg_entry_eq]
  generalize (lg_sl ([.ref (ad 0), .int p0, .int p1, .ref o]) ++ List.replicate (5 - (lg_sl ([.ref (ad 0), .int p0, .int p1, .ref o])).length) Slot.unset).toArray = ls at hl ⊢
  have hl : lv_has ls 5 [(0, .ref (ad 0)), (1, .int p0), (2, .int p1), (3, .ref o)] := hl
  obtain ⟨H, hHe⟩ : ∃ H : Heap, H = s.heap := ⟨_, rfl⟩
  have hP : va_P (dC, dI) vwCl (((o, zL (ck 1) 1) :: cwX ad g ck pr (nI 0)) ++ va_pl L (fun _ => zI (ck 0))) H := by rw [hHe]; exact hP
  have hS : va_S A s.heap H [] := by rw [hHe]; exact hS
  suffices hgo : W p l e (headSpec vL_at ({ frames := 9, cells := 2, slots := 12, locals := 146 })).room s m ([.ref (ad 0), .int p0, .int p1, .ref o] : List Value).toArray below meth c H [] 0 0 (MQ below (va_Qi (fun (k9 : Int32) (f9 : Nat → Int64) => (k9 = nI 0 ∧ ∃ r : Int32, (fun r => inR p0 96 ∧ inR p1 32 ∧ r = nI 0) r ∧ f9 0 = r.toInt64) ∨ (k9 = nI 1 ∧ ¬ (inR p0 96 ∧ inR p1 32))) (fun (f9 : Nat → Int64) t => va_P (dC, dI) vwCl [(o, .inl (ck 1, 1, .inr (.inl f9)))] t.heap) A) ([.ref (ad 0), .int p0, .int p1, .ref o] : List Value).toArray s 2 12 A) (F0 m 0 ls []) by rw [hHe] at hgo; exact hgo
  have hPc : va_P (dC, dI) vwCl (cW ad g ck L pr (nI 0)) H := va_P.part (X := (o, zL (ck 1) 1) :: cwX ad g ck pr (nI 0)) hP [1, 2, 3, 4, 5] rfl
  have hDc : va_D A (cW ad g ck L pr (nI 0)) := va_D.part (X := (o, zL (ck 1) 1) :: cwX ad g ck pr (nI 0)) hD [1, 2, 3, 4, 5] (by decide) rfl
  have hoN : ¬ va_A (cW ad g ck L pr (nI 0)) H.size o := out_apart hP hD
  have hPo : va_P (dC, dI) vwCl [(o, zL (ck 1) 1)] H := fun k9 q9 h9 => hP k9 q9 (out_first h9)
  have hDo : va_D A [(o, zL (ck 1) 1)] := out_one (hD.2 0 _ rfl)
  refine lv_aload_n hx hb dL_at_0 rfl (lv_at hl 3 rfl) ?_
  refine lv_iconst (v := nI 0) hx hb dL_at_1 (by decide +kernel) ?_
  refine lv_aload_n hx hb dL_at_2 rfl (lv_at hl 0 rfl) ?_
  refine lv_iload_n hx hb dL_at_3 rfl (lv_at hl 1 rfl) ?_
  refine lv_iload_n hx hb dL_at_4 rfl (lv_at hl 2 rfl) ?_
  refine vx_calli (vx_runV (As := [.int p0, .int p1]) (rest := [.int (nI 0), .ref o]) ⟨hx, hb, hml, hown, hts⟩ (c_X4_at l hnt dC dI ad g ck sa L pr hok H.size p0 p1) (cwV 2 hts (gLv (by decide +kernel)) rfl rfl rfl (by decide +kernel) ⟨Nat.le_of_ble_eq_true rfl, Nat.le_of_ble_eq_true rfl⟩) ⟨cP_blind, va_recv hK hPc (ci := 5) (q0 := 0) rfl rfl, cP_of hPc hK hDc hS hA hX⟩ rfl rfl hl.1 rfl (lv_room (Nat.le_of_ble_eq_true rfl)) dL_at_5 ⟨Nat.le_of_ble_eq_true rfl, Nat.le_of_ble_eq_true rfl⟩) hS (fun q _ h => cF hDc hS hA q h) (cF hDc hS hA) (fun q _ h => cF hDc hS hA q h) (fun E ce q9 u t H1 locs1 ht hvm hpx hE hz hk hS h1 h2 h3 => ?_) (fun r0 u t H1 locs1 ht hvm hw hB hz hk hS => ?_)
  · have hPo : va_P (dC, dI) vwCl [(o, zL (ck 1) 1)] H1 := out_kept hPo hoN hk
    generalize H1 = H at hPo hS h1 ⊢
    obtain ⟨rfl, hE⟩ := hE
    refine vx_catch (pc := 5) (name := nmA) hown [] ⟨0, 10, 13, 19⟩ [] (htab.trans rfl) (fun z hz => nomatch hz) (by decide) (by decide) (hts (.classLink RL 19 nmA) (by decide +kernel)) (va_Nw.use rfl (hX.1 (.castable nmA nmA) (by decide +kernel))) h1 h2 h3 ?_
    refine lv_astore (lv' := [(4, .ref q9), (0, .ref (ad 0)), (1, .int p0), (2, .int p1), (3, .ref o)]) hx hb dL_at_13 hl (by decide) rfl (fun ls hl => ?_)
    refine lv_iconst (v := nI 1) hx hb dL_at_15 (by decide +kernel) ?_
    refine W.widen (k := 2) (n := 12) (by decide) (by decide) ?_
    refine W.iret hx hb hr (fun t ht hW => ⟨⟨_, _, rfl, ?_, by show va_P _ _ _ t.heap; rw [ht]; exact hPo⟩, hS.F ht⟩) hS.2.2 dL_at_16
    exact Or.inr ⟨rfl, hE⟩
  have hPo : va_P (dC, dI) vwCl [(o, zL (ck 1) 1)] H1 := out_kept hPo hoN hk
  generalize H1 = H at hPo hS ⊢
  refine lv_i2l (v := r0.toInt64) hx hb dL_at_8 (rfl) ?_
  refine va_last hx hb hK hPo hDo hS 0 1 rfl rfl (vp_in_nI (by decide) (by decide)) dL_at_9 (fun H locs hPo hDo hS => ?_)
  have hPo : va_P (dC, dI) vwCl [(o, .inl (ck 1, 1, .inr (.inl (vp_updL (fun _ => 0) (nI 0).toNatClampNeg r0.toInt64))))] H := hPo
  refine lv_goto (tgt := 17) hx hb dL_at_10 (by decide) ?_
  refine lv_iconst (v := nI 0) hx hb dL_at_17 (by decide +kernel) ?_
  refine W.widen (k := 2) (n := 12) (by decide) (by decide) ?_
  refine W.iret hx hb hr (fun t ht hW => ⟨⟨_, _, rfl, ?_, by show va_P _ _ _ t.heap; rw [ht]; exact hPo⟩, hS.F ht⟩) hS.2.2 dL_at_18
  exact Or.inl ⟨rfl, r0, hw, pk_uLs⟩

abbrev vL_root : List Cond := .codeWith yL_root cL_root 5 (some .int) [(0, 10, 13, 19)] :: lWS
set_option maxHeartbeats 4000000 in
set_option maxRecDepth 100000 in
/-- root -/
theorem c_L_root (l : Launch) (hnt : l.stackTraces = false) (dC : Nat → ClassId) (dI : Nat → Nat → Nat) (ad : Nat → Nat) (g : Nat → Option Nat) (ck : Nat → ClassId) (sa : Nat → Nat) (L : List Nat) (pr : Nat) (hok : cOk ad g L pr) (o sz : Nat) (p0 p1 : Int32) : Met l yL_root vL_root ({ frames := 9, cells := 1, slots := 6, locals := 146 }) (va_Pc [.ref (ad 0), .int p0, .int p1, .ref o] (fun U => cP (dC, dI) ck sa (((o, zL (ck 1) 1) :: cwX ad g ck pr (nI 0)) ++ va_pl L (fun _ => zI (ck 0))) sz U ∧ lNc U)) (va_Qi (fun (k9 : Int32) (f9 : Nat → Int64) => (k9 = nI 0 ∧ ∃ r : Int32, (fun r => inR p0 96 ∧ ((r = p1 ∧ inR p1 pr) ∨ (r = (-1) ∧ ¬ inR p1 pr))) r ∧ f9 0 = r.toInt64) ∨ (k9 = nI 1 ∧ ¬ inR p0 96)) (fun (f9 : Nat → Int64) t => va_P (dC, dI) vwCl [(o, .inl (ck 1, 1, .inr (.inl f9)))] t.heap) (va_A (((o, zL (ck 1) 1) :: cwX ad g ck pr (nI 0)) ++ va_pl L (fun _ => zI (ck 0))) sz)) 1 6 (va_A (((o, zL (ck 1) 1) :: cwX ad g ck pr (nI 0)) ++ va_pl L (fun _ => zI (ck 0))) sz) := by
  refine va_MetW (cc := cL_root) (maxL := 5) (ret := (some .int)) (hh := [(0, 10, 13, 19)]) (by decide +kernel) rfl ?_
  intro p e s m args below meth c s₁ B hml hv
  obtain ⟨rfl, ⟨hsz, hP, hK, hD0, hX⟩, hN9⟩ := hv
  have hx := B.exec
  have hb := B.bytes
  have hr := B.returns
  have hts := atoms_spec (ws := vL_root) B.pre
  have htab := vx_table (x := yL_root) B (hts (.codeWith yL_root cL_root 5 (some .int) [(0, 10, 13, 19)]) List.mem_cons_self)
  have hown : s.vm.findClass RL = some m.cls := findClass_of_methodNamed B.named
  have hlocks := B.notSynchronized
  subst hsz
  have hD := hD0.self (sz := s.heap.size)
  generalize hAe : va_A (((o, zL (ck 1) 1) :: cwX ad g ck pr (nI 0)) ++ va_pl L (fun _ => zI (ck 0))) s.heap.size = A at hD hX ⊢
  have hA : ∀ q : Nat, s.heap.size ≤ q → A q := fun q h => by rw [← hAe]; exact Or.inr h
  have hS : va_S A s.heap s.heap [] := va_S.rf
  have hl := lv_entry ([.ref (ad 0), .int p0, .int p1, .ref o]) (n := 5) (Nat.le_of_ble_eq_true rfl)
  rw [lg_entry_eq]
  generalize (lg_sl ([.ref (ad 0), .int p0, .int p1, .ref o]) ++ List.replicate (5 - (lg_sl ([.ref (ad 0), .int p0, .int p1, .ref o])).length) Slot.unset).toArray = ls at hl ⊢
  have hl : lv_has ls 5 [(0, .ref (ad 0)), (1, .int p0), (2, .int p1), (3, .ref o)] := hl
  obtain ⟨H, hHe⟩ : ∃ H : Heap, H = s.heap := ⟨_, rfl⟩
  have hP : va_P (dC, dI) vwCl (((o, zL (ck 1) 1) :: cwX ad g ck pr (nI 0)) ++ va_pl L (fun _ => zI (ck 0))) H := by rw [hHe]; exact hP
  have hS : va_S A s.heap H [] := by rw [hHe]; exact hS
  suffices hgo : W p l e (headSpec vL_root ({ frames := 9, cells := 1, slots := 6, locals := 146 })).room s m ([.ref (ad 0), .int p0, .int p1, .ref o] : List Value).toArray below meth c H [] 0 0 (MQ below (va_Qi (fun (k9 : Int32) (f9 : Nat → Int64) => (k9 = nI 0 ∧ ∃ r : Int32, (fun r => inR p0 96 ∧ ((r = p1 ∧ inR p1 pr) ∨ (r = (-1) ∧ ¬ inR p1 pr))) r ∧ f9 0 = r.toInt64) ∨ (k9 = nI 1 ∧ ¬ inR p0 96)) (fun (f9 : Nat → Int64) t => va_P (dC, dI) vwCl [(o, .inl (ck 1, 1, .inr (.inl f9)))] t.heap) A) ([.ref (ad 0), .int p0, .int p1, .ref o] : List Value).toArray s 1 6 A) (F0 m 0 ls []) by rw [hHe] at hgo; exact hgo
  have hPc : va_P (dC, dI) vwCl (cW ad g ck L pr (nI 0)) H := va_P.part (X := (o, zL (ck 1) 1) :: cwX ad g ck pr (nI 0)) hP [1, 2, 3, 4, 5] rfl
  have hDc : va_D A (cW ad g ck L pr (nI 0)) := va_D.part (X := (o, zL (ck 1) 1) :: cwX ad g ck pr (nI 0)) hD [1, 2, 3, 4, 5] (by decide) rfl
  have hoN : ¬ va_A (cW ad g ck L pr (nI 0)) H.size o := out_apart hP hD
  have hPo : va_P (dC, dI) vwCl [(o, zL (ck 1) 1)] H := fun k9 q9 h9 => hP k9 q9 (out_first h9)
  have hDo : va_D A [(o, zL (ck 1) 1)] := out_one (hD.2 0 _ rfl)
  refine lv_aload_n hx hb dL_root_0 rfl (lv_at hl 3 rfl) ?_
  refine lv_iconst (v := nI 0) hx hb dL_root_1 (by decide +kernel) ?_
  refine lv_aload_n hx hb dL_root_2 rfl (lv_at hl 0 rfl) ?_
  refine lv_iload_n hx hb dL_root_3 rfl (lv_at hl 1 rfl) ?_
  refine lv_iload_n hx hb dL_root_4 rfl (lv_at hl 2 rfl) ?_
  refine vx_calli (vx_runV (As := [.int p0, .int p1]) (rest := [.int (nI 0), .ref o]) ⟨hx, hb, hml, hown, hts⟩ (c_X4_root l hnt dC dI ad g ck sa L pr hok H.size p0 p1) (cwV 2 hts (gLv (by decide +kernel)) rfl rfl rfl (by decide +kernel) ⟨Nat.le_of_ble_eq_true rfl, Nat.le_of_ble_eq_true rfl⟩) ⟨cP_blind, va_recv hK hPc (ci := 5) (q0 := 0) rfl rfl, cP_of hPc hK hDc hS hA hX⟩ rfl rfl hl.1 rfl (lv_room (Nat.le_of_ble_eq_true rfl)) dL_root_5 ⟨Nat.le_of_ble_eq_true rfl, Nat.le_of_ble_eq_true rfl⟩) hS (fun q _ h => cF hDc hS hA q h) (cF hDc hS hA) (fun q _ h => cF hDc hS hA q h) (fun E ce q9 u t H1 locs1 ht hvm hpx hE hz hk hS h1 h2 h3 => ?_) (fun r0 u t H1 locs1 ht hvm hw hB hz hk hS => ?_)
  · have hPo : va_P (dC, dI) vwCl [(o, zL (ck 1) 1)] H1 := out_kept hPo hoN hk
    generalize H1 = H at hPo hS h1 ⊢
    obtain ⟨rfl, hE⟩ := hE
    refine vx_catch (pc := 5) (name := nmA) hown [] ⟨0, 10, 13, 19⟩ [] (htab.trans rfl) (fun z hz => nomatch hz) (by decide) (by decide) (hts (.classLink RL 19 nmA) (by decide +kernel)) (va_Nw.use rfl (hX.1 (.castable nmA nmA) (by decide +kernel))) h1 h2 h3 ?_
    refine lv_astore (lv' := [(4, .ref q9), (0, .ref (ad 0)), (1, .int p0), (2, .int p1), (3, .ref o)]) hx hb dL_root_13 hl (by decide) rfl (fun ls hl => ?_)
    refine lv_iconst (v := nI 1) hx hb dL_root_15 (by decide +kernel) ?_
    refine W.widen (k := 1) (n := 6) (by decide) (by decide) ?_
    refine W.iret hx hb hr (fun t ht hW => ⟨⟨_, _, rfl, ?_, by show va_P _ _ _ t.heap; rw [ht]; exact hPo⟩, hS.F ht⟩) hS.2.2 dL_root_16
    exact Or.inr ⟨rfl, hE⟩
  have hPo : va_P (dC, dI) vwCl [(o, zL (ck 1) 1)] H1 := out_kept hPo hoN hk
  generalize H1 = H at hPo hS ⊢
  refine lv_i2l (v := r0.toInt64) hx hb dL_root_8 (rfl) ?_
  refine va_last hx hb hK hPo hDo hS 0 1 rfl rfl (vp_in_nI (by decide) (by decide)) dL_root_9 (fun H locs hPo hDo hS => ?_)
  have hPo : va_P (dC, dI) vwCl [(o, .inl (ck 1, 1, .inr (.inl (vp_updL (fun _ => 0) (nI 0).toNatClampNeg r0.toInt64))))] H := hPo
  refine lv_goto (tgt := 17) hx hb dL_root_10 (by decide) ?_
  refine lv_iconst (v := nI 0) hx hb dL_root_17 (by decide +kernel) ?_
  refine W.widen (k := 1) (n := 6) (by decide) (by decide) ?_
  refine W.iret hx hb hr (fun t ht hW => ⟨⟨_, _, rfl, ?_, by show va_P _ _ _ t.heap; rw [ht]; exact hPo⟩, hS.F ht⟩) hS.2.2 dL_root_18
  exact Or.inl ⟨rfl, r0, hw, pk_uLs⟩

abbrev vL_inverse : List Cond := .codeWith yL_inverse cL_inverse 4 (some .int) [(0, 9, 12, 31)] :: lWS
set_option maxHeartbeats 4000000 in
set_option maxRecDepth 100000 in
/-- inverse -/
theorem c_L_inverse (l : Launch) (hnt : l.stackTraces = false) (dC : Nat → ClassId) (dI : Nat → Nat → Nat) (ad : Nat → Nat) (g : Nat → Option Nat) (ck : Nat → ClassId) (sa : Nat → Nat) (L : List Nat) (pr : Nat) (hok : cOk ad g L pr) (o sz : Nat) (p0 : Int32) : Met l yL_inverse vL_inverse ({ frames := 8, cells := 1, slots := 6, locals := 125 }) (va_Pc [.ref (ad 0), .int p0, .ref o] (fun U => cP (dC, dI) ck sa (((o, zL (ck 1) 1) :: cwX ad g ck pr (nI 0)) ++ va_pl L (fun _ => zI (ck 0))) sz U ∧ lNc U)) (va_Qi (fun (k9 : Int32) (f9 : Nat → Int64) => (k9 = nI 0 ∧ ∃ r : Int32, (fun r => (p0.toInt % pr).toNat ≠ 0 ∧ ∃ z : Nat, r = nI z ∧ invOf pr (p0.toInt % pr).toNat z) r ∧ f9 0 = r.toInt64) ∨ (k9 = nI 1 ∧ (p0.toInt % pr).toNat = 0)) (fun (f9 : Nat → Int64) t => va_P (dC, dI) vwCl [(o, .inl (ck 1, 1, .inr (.inl f9)))] t.heap) (va_A (((o, zL (ck 1) 1) :: cwX ad g ck pr (nI 0)) ++ va_pl L (fun _ => zI (ck 0))) sz)) 1 6 (va_A (((o, zL (ck 1) 1) :: cwX ad g ck pr (nI 0)) ++ va_pl L (fun _ => zI (ck 0))) sz) := by
  refine va_MetW (cc := cL_inverse) (maxL := 4) (ret := (some .int)) (hh := [(0, 9, 12, 31)]) (by decide +kernel) rfl ?_
  intro p e s m args below meth c s₁ B hml hv
  obtain ⟨rfl, ⟨hsz, hP, hK, hD0, hX⟩, hN9⟩ := hv
  have hx := B.exec
  have hb := B.bytes
  have hr := B.returns
  have hts := atoms_spec (ws := vL_inverse) B.pre
  have htab := vx_table (x := yL_inverse) B (hts (.codeWith yL_inverse cL_inverse 4 (some .int) [(0, 9, 12, 31)]) List.mem_cons_self)
  have hown : s.vm.findClass RL = some m.cls := findClass_of_methodNamed B.named
  have hlocks := B.notSynchronized
  subst hsz
  have hD := hD0.self (sz := s.heap.size)
  generalize hAe : va_A (((o, zL (ck 1) 1) :: cwX ad g ck pr (nI 0)) ++ va_pl L (fun _ => zI (ck 0))) s.heap.size = A at hD hX ⊢
  have hA : ∀ q : Nat, s.heap.size ≤ q → A q := fun q h => by rw [← hAe]; exact Or.inr h
  have hS : va_S A s.heap s.heap [] := va_S.rf
  have hl := lv_entry ([.ref (ad 0), .int p0, .ref o]) (n := 4) (Nat.le_of_ble_eq_true rfl)
  rw [lg_entry_eq]
  generalize (lg_sl ([.ref (ad 0), .int p0, .ref o]) ++ List.replicate (4 - (lg_sl ([.ref (ad 0), .int p0, .ref o])).length) Slot.unset).toArray = ls at hl ⊢
  have hl : lv_has ls 4 [(0, .ref (ad 0)), (1, .int p0), (2, .ref o)] := hl
  obtain ⟨H, hHe⟩ : ∃ H : Heap, H = s.heap := ⟨_, rfl⟩
  have hP : va_P (dC, dI) vwCl (((o, zL (ck 1) 1) :: cwX ad g ck pr (nI 0)) ++ va_pl L (fun _ => zI (ck 0))) H := by rw [hHe]; exact hP
  have hS : va_S A s.heap H [] := by rw [hHe]; exact hS
  suffices hgo : W p l e (headSpec vL_inverse ({ frames := 8, cells := 1, slots := 6, locals := 125 })).room s m ([.ref (ad 0), .int p0, .ref o] : List Value).toArray below meth c H [] 0 0 (MQ below (va_Qi (fun (k9 : Int32) (f9 : Nat → Int64) => (k9 = nI 0 ∧ ∃ r : Int32, (fun r => (p0.toInt % pr).toNat ≠ 0 ∧ ∃ z : Nat, r = nI z ∧ invOf pr (p0.toInt % pr).toNat z) r ∧ f9 0 = r.toInt64) ∨ (k9 = nI 1 ∧ (p0.toInt % pr).toNat = 0)) (fun (f9 : Nat → Int64) t => va_P (dC, dI) vwCl [(o, .inl (ck 1, 1, .inr (.inl f9)))] t.heap) A) ([.ref (ad 0), .int p0, .ref o] : List Value).toArray s 1 6 A) (F0 m 0 ls []) by rw [hHe] at hgo; exact hgo
  have hPc : va_P (dC, dI) vwCl (cW ad g ck L pr (nI 0)) H := va_P.part (X := (o, zL (ck 1) 1) :: cwX ad g ck pr (nI 0)) hP [1, 2, 3, 4, 5] rfl
  have hDc : va_D A (cW ad g ck L pr (nI 0)) := va_D.part (X := (o, zL (ck 1) 1) :: cwX ad g ck pr (nI 0)) hD [1, 2, 3, 4, 5] (by decide) rfl
  have hoN : ¬ va_A (cW ad g ck L pr (nI 0)) H.size o := out_apart hP hD
  have hPo : va_P (dC, dI) vwCl [(o, zL (ck 1) 1)] H := fun k9 q9 h9 => hP k9 q9 (out_first h9)
  have hDo : va_D A [(o, zL (ck 1) 1)] := out_one (hD.2 0 _ rfl)
  refine lv_aload_n hx hb dL_inverse_0 rfl (lv_at hl 2 rfl) ?_
  refine lv_iconst (v := nI 0) hx hb dL_inverse_1 (by decide +kernel) ?_
  refine lv_aload_n hx hb dL_inverse_2 rfl (lv_at hl 0 rfl) ?_
  refine lv_iload_n hx hb dL_inverse_3 rfl (lv_at hl 1 rfl) ?_
  refine vx_calli (vx_runV (As := [.int p0]) (rest := [.int (nI 0), .ref o]) ⟨hx, hb, hml, hown, hts⟩ (c_X4_inverse l hnt dC dI ad g ck sa L pr hok H.size p0) (cwV 1 hts (gLv (by decide +kernel)) rfl rfl rfl (by decide +kernel) ⟨Nat.le_of_ble_eq_true rfl, Nat.le_of_ble_eq_true rfl⟩) ⟨cP_blind, va_recv hK hPc (ci := 5) (q0 := 0) rfl rfl, cP_of hPc hK hDc hS hA hX⟩ rfl rfl hl.1 rfl (lv_room (Nat.le_of_ble_eq_true rfl)) dL_inverse_4 ⟨Nat.le_of_ble_eq_true rfl, Nat.le_of_ble_eq_true rfl⟩) hS (fun q _ h => cF hDc hS hA q h) (cF hDc hS hA) (fun q _ h => cF hDc hS hA q h) (fun E ce q9 u t H1 locs1 ht hvm hpx hE hz hk hS h1 h2 h3 => ?_) (fun r0 u t H1 locs1 ht hvm hw hB hz hk hS => ?_)
  · have hPo : va_P (dC, dI) vwCl [(o, zL (ck 1) 1)] H1 := out_kept hPo hoN hk
    generalize H1 = H at hPo hS h1 ⊢
    obtain ⟨rfl, hE⟩ := hE
    refine vx_catch (pc := 4) (name := nmE) hown [] ⟨0, 9, 12, 31⟩ [] (htab.trans rfl) (fun z hz => nomatch hz) (by decide) (by decide) (hts (.classLink RL 31 nmE) (by decide +kernel)) (va_Nw.use rfl (hX.1 (.castable nmE nmE) (by decide +kernel))) h1 h2 h3 ?_
    refine lv_astore_n (lv' := [(3, .ref q9), (0, .ref (ad 0)), (1, .int p0), (2, .ref o)]) hx hb dL_inverse_12 rfl hl (by decide) rfl (fun ls hl => ?_)
    refine lv_iconst (v := nI 1) hx hb dL_inverse_13 (by decide +kernel) ?_
    refine W.widen (k := 1) (n := 6) (by decide) (by decide) ?_
    refine W.iret hx hb hr (fun t ht hW => ⟨⟨_, _, rfl, ?_, by show va_P _ _ _ t.heap; rw [ht]; exact hPo⟩, hS.F ht⟩) hS.2.2 dL_inverse_14
    exact Or.inr ⟨rfl, hE⟩
  have hPo : va_P (dC, dI) vwCl [(o, zL (ck 1) 1)] H1 := out_kept hPo hoN hk
  generalize H1 = H at hPo hS ⊢
  refine lv_i2l (v := r0.toInt64) hx hb dL_inverse_7 (rfl) ?_
  refine va_last hx hb hK hPo hDo hS 0 1 rfl rfl (vp_in_nI (by decide) (by decide)) dL_inverse_8 (fun H locs hPo hDo hS => ?_)
  have hPo : va_P (dC, dI) vwCl [(o, .inl (ck 1, 1, .inr (.inl (vp_updL (fun _ => 0) (nI 0).toNatClampNeg r0.toInt64))))] H := hPo
  refine lv_goto (tgt := 15) hx hb dL_inverse_9 (by decide) ?_
  refine lv_iconst (v := nI 0) hx hb dL_inverse_15 (by decide +kernel) ?_
  refine W.widen (k := 1) (n := 6) (by decide) (by decide) ?_
  refine W.iret hx hb hr (fun t ht hW => ⟨⟨_, _, rfl, ?_, by show va_P _ _ _ t.heap; rw [ht]; exact hPo⟩, hS.F ht⟩) hS.2.2 dL_inverse_16
  exact Or.inl ⟨rfl, r0, hw, pk_uLs⟩

abbrev vL_lift : List Cond := .codeWith yL_lift cL_lift 5 (some .int) [(0, 10, 13, 19), (0, 10, 17, 13), (0, 10, 21, 25)] :: lWS
set_option maxHeartbeats 4000000 in
set_option maxRecDepth 100000 in
/-- lift -/
theorem c_L_lift (l : Launch) (hnt : l.stackTraces = false) (dC : Nat → ClassId) (dI : Nat → Nat → Nat) (ad : Nat → Nat) (g : Nat → Option Nat) (ck : Nat → ClassId) (sa : Nat → Nat) (L : List Nat) (pr : Nat) (hok : cOk ad g L pr) (o sz : Nat) (p0 p1 : Int32) : Met l yL_lift vL_lift ({ frames := 9, cells := 1, slots := 6, locals := 148 }) (va_Pc [.ref (ad 0), .int p0, .int p1, .ref o] (fun U => cP (dC, dI) ck sa (((o, zL (ck 1) 1) :: cwX ad g ck pr (nI 0)) ++ va_pl L (fun _ => zI (ck 0))) sz U ∧ lNc U)) (va_Qi (fun (k9 : Int32) (f9 : Nat → Int64) => (k9 = nI 0 ∧ ∃ r : Int32, (fun _ => False) r ∧ f9 0 = r.toInt64) ∨ (k9 = nI 1)) (fun (f9 : Nat → Int64) t => va_P (dC, dI) vwCl [(o, .inl (ck 1, 1, .inr (.inl f9)))] t.heap) (va_A (((o, zL (ck 1) 1) :: cwX ad g ck pr (nI 0)) ++ va_pl L (fun _ => zI (ck 0))) sz)) 1 6 (va_A (((o, zL (ck 1) 1) :: cwX ad g ck pr (nI 0)) ++ va_pl L (fun _ => zI (ck 0))) sz) := by
  refine va_MetW (cc := cL_lift) (maxL := 5) (ret := (some .int)) (hh := [(0, 10, 13, 19), (0, 10, 17, 13), (0, 10, 21, 25)]) (by decide +kernel) rfl ?_
  intro p e s m args below meth c s₁ B hml hv
  obtain ⟨rfl, ⟨hsz, hP, hK, hD0, hX⟩, hN9⟩ := hv
  have hx := B.exec
  have hb := B.bytes
  have hr := B.returns
  have hts := atoms_spec (ws := vL_lift) B.pre
  have htab := vx_table (x := yL_lift) B (hts (.codeWith yL_lift cL_lift 5 (some .int) [(0, 10, 13, 19), (0, 10, 17, 13), (0, 10, 21, 25)]) List.mem_cons_self)
  have hown : s.vm.findClass RL = some m.cls := findClass_of_methodNamed B.named
  have hlocks := B.notSynchronized
  subst hsz
  have hD := hD0.self (sz := s.heap.size)
  generalize hAe : va_A (((o, zL (ck 1) 1) :: cwX ad g ck pr (nI 0)) ++ va_pl L (fun _ => zI (ck 0))) s.heap.size = A at hD hX ⊢
  have hA : ∀ q : Nat, s.heap.size ≤ q → A q := fun q h => by rw [← hAe]; exact Or.inr h
  have hS : va_S A s.heap s.heap [] := va_S.rf
  have hl := lv_entry ([.ref (ad 0), .int p0, .int p1, .ref o]) (n := 5) (Nat.le_of_ble_eq_true rfl)
  rw [lg_entry_eq]
  generalize (lg_sl ([.ref (ad 0), .int p0, .int p1, .ref o]) ++ List.replicate (5 - (lg_sl ([.ref (ad 0), .int p0, .int p1, .ref o])).length) Slot.unset).toArray = ls at hl ⊢
  have hl : lv_has ls 5 [(0, .ref (ad 0)), (1, .int p0), (2, .int p1), (3, .ref o)] := hl
  obtain ⟨H, hHe⟩ : ∃ H : Heap, H = s.heap := ⟨_, rfl⟩
  have hP : va_P (dC, dI) vwCl (((o, zL (ck 1) 1) :: cwX ad g ck pr (nI 0)) ++ va_pl L (fun _ => zI (ck 0))) H := by rw [hHe]; exact hP
  have hS : va_S A s.heap H [] := by rw [hHe]; exact hS
  suffices hgo : W p l e (headSpec vL_lift ({ frames := 9, cells := 1, slots := 6, locals := 148 })).room s m ([.ref (ad 0), .int p0, .int p1, .ref o] : List Value).toArray below meth c H [] 0 0 (MQ below (va_Qi (fun (k9 : Int32) (f9 : Nat → Int64) => (k9 = nI 0 ∧ ∃ r : Int32, (fun _ => False) r ∧ f9 0 = r.toInt64) ∨ (k9 = nI 1)) (fun (f9 : Nat → Int64) t => va_P (dC, dI) vwCl [(o, .inl (ck 1, 1, .inr (.inl f9)))] t.heap) A) ([.ref (ad 0), .int p0, .int p1, .ref o] : List Value).toArray s 1 6 A) (F0 m 0 ls []) by rw [hHe] at hgo; exact hgo
  have hPc : va_P (dC, dI) vwCl (cW ad g ck L pr (nI 0)) H := va_P.part (X := (o, zL (ck 1) 1) :: cwX ad g ck pr (nI 0)) hP [1, 2, 3, 4, 5] rfl
  have hDc : va_D A (cW ad g ck L pr (nI 0)) := va_D.part (X := (o, zL (ck 1) 1) :: cwX ad g ck pr (nI 0)) hD [1, 2, 3, 4, 5] (by decide) rfl
  have hoN : ¬ va_A (cW ad g ck L pr (nI 0)) H.size o := out_apart hP hD
  have hPo : va_P (dC, dI) vwCl [(o, zL (ck 1) 1)] H := fun k9 q9 h9 => hP k9 q9 (out_first h9)
  have hDo : va_D A [(o, zL (ck 1) 1)] := out_one (hD.2 0 _ rfl)
  refine lv_aload_n hx hb dL_lift_0 rfl (lv_at hl 3 rfl) ?_
  refine lv_iconst (v := nI 0) hx hb dL_lift_1 (by decide +kernel) ?_
  refine lv_aload_n hx hb dL_lift_2 rfl (lv_at hl 0 rfl) ?_
  refine lv_iload_n hx hb dL_lift_3 rfl (lv_at hl 1 rfl) ?_
  refine lv_iload_n hx hb dL_lift_4 rfl (lv_at hl 2 rfl) ?_
  refine vx_calli (vx_runV (As := [.int p0, .int p1]) (rest := [.int (nI 0), .ref o]) ⟨hx, hb, hml, hown, hts⟩ (c_X4_lift l hnt dC dI ad g ck sa L pr hok H.size p0 p1) (cwV 2 hts (gLv (by decide +kernel)) rfl rfl rfl (by decide +kernel) ⟨Nat.le_of_ble_eq_true rfl, Nat.le_of_ble_eq_true rfl⟩) ⟨cP_blind, va_recv hK hPc (ci := 5) (q0 := 0) rfl rfl, cP_of hPc hK hDc hS hA hX⟩ rfl rfl hl.1 rfl (lv_room (Nat.le_of_ble_eq_true rfl)) dL_lift_5 ⟨Nat.le_of_ble_eq_true rfl, Nat.le_of_ble_eq_true rfl⟩) hS (fun q _ h => cF hDc hS hA q h) (cF hDc hS hA) (fun q _ h => cF hDc hS hA q h) (fun E ce q9 u t H1 locs1 ht hvm hpx hE hz hk hS h1 h2 h3 => ?_) (fun r0 u t H1 locs1 ht hvm hw hB hz hk hS => ?_)
  · have hPo : va_P (dC, dI) vwCl [(o, zL (ck 1) 1)] H1 := out_kept hPo hoN hk
    generalize H1 = H at hPo hS h1 ⊢
    obtain rfl := hE
    refine vx_catch (pc := 5) (name := nmA) hown [] ⟨0, 10, 13, 19⟩ [⟨0, 10, 17, 13⟩, ⟨0, 10, 21, 25⟩] (htab.trans rfl) (fun z hz => nomatch hz) (by decide) (by decide) (hts (.classLink RL 19 nmA) (by decide +kernel)) (va_Nw.use rfl (hX.1 (.castable nmA nmA) (by decide +kernel))) h1 h2 h3 ?_
    refine lv_astore (lv' := [(4, .ref q9), (0, .ref (ad 0)), (1, .int p0), (2, .int p1), (3, .ref o)]) hx hb dL_lift_13 hl (by decide) rfl (fun ls hl => ?_)
    refine lv_iconst (v := nI 1) hx hb dL_lift_15 (by decide +kernel) ?_
    refine W.widen (k := 1) (n := 6) (by decide) (by decide) ?_
    refine W.iret hx hb hr (fun t ht hW => ⟨⟨_, _, rfl, ?_, by show va_P _ _ _ t.heap; rw [ht]; exact hPo⟩, hS.F ht⟩) hS.2.2 dL_lift_16
    exact Or.inr rfl
  have hPo : va_P (dC, dI) vwCl [(o, zL (ck 1) 1)] H1 := out_kept hPo hoN hk
  generalize H1 = H at hPo hS ⊢
  exact hw.elim
