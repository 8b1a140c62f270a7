abbrev vX4_poly : List Cond := .code yX4_poly cX4_poly 1 (some .int) :: cWS
set_option maxHeartbeats 4000000 in
set_option maxRecDepth 100000 in
/-- poly(), the first call -/
theorem c_X4_poly (l : Launch) (dC : Nat → ClassId) (dI : Nat → Nat → Nat) (ad : Nat → Nat) (g : Nat → Option Nat) (ck : Nat → ClassId) (sa : Nat → Nat) (L : List Nat) (pr : Nat) (hok : cOk ad g L pr) (sz : Nat) : Met l yX4_poly vX4_poly ({ frames := 3, cells := 0, slots := 0, locals := 83 }) (va_Pc [.ref (ad 0)] (cP (dC, dI) ck sa (cW ad g ck L pr (nI 0)) sz)) (va_Qi (fun r (_ : Unit) => (fun r => r = nI 0) r) (fun _ _ => True) (va_A (cW ad g ck L pr (nI 0)) sz)) 0 0 (va_A (cW ad g ck L pr (nI 0)) sz) := by
  refine Met.ofW (cc := cX4_poly) (maxL := 1) (ret := (some .int)) (by decide +kernel) rfl ?_
  intro p e s m args below meth c s₁ B hml hv
  obtain ⟨rfl, hsz, hP, hK, hD0, hX⟩ := hv
  have hx := B.exec
  have hb := B.bytes
  have hr := B.returns
  have hts := atoms_spec (ws := vX4_poly) B.pre
  have hown : s.vm.findClass RX4 = some m.cls := findClass_of_methodNamed B.named
  have hlocks := B.notSynchronized
  subst hsz
  have hD := hD0.self (sz := s.heap.size)
  generalize hAe : va_A (cW ad g ck L pr (nI 0)) s.heap.size = A at hD hX ⊢
  have hA : ∀ q : Nat, s.heap.size ≤ q → A q := fun q h => by rw [← hAe]; exact Or.inr h
  have hS : va_S A s.heap s.heap [] := va_S.rf
  have hinX4 : ∀ w ∈ wsX40, w ∈ vX4_poly := fun w h => List.mem_cons_of_mem _ (inCX4 w h)
  have hl := lv_entry ([.ref (ad 0)]) (n := 1) (Nat.le_of_ble_eq_true rfl)
  rw [lg_entry_eq]
  generalize (lg_sl ([.ref (ad 0)]) ++ List.replicate (1 - (lg_sl ([.ref (ad 0)])).length) Slot.unset).toArray = ls at hl ⊢
  have hl : lv_has ls 1 [(0, .ref (ad 0))] := hl
  obtain ⟨H, hHe⟩ : ∃ H : Heap, H = s.heap := ⟨_, rfl⟩
  have hP : va_P (dC, dI) vwCl (cW ad g ck L pr (nI 0)) H := by rw [hHe]; exact hP
  have hS : va_S A s.heap H [] := by rw [hHe]; exact hS
  suffices hgo : W p l e (headSpec vX4_poly ({ frames := 3, cells := 0, slots := 0, locals := 83 })).room s m ([.ref (ad 0)] : List Value).toArray below meth c H [] 0 0 (MQ below (va_Qi (fun r (_ : Unit) => (fun r => r = nI 0) r) (fun _ _ => True) A) ([.ref (ad 0)] : List Value).toArray s 0 0 A) (F0 m 0 ls []) by rw [hHe] at hgo; exact hgo
  refine lv_aload_n hx hb dX4_poly_0 rfl (lv_at hl 0 rfl) ?_
  refine lv_iconst (v := nI 1) hx hb dX4_poly_1 (by decide +kernel) ?_
  refine cc_v (va_runV (As := [.int (nI 1)]) (rest := []) ⟨hx, hb, hml, hown, hts⟩ (c_X4_needNumbers l dC dI ad g ck sa L pr hok H.size ) (cwV 1 hts (gWv (by decide +kernel)) rfl rfl rfl (by decide +kernel) ⟨Nat.le_of_ble_eq_true rfl, Nat.le_of_ble_eq_true rfl⟩) ⟨cP_blind, va_recv hK hP (ci := 5) (q0 := 0) rfl rfl, cP_of hP hK hD hS hA hX⟩ rfl rfl hl.1 rfl (lv_room (Nat.le_of_ble_eq_true rfl)) dX4_poly_2 ⟨Nat.le_of_ble_eq_true rfl, Nat.le_of_ble_eq_true rfl⟩) hS (cF hD hS hA) (fun H locs hw_1 hP hS => ?_)
  refine lv_aload_n hx hb dX4_poly_5 rfl (lv_at hl 0 rfl) ?_
  refine va_get (D := (dC, dI)) (ci := 5) (v := .ref (ad 7)) (C := RX4) (T := TX4) (N := 10) hx hb hts hinX4 hown hK hP 0 rfl rfl 8 (by decide) (hts (.fieldLink RX4 61 "ResidueRows" "made" "[I") (by decide +kernel)) (fun _ h9 => h9) rfl dX4_poly_6 ?_
  refine lv_iconst (v := nI 0) hx hb dX4_poly_9 (by decide +kernel) ?_
  refine cc_v (va_runS (As := [.ref (ad 7), .int (nI 0)]) (rest := []) ⟨hx, hb, hml, hown, hts⟩ (c_J7_fill_53178 l dC dI ad g ck sa L pr hok H.size (ad 7) hok.1.2.2.2.1) (va_cwS 2 hts (gWs (by decide +kernel)) rfl rfl rfl (by decide +kernel) ⟨Nat.le_of_ble_eq_true rfl, Nat.le_of_ble_eq_true rfl⟩) ⟨cP_blind, cP_of hP hK hD hS hA hX⟩ rfl rfl hl.1 rfl (lv_room (Nat.le_of_ble_eq_true rfl)) dX4_poly_10 ⟨Nat.le_of_ble_eq_true rfl, Nat.le_of_ble_eq_true rfl⟩) hS (cF hD hS hA) (fun H locs hw_2 hP hS => ?_)
  refine lv_aload_n hx hb dX4_poly_13 rfl (lv_at hl 0 rfl) ?_
  refine lv_aload_n hx hb dX4_poly_14 rfl (lv_at hl 0 rfl) ?_
  refine va_get (D := (dC, dI)) (ci := 5) (v := .ref (ad 7)) (C := RX4) (T := TX4) (N := 10) hx hb hts hinX4 hown hK hP 0 rfl rfl 8 (by decide) (hts (.fieldLink RX4 61 "ResidueRows" "made" "[I") (by decide +kernel)) (fun _ h9 => h9) rfl dX4_poly_15 ?_
  refine ct_i (va_runV (As := [.ref (ad 7)]) (rest := []) ⟨hx, hb, hml, hown, hts⟩ (c_X4_keep l dC dI ad g ck sa L pr hok H.size (ad 7) hok.1.2.2.2.1) (cwV 1 hts (gWv (by decide +kernel)) rfl rfl rfl (by decide +kernel) ⟨Nat.le_of_ble_eq_true rfl, Nat.le_of_ble_eq_true rfl⟩) ⟨cP_blind, va_recv hK hP (ci := 5) (q0 := 0) rfl rfl, cP_of hP hK hD hS hA hX⟩ rfl rfl hl.1 rfl (lv_room (Nat.le_of_ble_eq_true rfl)) dX4_poly_18 ⟨Nat.le_of_ble_eq_true rfl, Nat.le_of_ble_eq_true rfl⟩) hS (cF hD hS hA) (fun r_4 H locs hw_3 hS => ?_)
  refine W.iret hx hb hr (fun t ht hW => eTi ?_ (hS.F ht)) hS.2.2 dX4_poly_21
  exact hw_3

abbrev vX4_set : List Cond := .code yX4_set cX4_set 6 (some .boolean) :: cWS
set_option maxHeartbeats 4000000 in
set_option maxRecDepth 100000 in
/-- set(p, k, v), the first call -/
theorem c_X4_set (l : Launch) (hnt : l.stackTraces = false) (dC : Nat → ClassId) (dI : Nat → Nat → Nat) (ad : Nat → Nat) (g : Nat → Option Nat) (ck : Nat → ClassId) (sa : Nat → Nat) (L : List Nat) (pr : Nat) (hok : cOk ad g L pr) (sz : Nat) (p0 p1 p2 : Int32) : vx_Met l yX4_set vX4_set ({ frames := 8, cells := 2, slots := 12, locals := 124 }) (va_Pc [.ref (ad 0), .int p0, .int p1, .int p2] (cP (dC, dI) ck sa (cW ad g ck L pr (nI 0)) sz)) (va_Qi (fun r (_ : Unit) => (fun r => inR p0 96 ∧ inR p1 32 ∧ ((r = nI 1 ∧ (p2.toInt % pr).toNat ≠ 0) ∨ (r = nI 0 ∧ (p2.toInt % pr).toNat = 0))) r) (fun _ _ => True) (va_A (cW ad g ck L pr (nI 0)) sz)) (cXC (fun E => E = nmA ∧ ¬ (inR p0 96 ∧ inR p1 32)) (va_A (cW ad g ck L pr (nI 0)) sz)) 2 12 (va_A (cW ad g ck L pr (nI 0)) sz) := by
  refine vx_ofW (cc := cX4_set) (maxL := 6) (ret := (some .boolean)) (by decide +kernel) rfl ?_
  intro p e s m args below meth c s₁ B hml hnoex hv
  obtain ⟨rfl, hsz, hP, hK, hD0, hX⟩ := hv
  have hx := B.exec
  have hb := B.bytes
  have hr := B.returns
  have hts := atoms_spec (ws := vX4_set) B.pre
  have hown : s.vm.findClass RX4 = some m.cls := findClass_of_methodNamed B.named
  have hlocks := B.notSynchronized
  subst hsz
  have hD := hD0.self (sz := s.heap.size)
  generalize hAe : va_A (cW ad g ck L pr (nI 0)) s.heap.size = A at hD hX ⊢
  have hA : ∀ q : Nat, s.heap.size ≤ q → A q := fun q h => by rw [← hAe]; exact Or.inr h
  have hS : va_S A s.heap s.heap [] := va_S.rf
  have hinX4 : ∀ w ∈ wsX40, w ∈ vX4_set := fun w h => List.mem_cons_of_mem _ (inCX4 w h)
  have hl := lv_entry ([.ref (ad 0), .int p0, .int p1, .int p2]) (n := 6) (Nat.le_of_ble_eq_true rfl)
  rw [lg_entry_eq]
  generalize (lg_sl ([.ref (ad 0), .int p0, .int p1, .int p2]) ++ List.replicate (6 - (lg_sl ([.ref (ad 0), .int p0, .int p1, .int p2])).length) Slot.unset).toArray = ls at hl ⊢
  have hl : lv_has ls 6 [(0, .ref (ad 0)), (1, .int p0), (2, .int p1), (3, .int p2)] := hl
  obtain ⟨H, hHe⟩ : ∃ H : Heap, H = s.heap := ⟨_, rfl⟩
  have hP : va_P (dC, dI) vwCl (cW ad g ck L pr (nI 0)) H := by rw [hHe]; exact hP
  have hS : va_S A s.heap H [] := by rw [hHe]; exact hS
  suffices hgo : W p l e (headSpec vX4_set ({ frames := 8, cells := 2, slots := 12, locals := 124 })).room s m ([.ref (ad 0), .int p0, .int p1, .int p2] : List Value).toArray below meth c H [] 0 0 (vx_MQ below (va_Qi (fun r (_ : Unit) => (fun r => inR p0 96 ∧ inR p1 32 ∧ ((r = nI 1 ∧ (p2.toInt % pr).toNat ≠ 0) ∨ (r = nI 0 ∧ (p2.toInt % pr).toNat = 0))) r) (fun _ _ => True) A) (cXC (fun E => E = nmA ∧ ¬ (inR p0 96 ∧ inR p1 32)) A) ([.ref (ad 0), .int p0, .int p1, .int p2] : List Value).toArray s 2 12 A) (F0 m 0 ls []) by rw [hHe] at hgo; exact hgo
  refine lv_aload_n hx hb dX4_set_0 rfl (lv_at hl 0 rfl) ?_
  refine lv_iload_n hx hb dX4_set_1 rfl (lv_at hl 1 rfl) ?_
  refine cx_v (vx_runV (As := [.int p0]) (rest := []) ⟨hx, hb, hml, hown, hts⟩ (c_X4_needPolynomial l hnt dC dI ad g ck sa L pr hok H.size p0) (cwV 1 hts (gWv (by decide +kernel)) rfl rfl rfl (by decide +kernel) ⟨Nat.le_of_ble_eq_true rfl, Nat.le_of_ble_eq_true rfl⟩) ⟨cP_blind, va_recv hK hP (ci := 5) (q0 := 0) rfl rfl, cP_of hP hK hD hS hA hX⟩ rfl rfl hl.1 rfl (lv_room (Nat.le_of_ble_eq_true rfl)) dX4_set_2 ⟨Nat.le_of_ble_eq_true rfl, Nat.le_of_ble_eq_true rfl⟩) hS (cF hD hS hA) (fun E ce q9 H locs hE hS h1 h2 h3 => ?_) (fun H locs hw_1 hP hS => ?_)
  · refine vx_widen (k := 2) (n := 12) (by decide) (by decide) ?_
    exact vx_out (fun x hx9 => (hnoex x hx9).elim) hlocks h1 h2 h3 (fun t ht _ => cXC_on (⟨hE.1, fun h => hE.2 h.1⟩) hS ht) hS.2.2 (by decide) (by decide)
  obtain ⟨i, hi, rfl⟩ := hw_1
  refine lv_aload_n hx hb dX4_set_5 rfl (lv_at hl 0 rfl) ?_
  refine lv_iload_n hx hb dX4_set_6 rfl (lv_at hl 2 rfl) ?_
  refine cx_v (vx_runV (As := [.int p1]) (rest := []) ⟨hx, hb, hml, hown, hts⟩ (c_X4_needCoefficient l hnt dC dI ad g ck sa L pr hok H.size p1) (cwV 1 hts (gWv (by decide +kernel)) rfl rfl rfl (by decide +kernel) ⟨Nat.le_of_ble_eq_true rfl, Nat.le_of_ble_eq_true rfl⟩) ⟨cP_blind, va_recv hK hP (ci := 5) (q0 := 0) rfl rfl, cP_of hP hK hD hS hA hX⟩ rfl rfl hl.1 rfl (lv_room (Nat.le_of_ble_eq_true rfl)) dX4_set_7 ⟨Nat.le_of_ble_eq_true rfl, Nat.le_of_ble_eq_true rfl⟩) hS (cF hD hS hA) (fun E ce q9 H locs hE hS h1 h2 h3 => ?_) (fun H locs hw_2 hP hS => ?_)
  · refine vx_widen (k := 2) (n := 12) (by decide) (by decide) ?_
    exact vx_out (fun x hx9 => (hnoex x hx9).elim) hlocks h1 h2 h3 (fun t ht _ => cXC_on (⟨hE.1, fun h => hE.2 h.2⟩) hS ht) hS.2.2 (by decide) (by decide)
  obtain ⟨k, hk, rfl⟩ := hw_2
  obtain ⟨y, hy, hyL⟩ := hok.1.1 i hi
  refine lv_aload_n hx hb dX4_set_10 rfl (lv_at hl 0 rfl) ?_
  refine va_get (D := (dC, dI)) (ci := 5) (v := .ref (ad 1)) (C := RX4) (T := TX4) (N := 10) hx hb hts hinX4 hown hK hP 0 rfl rfl 1 (by decide) (hts (.fieldLink RX4 19 "ResidueRows" "rows" "[[I") (by decide +kernel)) (fun _ h9 => h9) rfl dX4_set_11 ?_
  refine lv_iload_n hx hb dX4_set_14 rfl (lv_at hl 1 rfl) ?_
  refine zg_ld hx hb hK hP 1 2 rfl rfl (i := i) hi (by decide) hy dX4_set_15 ?_
  refine lv_astore (lv' := [(4, .ref y), (0, .ref (ad 0)), (1, .int (nI i)), (2, .int (nI k)), (3, .int p2)]) hx hb dX4_set_16 hl (by decide) rfl (fun ls hl => ?_)
  refine lv_aload hx hb dX4_set_18 (lv_at hl 0 rfl) ?_
  refine lv_iload_n hx hb dX4_set_20 rfl (lv_at hl 3 rfl) ?_
  refine zi_ld hx hb hK hP 0 rfl hyL (vp_in_nI (by omega) (by decide)) dX4_set_21 ?_
  refine lv_istore (lv' := [(5, .int (nI 0)), (4, .ref y), (0, .ref (ad 0)), (1, .int (nI i)), (2, .int (nI k)), (3, .int p2)]) hx hb dX4_set_22 hl (by decide) rfl (fun ls hl => ?_)
  refine lv_aload_n hx hb dX4_set_24 rfl (lv_at hl 2 rfl) ?_
  refine lv_iload_n hx hb dX4_set_25 rfl (lv_at hl 3 rfl) ?_
  refine lv_aload hx hb dX4_set_26 (lv_at hl 1 rfl) ?_
  refine cc_v (va_runV (As := [.int (nI i), .ref y]) (rest := []) ⟨hx, hb, hml, hown, hts⟩ (c_X4_readResidues l dC dI ad g ck sa L pr hok H.size i hi y hyL) (cwV 2 hts (gWv (by decide +kernel)) rfl rfl rfl (by decide +kernel) ⟨Nat.le_of_ble_eq_true rfl, Nat.le_of_ble_eq_true rfl⟩) ⟨cP_blind, va_recv hK hP (ci := 5) (q0 := 0) rfl rfl, cP_of hP hK hD hS hA hX⟩ rfl rfl hl.1 rfl (lv_room (Nat.le_of_ble_eq_true rfl)) dX4_set_28 ⟨Nat.le_of_ble_eq_true rfl, Nat.le_of_ble_eq_true rfl⟩) hS (cF hD hS hA) (fun H locs hw_3 hP hS => ?_)
  refine lv_aload hx hb dX4_set_31 (lv_at hl 1 rfl) ?_
  refine lv_iload_n hx hb dX4_set_33 rfl (lv_at hl 4 rfl) ?_
  refine lv_iload_n hx hb dX4_set_34 rfl (lv_at hl 5 rfl) ?_
  refine lv_aload_n hx hb dX4_set_35 rfl (lv_at hl 2 rfl) ?_
  refine va_get (D := (dC, dI)) (ci := 5) (v := .int (nI pr)) (C := RX4) (T := TX4) (N := 10) hx hb hts hinX4 hown hK hP 0 rfl rfl 0 (by decide) (hts (.fieldLink RX4 13 "ResidueRows" "prime" "I") (by decide +kernel)) (fun _ h9 => h9) rfl dX4_set_36 ?_
  refine pc_i (va_runS (As := [.int p2, .int (nI pr)]) (rest := [.int (nI k), .ref y]) ⟨hx, hb, hml, hown, hts⟩ (c_J9_floorMod_7cf53 l p2 (by have := hok.2.1.1; omega) hok.2.2) (va_cwS 2 hts (gWp (by decide +kernel) inJ9_floorMod_7cf53) rfl rfl rfl (by decide +kernel) ⟨Nat.le_of_ble_eq_true rfl, Nat.le_of_ble_eq_true rfl⟩) pPc_S rfl rfl hl.1 rfl (lv_room (Nat.le_of_ble_eq_true rfl)) dX4_set_39 ⟨Nat.le_of_ble_eq_true rfl, Nat.le_of_ble_eq_true rfl⟩) hS (fun rq H9 locs9 hq hz9 hk9 hS => ?_)
  have hP := hP.kept (fun k x hx => hk9 x.1 ((hP k x hx).lt))
  generalize H9 = H at hP hS ⊢
  refine zi_put hx hb hK hP hD hS 0 rfl hyL (vp_in_nI hk (by decide)) dX4_set_42 (fun H locs hP hS => ?_)
  refine lv_aload hx hb dX4_set_43 (lv_at hl 1 rfl) ?_
  refine lv_iload_n hx hb dX4_set_45 rfl (lv_at hl 4 rfl) ?_
  refine va_iald hx hb hK hP 0 0 rfl rfl (vp_in_nI hk (by decide)) dX4_set_46 ?_
  refine zz_i (y := rq) (pk_us) ?_
  refine lv_iload hx hb dX4_set_47 (lv_at hl 0 rfl) ?_
  have hq9 : (p2.toInt % pr).toNat < 2 ^ 31 := by have h1 := Int.emod_lt_of_pos p2.toInt (show (0 : Int) < pr by have := hok.2.1.1; omega); have h2 := hok.2.2; omega
  refine lv_icmp_eq (tgt := 56) hx hb dX4_set_49 (by decide) (fun hc49 => ?_) (fun hc49 => ?_)
  · refine lv_iconst (v := nI 0) hx hb dX4_set_56 (by decide +kernel) ?_
    refine vx_ret ?_
    refine W.zret hx hb hr (by rfl) (fun t ht hW => eTi ?_ (hS.F ht)) hS.2.2 dX4_set_57
    exact ⟨⟨i, hi, rfl⟩, ⟨k, hk, rfl⟩, Or.inr ⟨rfl, (nI_eq hq9 (by decide)).mp (hq.symm.trans hc49)⟩⟩
  · refine lv_iconst (v := nI 1) hx hb dX4_set_52 (by decide +kernel) ?_
    refine lv_goto (tgt := 57) hx hb dX4_set_53 (by decide) ?_
    refine vx_ret ?_
    refine W.zret hx hb hr (by rfl) (fun t ht hW => eTi ?_ (hS.F ht)) hS.2.2 dX4_set_57
    exact ⟨⟨i, hi, rfl⟩, ⟨k, hk, rfl⟩, Or.inl ⟨rfl, fun h => hc49 (by rw [hq, h])⟩⟩

abbrev vX4_times : List Cond := .code yX4_times cX4_times 3 (some .int) :: cWS
set_option maxHeartbeats 4000000 in
set_option maxRecDepth 100000 in
/-- times(a, b), the first call -/
theorem c_X4_times (l : Launch) (hnt : l.stackTraces = false) (dC : Nat → ClassId) (dI : Nat → Nat → Nat) (ad : Nat → Nat) (g : Nat → Option Nat) (ck : Nat → ClassId) (sa : Nat → Nat) (L : List Nat) (pr : Nat) (hok : cOk ad g L pr) (sz : Nat) (p0 p1 : Int32) : vx_Met l yX4_times vX4_times ({ frames := 8, cells := 2, slots := 12, locals := 124 }) (va_Pc [.ref (ad 0), .int p0, .int p1] (cP (dC, dI) ck sa (cW ad g ck L pr (nI 0)) sz)) (va_Qi (fun r (_ : Unit) => (fun r => inR p0 96 ∧ inR p1 96 ∧ r = nI 0) r) (fun _ _ => True) (va_A (cW ad g ck L pr (nI 0)) sz)) (cXC (fun E => E = nmA ∧ ¬ (inR p0 96 ∧ inR p1 96)) (va_A (cW ad g ck L pr (nI 0)) sz)) 2 12 (va_A (cW ad g ck L pr (nI 0)) sz) := by
  refine vx_ofW (cc := cX4_times) (maxL := 3) (ret := (some .int)) (by decide +kernel) rfl ?_
  intro p e s m args below meth c s₁ B hml hnoex hv
  obtain ⟨rfl, hsz, hP, hK, hD0, hX⟩ := hv
  have hx := B.exec
  have hb := B.bytes
  have hr := B.returns
  have hts := atoms_spec (ws := vX4_times) B.pre
  have hown : s.vm.findClass RX4 = some m.cls := findClass_of_methodNamed B.named
  have hlocks := B.notSynchronized
  subst hsz
  have hD := hD0.self (sz := s.heap.size)
  generalize hAe : va_A (cW ad g ck L pr (nI 0)) s.heap.size = A at hD hX ⊢
  have hA : ∀ q : Nat, s.heap.size ≤ q → A q := fun q h => by rw [← hAe]; exact Or.inr h
  have hS : va_S A s.heap s.heap [] := va_S.rf
  have hinX4 : ∀ w ∈ wsX40, w ∈ vX4_times := fun w h => List.mem_cons_of_mem _ (inCX4 w h)
  have hl := lv_entry ([.ref (ad 0), .int p0, .int p1]) (n := 3) (Nat.le_of_ble_eq_true rfl)
  rw [lg_entry_eq]
  generalize (lg_sl ([.ref (ad 0), .int p0, .int p1]) ++ List.replicate (3 - (lg_sl ([.ref (ad 0), .int p0, .int p1])).length) Slot.unset).toArray = ls at hl ⊢
  have hl : lv_has ls 3 [(0, .ref (ad 0)), (1, .int p0), (2, .int p1)] := hl
  obtain ⟨H, hHe⟩ : ∃ H : Heap, H = s.heap := ⟨_, rfl⟩
  have hP : va_P (dC, dI) vwCl (cW ad g ck L pr (nI 0)) H := by rw [hHe]; exact hP
  have hS : va_S A s.heap H [] := by rw [hHe]; exact hS
  suffices hgo : W p l e (headSpec vX4_times ({ frames := 8, cells := 2, slots := 12, locals := 124 })).room s m ([.ref (ad 0), .int p0, .int p1] : List Value).toArray below meth c H [] 0 0 (vx_MQ below (va_Qi (fun r (_ : Unit) => (fun r => inR p0 96 ∧ inR p1 96 ∧ r = nI 0) r) (fun _ _ => True) A) (cXC (fun E => E = nmA ∧ ¬ (inR p0 96 ∧ inR p1 96)) A) ([.ref (ad 0), .int p0, .int p1] : List Value).toArray s 2 12 A) (F0 m 0 ls []) by rw [hHe] at hgo; exact hgo
  refine lv_aload_n hx hb dX4_times_0 rfl (lv_at hl 0 rfl) ?_
  refine lv_iload_n hx hb dX4_times_1 rfl (lv_at hl 1 rfl) ?_
  refine cx_v (vx_runV (As := [.int p0]) (rest := []) ⟨hx, hb, hml, hown, hts⟩ (c_X4_needPolynomial l hnt dC dI ad g ck sa L pr hok H.size p0) (cwV 1 hts (gWv (by decide +kernel)) rfl rfl rfl (by decide +kernel) ⟨Nat.le_of_ble_eq_true rfl, Nat.le_of_ble_eq_true rfl⟩) ⟨cP_blind, va_recv hK hP (ci := 5) (q0 := 0) rfl rfl, cP_of hP hK hD hS hA hX⟩ rfl rfl hl.1 rfl (lv_room (Nat.le_of_ble_eq_true rfl)) dX4_times_2 ⟨Nat.le_of_ble_eq_true rfl, Nat.le_of_ble_eq_true rfl⟩) hS (cF hD hS hA) (fun E ce q9 H locs hE hS h1 h2 h3 => ?_) (fun H locs hw_1 hP hS => ?_)
  · refine vx_widen (k := 2) (n := 12) (by decide) (by decide) ?_
    exact vx_out (fun x hx9 => (hnoex x hx9).elim) hlocks h1 h2 h3 (fun t ht _ => cXC_on (⟨hE.1, fun h => hE.2 h.1⟩) hS ht) hS.2.2 (by decide) (by decide)
  obtain ⟨i, hi, rfl⟩ := hw_1
  refine lv_aload_n hx hb dX4_times_5 rfl (lv_at hl 0 rfl) ?_
  refine lv_iload_n hx hb dX4_times_6 rfl (lv_at hl 2 rfl) ?_
  refine cx_v (vx_runV (As := [.int p1]) (rest := []) ⟨hx, hb, hml, hown, hts⟩ (c_X4_needPolynomial l hnt dC dI ad g ck sa L pr hok H.size p1) (cwV 1 hts (gWv (by decide +kernel)) rfl rfl rfl (by decide +kernel) ⟨Nat.le_of_ble_eq_true rfl, Nat.le_of_ble_eq_true rfl⟩) ⟨cP_blind, va_recv hK hP (ci := 5) (q0 := 0) rfl rfl, cP_of hP hK hD hS hA hX⟩ rfl rfl hl.1 rfl (lv_room (Nat.le_of_ble_eq_true rfl)) dX4_times_7 ⟨Nat.le_of_ble_eq_true rfl, Nat.le_of_ble_eq_true rfl⟩) hS (cF hD hS hA) (fun E ce q9 H locs hE hS h1 h2 h3 => ?_) (fun H locs hw_2 hP hS => ?_)
  · refine vx_widen (k := 2) (n := 12) (by decide) (by decide) ?_
    exact vx_out (fun x hx9 => (hnoex x hx9).elim) hlocks h1 h2 h3 (fun t ht _ => cXC_on (⟨hE.1, fun h => hE.2 h.2⟩) hS ht) hS.2.2 (by decide) (by decide)
  obtain ⟨k, hk, rfl⟩ := hw_2
  refine lv_aload_n hx hb dX4_times_10 rfl (lv_at hl 0 rfl) ?_
  refine lv_iconst (v := nI 1) hx hb dX4_times_11 (by decide +kernel) ?_
  refine cc_v (va_runV (As := [.int (nI 1)]) (rest := []) ⟨hx, hb, hml, hown, hts⟩ (c_X4_needNumbers l dC dI ad g ck sa L pr hok H.size ) (cwV 1 hts (gWv (by decide +kernel)) rfl rfl rfl (by decide +kernel) ⟨Nat.le_of_ble_eq_true rfl, Nat.le_of_ble_eq_true rfl⟩) ⟨cP_blind, va_recv hK hP (ci := 5) (q0 := 0) rfl rfl, cP_of hP hK hD hS hA hX⟩ rfl rfl hl.1 rfl (lv_room (Nat.le_of_ble_eq_true rfl)) dX4_times_12 ⟨Nat.le_of_ble_eq_true rfl, Nat.le_of_ble_eq_true rfl⟩) hS (cF hD hS hA) (fun H locs hw_3 hP hS => ?_)
  refine lv_aload_n hx hb dX4_times_15 rfl (lv_at hl 0 rfl) ?_
  refine lv_iload_n hx hb dX4_times_16 rfl (lv_at hl 1 rfl) ?_
  refine lv_aload_n hx hb dX4_times_17 rfl (lv_at hl 0 rfl) ?_
  refine va_get (D := (dC, dI)) (ci := 5) (v := .ref (ad 5)) (C := RX4) (T := TX4) (N := 10) hx hb hts hinX4 hown hK hP 0 rfl rfl 6 (by decide) (hts (.fieldLink RX4 54 "ResidueRows" "left" "[I") (by decide +kernel)) (fun _ h9 => h9) rfl dX4_times_18 ?_
  refine cc_v (va_runV (As := [.int (nI i), .ref (ad 5)]) (rest := []) ⟨hx, hb, hml, hown, hts⟩ (c_X4_readResidues l dC dI ad g ck sa L pr hok H.size i hi (ad 5) hok.1.2.1) (cwV 2 hts (gWv (by decide +kernel)) rfl rfl rfl (by decide +kernel) ⟨Nat.le_of_ble_eq_true rfl, Nat.le_of_ble_eq_true rfl⟩) ⟨cP_blind, va_recv hK hP (ci := 5) (q0 := 0) rfl rfl, cP_of hP hK hD hS hA hX⟩ rfl rfl hl.1 rfl (lv_room (Nat.le_of_ble_eq_true rfl)) dX4_times_21 ⟨Nat.le_of_ble_eq_true rfl, Nat.le_of_ble_eq_true rfl⟩) hS (cF hD hS hA) (fun H locs hw_4 hP hS => ?_)
  refine lv_aload_n hx hb dX4_times_24 rfl (lv_at hl 0 rfl) ?_
  refine lv_iload_n hx hb dX4_times_25 rfl (lv_at hl 2 rfl) ?_
  refine lv_aload_n hx hb dX4_times_26 rfl (lv_at hl 0 rfl) ?_
  refine va_get (D := (dC, dI)) (ci := 5) (v := .ref (ad 6)) (C := RX4) (T := TX4) (N := 10) hx hb hts hinX4 hown hK hP 0 rfl rfl 7 (by decide) (hts (.fieldLink RX4 58 "ResidueRows" "right" "[I") (by decide +kernel)) (fun _ h9 => h9) rfl dX4_times_27 ?_
  refine cc_v (va_runV (As := [.int (nI k), .ref (ad 6)]) (rest := []) ⟨hx, hb, hml, hown, hts⟩ (c_X4_readResidues l dC dI ad g ck sa L pr hok H.size k hk (ad 6) hok.1.2.2.1) (cwV 2 hts (gWv (by decide +kernel)) rfl rfl rfl (by decide +kernel) ⟨Nat.le_of_ble_eq_true rfl, Nat.le_of_ble_eq_true rfl⟩) ⟨cP_blind, va_recv hK hP (ci := 5) (q0 := 0) rfl rfl, cP_of hP hK hD hS hA hX⟩ rfl rfl hl.1 rfl (lv_room (Nat.le_of_ble_eq_true rfl)) dX4_times_30 ⟨Nat.le_of_ble_eq_true rfl, Nat.le_of_ble_eq_true rfl⟩) hS (cF hD hS hA) (fun H locs hw_5 hP hS => ?_)
  refine lv_aload_n hx hb dX4_times_33 rfl (lv_at hl 0 rfl) ?_
  refine va_get (D := (dC, dI)) (ci := 5) (v := .ref (ad 5)) (C := RX4) (T := TX4) (N := 10) hx hb hts hinX4 hown hK hP 0 rfl rfl 6 (by decide) (hts (.fieldLink RX4 54 "ResidueRows" "left" "[I") (by decide +kernel)) (fun _ h9 => h9) rfl dX4_times_34 ?_
  refine cc_i (va_runS (As := [.ref (ad 5)]) (rest := []) ⟨hx, hb, hml, hown, hts⟩ (c_X4_degree l dC dI ad g ck sa L pr hok H.size (ad 5) hok.1.2.1) (va_cwS 1 hts (gWs (by decide +kernel)) rfl rfl rfl (by decide +kernel) ⟨Nat.le_of_ble_eq_true rfl, Nat.le_of_ble_eq_true rfl⟩) ⟨cP_blind, cP_of hP hK hD hS hA hX⟩ rfl rfl hl.1 rfl (lv_room (Nat.le_of_ble_eq_true rfl)) dX4_times_37 ⟨Nat.le_of_ble_eq_true rfl, Nat.le_of_ble_eq_true rfl⟩) hS (cF hD hS hA) (fun r_7 H locs hw_6 hP hS => ?_)
  subst hw_6
  refine lv_aload_n hx hb dX4_times_40 rfl (lv_at hl 0 rfl) ?_
  refine va_get (D := (dC, dI)) (ci := 5) (v := .ref (ad 6)) (C := RX4) (T := TX4) (N := 10) hx hb hts hinX4 hown hK hP 0 rfl rfl 7 (by decide) (hts (.fieldLink RX4 58 "ResidueRows" "right" "[I") (by decide +kernel)) (fun _ h9 => h9) rfl dX4_times_41 ?_
  refine cc_i (va_runS (As := [.ref (ad 6)]) (rest := [.int (-1)]) ⟨hx, hb, hml, hown, hts⟩ (c_X4_degree l dC dI ad g ck sa L pr hok H.size (ad 6) hok.1.2.2.1) (va_cwS 1 hts (gWs (by decide +kernel)) rfl rfl rfl (by decide +kernel) ⟨Nat.le_of_ble_eq_true rfl, Nat.le_of_ble_eq_true rfl⟩) ⟨cP_blind, cP_of hP hK hD hS hA hX⟩ rfl rfl hl.1 rfl (lv_room (Nat.le_of_ble_eq_true rfl)) dX4_times_44 ⟨Nat.le_of_ble_eq_true rfl, Nat.le_of_ble_eq_true rfl⟩) hS (cF hD hS hA) (fun r_9 H locs hw_8 hP hS => ?_)
  subst hw_8
  refine lv_iadd hx hb dX4_times_47 ?_
  refine zz_i (y := (-2)) (by decide +kernel) ?_
  refine lv_bipush (v := nI 31) hx hb dX4_times_48 (by decide +kernel) ?_
  refine lv_icmp_le (tgt := 63) hx hb dX4_times_50 (by decide) (fun _ => ?_) (fun hcc => absurd (by decide +kernel) hcc)
  refine lv_aload_n hx hb dX4_times_63 rfl (lv_at hl 0 rfl) ?_
  refine va_get (D := (dC, dI)) (ci := 5) (v := .ref (ad 2)) (C := RX4) (T := TX4) (N := 10) hx hb hts hinX4 hown hK hP 0 rfl rfl 2 (by decide) (hts (.fieldLink RX4 27 "ResidueRows" "residues" "LResidueRows$Residues;") (by decide +kernel)) (fun _ h9 => h9) rfl dX4_times_64 ?_
  refine lv_aload_n hx hb dX4_times_67 rfl (lv_at hl 0 rfl) ?_
  refine va_get (D := (dC, dI)) (ci := 5) (v := .ref (ad 5)) (C := RX4) (T := TX4) (N := 10) hx hb hts hinX4 hown hK hP 0 rfl rfl 6 (by decide) (hts (.fieldLink RX4 54 "ResidueRows" "left" "[I") (by decide +kernel)) (fun _ h9 => h9) rfl dX4_times_68 ?_
  refine lv_aload_n hx hb dX4_times_71 rfl (lv_at hl 0 rfl) ?_
  refine va_get (D := (dC, dI)) (ci := 5) (v := .ref (ad 6)) (C := RX4) (T := TX4) (N := 10) hx hb hts hinX4 hown hK hP 0 rfl rfl 7 (by decide) (hts (.fieldLink RX4 58 "ResidueRows" "right" "[I") (by decide +kernel)) (fun _ h9 => h9) rfl dX4_times_72 ?_
  refine lv_aload_n hx hb dX4_times_75 rfl (lv_at hl 0 rfl) ?_
  refine va_get (D := (dC, dI)) (ci := 5) (v := .ref (ad 7)) (C := RX4) (T := TX4) (N := 10) hx hb hts hinX4 hown hK hP 0 rfl rfl 8 (by decide) (hts (.fieldLink RX4 61 "ResidueRows" "made" "[I") (by decide +kernel)) (fun _ h9 => h9) rfl dX4_times_76 ?_
  refine cc_v (va_runV (As := [.ref (ad 5), .ref (ad 6), .ref (ad 7)]) (rest := []) ⟨hx, hb, hml, hown, hts⟩ (c_X2_product l dC dI ad g ck sa L pr hok H.size (ad 5) (ad 6) (ad 7) hok.1.2.1 hok.1.2.2.1 hok.1.2.2.2.1) (cwV 3 hts (gWv (by decide +kernel)) rfl rfl rfl (by decide +kernel) ⟨Nat.le_of_ble_eq_true rfl, Nat.le_of_ble_eq_true rfl⟩) ⟨cP_blind, va_recv hK hP (ci := 3) (q0 := 2) rfl rfl, cP_of hP hK hD hS hA hX⟩ rfl rfl hl.1 rfl (lv_room (Nat.le_of_ble_eq_true rfl)) dX4_times_79 ⟨Nat.le_of_ble_eq_true rfl, Nat.le_of_ble_eq_true rfl⟩) hS (cF hD hS hA) (fun H locs hw_10 hP hS => ?_)
  refine lv_aload_n hx hb dX4_times_82 rfl (lv_at hl 0 rfl) ?_
  refine lv_aload_n hx hb dX4_times_83 rfl (lv_at hl 0 rfl) ?_
  refine va_get (D := (dC, dI)) (ci := 5) (v := .ref (ad 7)) (C := RX4) (T := TX4) (N := 10) hx hb hts hinX4 hown hK hP 0 rfl rfl 8 (by decide) (hts (.fieldLink RX4 61 "ResidueRows" "made" "[I") (by decide +kernel)) (fun _ h9 => h9) rfl dX4_times_84 ?_
  refine ct_i (va_runV (As := [.ref (ad 7)]) (rest := []) ⟨hx, hb, hml, hown, hts⟩ (c_X4_keep l dC dI ad g ck sa L pr hok H.size (ad 7) hok.1.2.2.2.1) (cwV 1 hts (gWv (by decide +kernel)) rfl rfl rfl (by decide +kernel) ⟨Nat.le_of_ble_eq_true rfl, Nat.le_of_ble_eq_true rfl⟩) ⟨cP_blind, va_recv hK hP (ci := 5) (q0 := 0) rfl rfl, cP_of hP hK hD hS hA hX⟩ rfl rfl hl.1 rfl (lv_room (Nat.le_of_ble_eq_true rfl)) dX4_times_87 ⟨Nat.le_of_ble_eq_true rfl, Nat.le_of_ble_eq_true rfl⟩) hS (cF hD hS hA) (fun r_12 H locs hw_11 hS => ?_)
  refine vx_ret ?_
  refine W.iret hx hb hr (fun t ht hW => eTi ?_ (hS.F ht)) hS.2.2 dX4_times_90
  exact ⟨⟨i, hi, rfl⟩, ⟨k, hk, rfl⟩, hw_11⟩

abbrev vX4_gcd : List Cond := .code yX4_gcd cX4_gcd 3 (some .int) :: cWS
set_option maxHeartbeats 4000000 in
set_option maxRecDepth 100000 in
/-- gcd(a, b), the first call -/
theorem c_X4_gcd (l : Launch) (hnt : l.stackTraces = false) (dC : Nat → ClassId) (dI : Nat → Nat → Nat) (ad : Nat → Nat) (g : Nat → Option Nat) (ck : Nat → ClassId) (sa : Nat → Nat) (L : List Nat) (pr : Nat) (hok : cOk ad g L pr) (sz : Nat) (p0 p1 : Int32) : vx_Met l yX4_gcd vX4_gcd ({ frames := 8, cells := 2, slots := 12, locals := 124 }) (va_Pc [.ref (ad 0), .int p0, .int p1] (cP (dC, dI) ck sa (cW ad g ck L pr (nI 0)) sz)) (va_Qi (fun r (_ : Unit) => (fun r => inR p0 96 ∧ inR p1 96 ∧ r = nI 0) r) (fun _ _ => True) (va_A (cW ad g ck L pr (nI 0)) sz)) (cXC (fun E => E = nmA ∧ ¬ (inR p0 96 ∧ inR p1 96)) (va_A (cW ad g ck L pr (nI 0)) sz)) 2 12 (va_A (cW ad g ck L pr (nI 0)) sz) := by
  refine vx_ofW (cc := cX4_gcd) (maxL := 3) (ret := (some .int)) (by decide +kernel) rfl ?_
  intro p e s m args below meth c s₁ B hml hnoex hv
  obtain ⟨rfl, hsz, hP, hK, hD0, hX⟩ := hv
  have hx := B.exec
  have hb := B.bytes
  have hr := B.returns
  have hts := atoms_spec (ws := vX4_gcd) B.pre
  have hown : s.vm.findClass RX4 = some m.cls := findClass_of_methodNamed B.named
  have hlocks := B.notSynchronized
  subst hsz
  have hD := hD0.self (sz := s.heap.size)
  generalize hAe : va_A (cW ad g ck L pr (nI 0)) s.heap.size = A at hD hX ⊢
  have hA : ∀ q : Nat, s.heap.size ≤ q → A q := fun q h => by rw [← hAe]; exact Or.inr h
  have hS : va_S A s.heap s.heap [] := va_S.rf
  have hinX4 : ∀ w ∈ wsX40, w ∈ vX4_gcd := fun w h => List.mem_cons_of_mem _ (inCX4 w h)
  have hl := lv_entry ([.ref (ad 0), .int p0, .int p1]) (n := 3) (Nat.le_of_ble_eq_true rfl)
  rw [lg_entry_eq]
  generalize (lg_sl ([.ref (ad 0), .int p0, .int p1]) ++ List.replicate (3 - (lg_sl ([.ref (ad 0), .int p0, .int p1])).length) Slot.unset).toArray = ls at hl ⊢
  have hl : lv_has ls 3 [(0, .ref (ad 0)), (1, .int p0), (2, .int p1)] := hl
  obtain ⟨H, hHe⟩ : ∃ H : Heap, H = s.heap := ⟨_, rfl⟩
  have hP : va_P (dC, dI) vwCl (cW ad g ck L pr (nI 0)) H := by rw [hHe]; exact hP
  have hS : va_S A s.heap H [] := by rw [hHe]; exact hS
  suffices hgo : W p l e (headSpec vX4_gcd ({ frames := 8, cells := 2, slots := 12, locals := 124 })).room s m ([.ref (ad 0), .int p0, .int p1] : List Value).toArray below meth c H [] 0 0 (vx_MQ below (va_Qi (fun r (_ : Unit) => (fun r => inR p0 96 ∧ inR p1 96 ∧ r = nI 0) r) (fun _ _ => True) A) (cXC (fun E => E = nmA ∧ ¬ (inR p0 96 ∧ inR p1 96)) A) ([.ref (ad 0), .int p0, .int p1] : List Value).toArray s 2 12 A) (F0 m 0 ls []) by rw [hHe] at hgo; exact hgo
  refine lv_aload_n hx hb dX4_gcd_0 rfl (lv_at hl 0 rfl) ?_
  refine lv_iload_n hx hb dX4_gcd_1 rfl (lv_at hl 1 rfl) ?_
  refine cx_v (vx_runV (As := [.int p0]) (rest := []) ⟨hx, hb, hml, hown, hts⟩ (c_X4_needPolynomial l hnt dC dI ad g ck sa L pr hok H.size p0) (cwV 1 hts (gWv (by decide +kernel)) rfl rfl rfl (by decide +kernel) ⟨Nat.le_of_ble_eq_true rfl, Nat.le_of_ble_eq_true rfl⟩) ⟨cP_blind, va_recv hK hP (ci := 5) (q0 := 0) rfl rfl, cP_of hP hK hD hS hA hX⟩ rfl rfl hl.1 rfl (lv_room (Nat.le_of_ble_eq_true rfl)) dX4_gcd_2 ⟨Nat.le_of_ble_eq_true rfl, Nat.le_of_ble_eq_true rfl⟩) hS (cF hD hS hA) (fun E ce q9 H locs hE hS h1 h2 h3 => ?_) (fun H locs hw_1 hP hS => ?_)
  · refine vx_widen (k := 2) (n := 12) (by decide) (by decide) ?_
    exact vx_out (fun x hx9 => (hnoex x hx9).elim) hlocks h1 h2 h3 (fun t ht _ => cXC_on (⟨hE.1, fun h => hE.2 h.1⟩) hS ht) hS.2.2 (by decide) (by decide)
  obtain ⟨i, hi, rfl⟩ := hw_1
  refine lv_aload_n hx hb dX4_gcd_5 rfl (lv_at hl 0 rfl) ?_
  refine lv_iload_n hx hb dX4_gcd_6 rfl (lv_at hl 2 rfl) ?_
  refine cx_v (vx_runV (As := [.int p1]) (rest := []) ⟨hx, hb, hml, hown, hts⟩ (c_X4_needPolynomial l hnt dC dI ad g ck sa L pr hok H.size p1) (cwV 1 hts (gWv (by decide +kernel)) rfl rfl rfl (by decide +kernel) ⟨Nat.le_of_ble_eq_true rfl, Nat.le_of_ble_eq_true rfl⟩) ⟨cP_blind, va_recv hK hP (ci := 5) (q0 := 0) rfl rfl, cP_of hP hK hD hS hA hX⟩ rfl rfl hl.1 rfl (lv_room (Nat.le_of_ble_eq_true rfl)) dX4_gcd_7 ⟨Nat.le_of_ble_eq_true rfl, Nat.le_of_ble_eq_true rfl⟩) hS (cF hD hS hA) (fun E ce q9 H locs hE hS h1 h2 h3 => ?_) (fun H locs hw_2 hP hS => ?_)
  · refine vx_widen (k := 2) (n := 12) (by decide) (by decide) ?_
    exact vx_out (fun x hx9 => (hnoex x hx9).elim) hlocks h1 h2 h3 (fun t ht _ => cXC_on (⟨hE.1, fun h => hE.2 h.2⟩) hS ht) hS.2.2 (by decide) (by decide)
  obtain ⟨k, hk, rfl⟩ := hw_2
  refine lv_aload_n hx hb dX4_gcd_10 rfl (lv_at hl 0 rfl) ?_
  refine lv_iconst (v := nI 1) hx hb dX4_gcd_11 (by decide +kernel) ?_
  refine cc_v (va_runV (As := [.int (nI 1)]) (rest := []) ⟨hx, hb, hml, hown, hts⟩ (c_X4_needNumbers l dC dI ad g ck sa L pr hok H.size ) (cwV 1 hts (gWv (by decide +kernel)) rfl rfl rfl (by decide +kernel) ⟨Nat.le_of_ble_eq_true rfl, Nat.le_of_ble_eq_true rfl⟩) ⟨cP_blind, va_recv hK hP (ci := 5) (q0 := 0) rfl rfl, cP_of hP hK hD hS hA hX⟩ rfl rfl hl.1 rfl (lv_room (Nat.le_of_ble_eq_true rfl)) dX4_gcd_12 ⟨Nat.le_of_ble_eq_true rfl, Nat.le_of_ble_eq_true rfl⟩) hS (cF hD hS hA) (fun H locs hw_3 hP hS => ?_)
  refine lv_aload_n hx hb dX4_gcd_15 rfl (lv_at hl 0 rfl) ?_
  refine lv_iload_n hx hb dX4_gcd_16 rfl (lv_at hl 1 rfl) ?_
  refine lv_aload_n hx hb dX4_gcd_17 rfl (lv_at hl 0 rfl) ?_
  refine va_get (D := (dC, dI)) (ci := 5) (v := .ref (ad 5)) (C := RX4) (T := TX4) (N := 10) hx hb hts hinX4 hown hK hP 0 rfl rfl 6 (by decide) (hts (.fieldLink RX4 54 "ResidueRows" "left" "[I") (by decide +kernel)) (fun _ h9 => h9) rfl dX4_gcd_18 ?_
  refine cc_v (va_runV (As := [.int (nI i), .ref (ad 5)]) (rest := []) ⟨hx, hb, hml, hown, hts⟩ (c_X4_readResidues l dC dI ad g ck sa L pr hok H.size i hi (ad 5) hok.1.2.1) (cwV 2 hts (gWv (by decide +kernel)) rfl rfl rfl (by decide +kernel) ⟨Nat.le_of_ble_eq_true rfl, Nat.le_of_ble_eq_true rfl⟩) ⟨cP_blind, va_recv hK hP (ci := 5) (q0 := 0) rfl rfl, cP_of hP hK hD hS hA hX⟩ rfl rfl hl.1 rfl (lv_room (Nat.le_of_ble_eq_true rfl)) dX4_gcd_21 ⟨Nat.le_of_ble_eq_true rfl, Nat.le_of_ble_eq_true rfl⟩) hS (cF hD hS hA) (fun H locs hw_4 hP hS => ?_)
  refine lv_aload_n hx hb dX4_gcd_24 rfl (lv_at hl 0 rfl) ?_
  refine lv_iload_n hx hb dX4_gcd_25 rfl (lv_at hl 2 rfl) ?_
  refine lv_aload_n hx hb dX4_gcd_26 rfl (lv_at hl 0 rfl) ?_
  refine va_get (D := (dC, dI)) (ci := 5) (v := .ref (ad 6)) (C := RX4) (T := TX4) (N := 10) hx hb hts hinX4 hown hK hP 0 rfl rfl 7 (by decide) (hts (.fieldLink RX4 58 "ResidueRows" "right" "[I") (by decide +kernel)) (fun _ h9 => h9) rfl dX4_gcd_27 ?_
  refine cc_v (va_runV (As := [.int (nI k), .ref (ad 6)]) (rest := []) ⟨hx, hb, hml, hown, hts⟩ (c_X4_readResidues l dC dI ad g ck sa L pr hok H.size k hk (ad 6) hok.1.2.2.1) (cwV 2 hts (gWv (by decide +kernel)) rfl rfl rfl (by decide +kernel) ⟨Nat.le_of_ble_eq_true rfl, Nat.le_of_ble_eq_true rfl⟩) ⟨cP_blind, va_recv hK hP (ci := 5) (q0 := 0) rfl rfl, cP_of hP hK hD hS hA hX⟩ rfl rfl hl.1 rfl (lv_room (Nat.le_of_ble_eq_true rfl)) dX4_gcd_30 ⟨Nat.le_of_ble_eq_true rfl, Nat.le_of_ble_eq_true rfl⟩) hS (cF hD hS hA) (fun H locs hw_5 hP hS => ?_)
  refine lv_aload_n hx hb dX4_gcd_33 rfl (lv_at hl 0 rfl) ?_
  refine va_get (D := (dC, dI)) (ci := 5) (v := .ref (ad 2)) (C := RX4) (T := TX4) (N := 10) hx hb hts hinX4 hown hK hP 0 rfl rfl 2 (by decide) (hts (.fieldLink RX4 27 "ResidueRows" "residues" "LResidueRows$Residues;") (by decide +kernel)) (fun _ h9 => h9) rfl dX4_gcd_34 ?_
  refine lv_aload_n hx hb dX4_gcd_37 rfl (lv_at hl 0 rfl) ?_
  refine va_get (D := (dC, dI)) (ci := 5) (v := .ref (ad 5)) (C := RX4) (T := TX4) (N := 10) hx hb hts hinX4 hown hK hP 0 rfl rfl 6 (by decide) (hts (.fieldLink RX4 54 "ResidueRows" "left" "[I") (by decide +kernel)) (fun _ h9 => h9) rfl dX4_gcd_38 ?_
  refine lv_aload_n hx hb dX4_gcd_41 rfl (lv_at hl 0 rfl) ?_
  refine va_get (D := (dC, dI)) (ci := 5) (v := .ref (ad 6)) (C := RX4) (T := TX4) (N := 10) hx hb hts hinX4 hown hK hP 0 rfl rfl 7 (by decide) (hts (.fieldLink RX4 58 "ResidueRows" "right" "[I") (by decide +kernel)) (fun _ h9 => h9) rfl dX4_gcd_42 ?_
  refine lv_aload_n hx hb dX4_gcd_45 rfl (lv_at hl 0 rfl) ?_
  refine va_get (D := (dC, dI)) (ci := 5) (v := .ref (ad 7)) (C := RX4) (T := TX4) (N := 10) hx hb hts hinX4 hown hK hP 0 rfl rfl 8 (by decide) (hts (.fieldLink RX4 61 "ResidueRows" "made" "[I") (by decide +kernel)) (fun _ h9 => h9) rfl dX4_gcd_46 ?_
  refine cc_v (va_runV (As := [.ref (ad 5), .ref (ad 6), .ref (ad 7)]) (rest := []) ⟨hx, hb, hml, hown, hts⟩ (c_X2_commonDivisor l dC dI ad g ck sa L pr hok H.size (ad 5) (ad 6) (ad 7) hok.1.2.1 hok.1.2.2.1 hok.1.2.2.2.1) (cwV 3 hts (gWv (by decide +kernel)) rfl rfl rfl (by decide +kernel) ⟨Nat.le_of_ble_eq_true rfl, Nat.le_of_ble_eq_true rfl⟩) ⟨cP_blind, va_recv hK hP (ci := 3) (q0 := 2) rfl rfl, cP_of hP hK hD hS hA hX⟩ rfl rfl hl.1 rfl (lv_room (Nat.le_of_ble_eq_true rfl)) dX4_gcd_49 ⟨Nat.le_of_ble_eq_true rfl, Nat.le_of_ble_eq_true rfl⟩) hS (cF hD hS hA) (fun H locs hw_6 hP hS => ?_)
  refine lv_aload_n hx hb dX4_gcd_52 rfl (lv_at hl 0 rfl) ?_
  refine lv_aload_n hx hb dX4_gcd_53 rfl (lv_at hl 0 rfl) ?_
  refine va_get (D := (dC, dI)) (ci := 5) (v := .ref (ad 7)) (C := RX4) (T := TX4) (N := 10) hx hb hts hinX4 hown hK hP 0 rfl rfl 8 (by decide) (hts (.fieldLink RX4 61 "ResidueRows" "made" "[I") (by decide +kernel)) (fun _ h9 => h9) rfl dX4_gcd_54 ?_
  refine ct_i (va_runV (As := [.ref (ad 7)]) (rest := []) ⟨hx, hb, hml, hown, hts⟩ (c_X4_keep l dC dI ad g ck sa L pr hok H.size (ad 7) hok.1.2.2.2.1) (cwV 1 hts (gWv (by decide +kernel)) rfl rfl rfl (by decide +kernel) ⟨Nat.le_of_ble_eq_true rfl, Nat.le_of_ble_eq_true rfl⟩) ⟨cP_blind, va_recv hK hP (ci := 5) (q0 := 0) rfl rfl, cP_of hP hK hD hS hA hX⟩ rfl rfl hl.1 rfl (lv_room (Nat.le_of_ble_eq_true rfl)) dX4_gcd_57 ⟨Nat.le_of_ble_eq_true rfl, Nat.le_of_ble_eq_true rfl⟩) hS (cF hD hS hA) (fun r_8 H locs hw_7 hS => ?_)
  refine vx_ret ?_
  refine W.iret hx hb hr (fun t ht hW => eTi ?_ (hS.F ht)) hS.2.2 dX4_gcd_60
  exact ⟨⟨i, hi, rfl⟩, ⟨k, hk, rfl⟩, hw_7⟩

abbrev vX4_over : List Cond := .code yX4_over cX4_over 7 (some .int) :: cWS
set_option maxHeartbeats 4000000 in
set_option maxRecDepth 100000 in
/-- over(a, b, what), the first call: always refused -/
theorem c_X4_over (l : Launch) (hnt : l.stackTraces = false) (dC : Nat → ClassId) (dI : Nat → Nat → Nat) (ad : Nat → Nat) (g : Nat → Option Nat) (ck : Nat → ClassId) (sa : Nat → Nat) (L : List Nat) (pr : Nat) (hok : cOk ad g L pr) (sz : Nat) (p0 p1 p2 : Int32) : vx_Met l yX4_over vX4_over ({ frames := 8, cells := 3, slots := 18, locals := 124 }) (va_Pc [.ref (ad 0), .int p0, .int p1, .int p2] (cP (dC, dI) ck sa (cW ad g ck L pr (nI 0)) sz)) (va_Qi (fun r (_ : Unit) => (fun _ => False) r) (fun _ _ => True) (va_A (cW ad g ck L pr (nI 0)) sz)) (cXC (fun E => (E = nmA ∧ ¬ (inR p0 96 ∧ inR p1 96)) ∨ (E = nmI ∧ (inR p0 96 ∧ inR p1 96) ∧ ¬ (p2 = 0 ∨ p2 = nI 1)) ∨ (E = nmE ∧ (inR p0 96 ∧ inR p1 96) ∧ (p2 = 0 ∨ p2 = nI 1))) (va_A (cW ad g ck L pr (nI 0)) sz)) 3 18 (va_A (cW ad g ck L pr (nI 0)) sz) := by
  refine vx_ofW (cc := cX4_over) (maxL := 7) (ret := (some .int)) (by decide +kernel) rfl ?_
  intro p e s m args below meth c s₁ B hml hnoex hv
  obtain ⟨rfl, hsz, hP, hK, hD0, hX⟩ := hv
  have hx := B.exec
  have hb := B.bytes
  have hr := B.returns
  have hts := atoms_spec (ws := vX4_over) B.pre
  have hown : s.vm.findClass RX4 = some m.cls := findClass_of_methodNamed B.named
  have hlocks := B.notSynchronized
  subst hsz
  have hD := hD0.self (sz := s.heap.size)
  generalize hAe : va_A (cW ad g ck L pr (nI 0)) s.heap.size = A at hD hX ⊢
  have hA : ∀ q : Nat, s.heap.size ≤ q → A q := fun q h => by rw [← hAe]; exact Or.inr h
  have hS : va_S A s.heap s.heap [] := va_S.rf
  have hinX4 : ∀ w ∈ wsX40, w ∈ vX4_over := fun w h => List.mem_cons_of_mem _ (inCX4 w h)
  have hl := lv_entry ([.ref (ad 0), .int p0, .int p1, .int p2]) (n := 7) (Nat.le_of_ble_eq_true rfl)
  rw [lg_entry_eq]
  generalize (lg_sl ([.ref (ad 0), .int p0, .int p1, .int p2]) ++ List.replicate (7 - (lg_sl ([.ref (ad 0), .int p0, .int p1, .int p2])).length) Slot.unset).toArray = ls at hl ⊢
  have hl : lv_has ls 7 [(0, .ref (ad 0)), (1, .int p0), (2, .int p1), (3, .int p2)] := hl
  obtain ⟨H, hHe⟩ : ∃ H : Heap, H = s.heap := ⟨_, rfl⟩
  have hP : va_P (dC, dI) vwCl (cW ad g ck L pr (nI 0)) H := by rw [hHe]; exact hP
  have hS : va_S A s.heap H [] := by rw [hHe]; exact hS
  suffices hgo : W p l e (headSpec vX4_over ({ frames := 8, cells := 3, slots := 18, locals := 124 })).room s m ([.ref (ad 0), .int p0, .int p1, .int p2] : List Value).toArray below meth c H [] 0 0 (vx_MQ below (va_Qi (fun r (_ : Unit) => (fun _ => False) r) (fun _ _ => True) A) (cXC (fun E => (E = nmA ∧ ¬ (inR p0 96 ∧ inR p1 96)) ∨ (E = nmI ∧ (inR p0 96 ∧ inR p1 96) ∧ ¬ (p2 = 0 ∨ p2 = nI 1)) ∨ (E = nmE ∧ (inR p0 96 ∧ inR p1 96) ∧ (p2 = 0 ∨ p2 = nI 1))) A) ([.ref (ad 0), .int p0, .int p1, .int p2] : List Value).toArray s 3 18 A) (F0 m 0 ls []) by rw [hHe] at hgo; exact hgo
  refine lv_aload_n hx hb dX4_over_0 rfl (lv_at hl 0 rfl) ?_
  refine lv_iload_n hx hb dX4_over_1 rfl (lv_at hl 1 rfl) ?_
  refine cx_v (vx_runV (As := [.int p0]) (rest := []) ⟨hx, hb, hml, hown, hts⟩ (c_X4_needPolynomial l hnt dC dI ad g ck sa L pr hok H.size p0) (cwV 1 hts (gWv (by decide +kernel)) rfl rfl rfl (by decide +kernel) ⟨Nat.le_of_ble_eq_true rfl, Nat.le_of_ble_eq_true rfl⟩) ⟨cP_blind, va_recv hK hP (ci := 5) (q0 := 0) rfl rfl, cP_of hP hK hD hS hA hX⟩ rfl rfl hl.1 rfl (lv_room (Nat.le_of_ble_eq_true rfl)) dX4_over_2 ⟨Nat.le_of_ble_eq_true rfl, Nat.le_of_ble_eq_true rfl⟩) hS (cF hD hS hA) (fun E ce q9 H locs hE hS h1 h2 h3 => ?_) (fun H locs hw_1 hP hS => ?_)
  · refine vx_widen (k := 3) (n := 18) (by decide) (by decide) ?_
    exact vx_out (fun x hx9 => (hnoex x hx9).elim) hlocks h1 h2 h3 (fun t ht _ => cXC_on (Or.inl ⟨hE.1, fun h => hE.2 h.1⟩) hS ht) hS.2.2 (by decide) (by decide)
  obtain ⟨i, hi, rfl⟩ := hw_1
  refine lv_aload_n hx hb dX4_over_5 rfl (lv_at hl 0 rfl) ?_
  refine lv_iload_n hx hb dX4_over_6 rfl (lv_at hl 2 rfl) ?_
  refine cx_v (vx_runV (As := [.int p1]) (rest := []) ⟨hx, hb, hml, hown, hts⟩ (c_X4_needPolynomial l hnt dC dI ad g ck sa L pr hok H.size p1) (cwV 1 hts (gWv (by decide +kernel)) rfl rfl rfl (by decide +kernel) ⟨Nat.le_of_ble_eq_true rfl, Nat.le_of_ble_eq_true rfl⟩) ⟨cP_blind, va_recv hK hP (ci := 5) (q0 := 0) rfl rfl, cP_of hP hK hD hS hA hX⟩ rfl rfl hl.1 rfl (lv_room (Nat.le_of_ble_eq_true rfl)) dX4_over_7 ⟨Nat.le_of_ble_eq_true rfl, Nat.le_of_ble_eq_true rfl⟩) hS (cF hD hS hA) (fun E ce q9 H locs hE hS h1 h2 h3 => ?_) (fun H locs hw_2 hP hS => ?_)
  · refine vx_widen (k := 3) (n := 18) (by decide) (by decide) ?_
    exact vx_out (fun x hx9 => (hnoex x hx9).elim) hlocks h1 h2 h3 (fun t ht _ => cXC_on (Or.inl ⟨hE.1, fun h => hE.2 h.2⟩) hS ht) hS.2.2 (by decide) (by decide)
  obtain ⟨k, hk, rfl⟩ := hw_2
  refine lv_aload_n hx hb dX4_over_10 rfl (lv_at hl 0 rfl) ?_
  refine lv_iconst (v := nI 1) hx hb dX4_over_11 (by decide +kernel) ?_
  refine cc_v (va_runV (As := [.int (nI 1)]) (rest := []) ⟨hx, hb, hml, hown, hts⟩ (c_X4_needNumbers l dC dI ad g ck sa L pr hok H.size ) (cwV 1 hts (gWv (by decide +kernel)) rfl rfl rfl (by decide +kernel) ⟨Nat.le_of_ble_eq_true rfl, Nat.le_of_ble_eq_true rfl⟩) ⟨cP_blind, va_recv hK hP (ci := 5) (q0 := 0) rfl rfl, cP_of hP hK hD hS hA hX⟩ rfl rfl hl.1 rfl (lv_room (Nat.le_of_ble_eq_true rfl)) dX4_over_12 ⟨Nat.le_of_ble_eq_true rfl, Nat.le_of_ble_eq_true rfl⟩) hS (cF hD hS hA) (fun H locs hw_3 hP hS => ?_)
  refine lv_iload_n hx hb dX4_over_15 rfl (lv_at hl 3 rfl) ?_
  refine lv_if_eq (tgt := 34) hx hb dX4_over_16 (by decide) (fun hc16 => ?_) (fun hc16 => ?_)
  · refine lv_aload_n hx hb dX4_over_34 rfl (lv_at hl 0 rfl) ?_
    refine lv_iload_n hx hb dX4_over_35 rfl (lv_at hl 1 rfl) ?_
    refine lv_aload_n hx hb dX4_over_36 rfl (lv_at hl 0 rfl) ?_
    refine va_get (D := (dC, dI)) (ci := 5) (v := .ref (ad 5)) (C := RX4) (T := TX4) (N := 10) hx hb hts hinX4 hown hK hP 0 rfl rfl 6 (by decide) (hts (.fieldLink RX4 54 "ResidueRows" "left" "[I") (by decide +kernel)) (fun _ h9 => h9) rfl dX4_over_37 ?_
    refine cc_v (va_runV (As := [.int (nI i), .ref (ad 5)]) (rest := []) ⟨hx, hb, hml, hown, hts⟩ (c_X4_readResidues l dC dI ad g ck sa L pr hok H.size i hi (ad 5) hok.1.2.1) (cwV 2 hts (gWv (by decide +kernel)) rfl rfl rfl (by decide +kernel) ⟨Nat.le_of_ble_eq_true rfl, Nat.le_of_ble_eq_true rfl⟩) ⟨cP_blind, va_recv hK hP (ci := 5) (q0 := 0) rfl rfl, cP_of hP hK hD hS hA hX⟩ rfl rfl hl.1 rfl (lv_room (Nat.le_of_ble_eq_true rfl)) dX4_over_40 ⟨Nat.le_of_ble_eq_true rfl, Nat.le_of_ble_eq_true rfl⟩) hS (cF hD hS hA) (fun H locs hw_4 hP hS => ?_)
    refine lv_aload_n hx hb dX4_over_43 rfl (lv_at hl 0 rfl) ?_
    refine lv_iload_n hx hb dX4_over_44 rfl (lv_at hl 2 rfl) ?_
    refine lv_aload_n hx hb dX4_over_45 rfl (lv_at hl 0 rfl) ?_
    refine va_get (D := (dC, dI)) (ci := 5) (v := .ref (ad 6)) (C := RX4) (T := TX4) (N := 10) hx hb hts hinX4 hown hK hP 0 rfl rfl 7 (by decide) (hts (.fieldLink RX4 58 "ResidueRows" "right" "[I") (by decide +kernel)) (fun _ h9 => h9) rfl dX4_over_46 ?_
    refine cc_v (va_runV (As := [.int (nI k), .ref (ad 6)]) (rest := []) ⟨hx, hb, hml, hown, hts⟩ (c_X4_readResidues l dC dI ad g ck sa L pr hok H.size k hk (ad 6) hok.1.2.2.1) (cwV 2 hts (gWv (by decide +kernel)) rfl rfl rfl (by decide +kernel) ⟨Nat.le_of_ble_eq_true rfl, Nat.le_of_ble_eq_true rfl⟩) ⟨cP_blind, va_recv hK hP (ci := 5) (q0 := 0) rfl rfl, cP_of hP hK hD hS hA hX⟩ rfl rfl hl.1 rfl (lv_room (Nat.le_of_ble_eq_true rfl)) dX4_over_49 ⟨Nat.le_of_ble_eq_true rfl, Nat.le_of_ble_eq_true rfl⟩) hS (cF hD hS hA) (fun H locs hw_5 hP hS => ?_)
    refine lv_aload_n hx hb dX4_over_52 rfl (lv_at hl 0 rfl) ?_
    refine va_get (D := (dC, dI)) (ci := 5) (v := .ref (ad 6)) (C := RX4) (T := TX4) (N := 10) hx hb hts hinX4 hown hK hP 0 rfl rfl 7 (by decide) (hts (.fieldLink RX4 58 "ResidueRows" "right" "[I") (by decide +kernel)) (fun _ h9 => h9) rfl dX4_over_53 ?_
    refine cc_i (va_runS (As := [.ref (ad 6)]) (rest := []) ⟨hx, hb, hml, hown, hts⟩ (c_X4_degree l dC dI ad g ck sa L pr hok H.size (ad 6) hok.1.2.2.1) (va_cwS 1 hts (gWs (by decide +kernel)) rfl rfl rfl (by decide +kernel) ⟨Nat.le_of_ble_eq_true rfl, Nat.le_of_ble_eq_true rfl⟩) ⟨cP_blind, cP_of hP hK hD hS hA hX⟩ rfl rfl hl.1 rfl (lv_room (Nat.le_of_ble_eq_true rfl)) dX4_over_56 ⟨Nat.le_of_ble_eq_true rfl, Nat.le_of_ble_eq_true rfl⟩) hS (cF hD hS hA) (fun r_7 H locs hw_6 hP hS => ?_)
    subst hw_6
    refine lv_istore (lv' := [(4, .int (-1)), (0, .ref (ad 0)), (1, .int (nI i)), (2, .int (nI k)), (3, .int p2)]) hx hb dX4_over_59 hl (by decide) rfl (fun ls hl => ?_)
    refine lv_iload hx hb dX4_over_61 (lv_at hl 0 rfl) ?_
    refine lv_if_ge (tgt := 76) hx hb dX4_over_63 (by decide) (fun hcc => absurd hcc (by decide)) (fun _ => ?_)
    exact vx_throwS (own := RX4) (cls := nmE) (text := "the divisor is 0") (names := chR) (A := A) hx hb hnt hown (by decide +kernel) (by decide +kernel) (hts (.classLink RX4 112 nmE) (by decide +kernel)) (hts (.initialized nmE) (by decide +kernel)) hX.2.2.2.2.2.2.1 (vx_hat (fun w9 h9 => hts w9 (List.mem_cons_of_mem _ (inCE w9 h9))) cNL_E (fun w9 h9 => va_Nw.use (cNL_on w9 h9) (hX.1 w9 h9))) at_otE hX.2.1.1 hX.2.1.2 hS (hl.1.trans hml.symm) dX4_over_66 dX4_over_69 dX4_over_70 dX4_over_72 dX4_over_75 (fun x hx9 => (hnoex x hx9).elim) (by decide) (by decide) (by decide) (by decide) hlocks (fun t _ hz9 hk9 => cXC_new (Or.inr (Or.inr ⟨rfl, ⟨⟨i, hi, rfl⟩, ⟨k, hk, rfl⟩⟩, Or.inl hc16⟩)) hS hz9 hk9) hS.2.2 (by decide) (by decide)
  · refine lv_iload_n hx hb dX4_over_19 rfl (lv_at hl 3 rfl) ?_
    refine lv_iconst (v := nI 1) hx hb dX4_over_20 (by decide +kernel) ?_
    refine lv_icmp_eq (tgt := 34) hx hb dX4_over_21 (by decide) (fun hc21 => ?_) (fun hc21 => ?_)
    · refine lv_aload_n hx hb dX4_over_34 rfl (lv_at hl 0 rfl) ?_
      refine lv_iload_n hx hb dX4_over_35 rfl (lv_at hl 1 rfl) ?_
      refine lv_aload_n hx hb dX4_over_36 rfl (lv_at hl 0 rfl) ?_
      refine va_get (D := (dC, dI)) (ci := 5) (v := .ref (ad 5)) (C := RX4) (T := TX4) (N := 10) hx hb hts hinX4 hown hK hP 0 rfl rfl 6 (by decide) (hts (.fieldLink RX4 54 "ResidueRows" "left" "[I") (by decide +kernel)) (fun _ h9 => h9) rfl dX4_over_37 ?_
      refine cc_v (va_runV (As := [.int (nI i), .ref (ad 5)]) (rest := []) ⟨hx, hb, hml, hown, hts⟩ (c_X4_readResidues l dC dI ad g ck sa L pr hok H.size i hi (ad 5) hok.1.2.1) (cwV 2 hts (gWv (by decide +kernel)) rfl rfl rfl (by decide +kernel) ⟨Nat.le_of_ble_eq_true rfl, Nat.le_of_ble_eq_true rfl⟩) ⟨cP_blind, va_recv hK hP (ci := 5) (q0 := 0) rfl rfl, cP_of hP hK hD hS hA hX⟩ rfl rfl hl.1 rfl (lv_room (Nat.le_of_ble_eq_true rfl)) dX4_over_40 ⟨Nat.le_of_ble_eq_true rfl, Nat.le_of_ble_eq_true rfl⟩) hS (cF hD hS hA) (fun H locs hw_8 hP hS => ?_)
      refine lv_aload_n hx hb dX4_over_43 rfl (lv_at hl 0 rfl) ?_
      refine lv_iload_n hx hb dX4_over_44 rfl (lv_at hl 2 rfl) ?_
      refine lv_aload_n hx hb dX4_over_45 rfl (lv_at hl 0 rfl) ?_
      refine va_get (D := (dC, dI)) (ci := 5) (v := .ref (ad 6)) (C := RX4) (T := TX4) (N := 10) hx hb hts hinX4 hown hK hP 0 rfl rfl 7 (by decide) (hts (.fieldLink RX4 58 "ResidueRows" "right" "[I") (by decide +kernel)) (fun _ h9 => h9) rfl dX4_over_46 ?_
      refine cc_v (va_runV (As := [.int (nI k), .ref (ad 6)]) (rest := []) ⟨hx, hb, hml, hown, hts⟩ (c_X4_readResidues l dC dI ad g ck sa L pr hok H.size k hk (ad 6) hok.1.2.2.1) (cwV 2 hts (gWv (by decide +kernel)) rfl rfl rfl (by decide +kernel) ⟨Nat.le_of_ble_eq_true rfl, Nat.le_of_ble_eq_true rfl⟩) ⟨cP_blind, va_recv hK hP (ci := 5) (q0 := 0) rfl rfl, cP_of hP hK hD hS hA hX⟩ rfl rfl hl.1 rfl (lv_room (Nat.le_of_ble_eq_true rfl)) dX4_over_49 ⟨Nat.le_of_ble_eq_true rfl, Nat.le_of_ble_eq_true rfl⟩) hS (cF hD hS hA) (fun H locs hw_9 hP hS => ?_)
      refine lv_aload_n hx hb dX4_over_52 rfl (lv_at hl 0 rfl) ?_
      refine va_get (D := (dC, dI)) (ci := 5) (v := .ref (ad 6)) (C := RX4) (T := TX4) (N := 10) hx hb hts hinX4 hown hK hP 0 rfl rfl 7 (by decide) (hts (.fieldLink RX4 58 "ResidueRows" "right" "[I") (by decide +kernel)) (fun _ h9 => h9) rfl dX4_over_53 ?_
      refine cc_i (va_runS (As := [.ref (ad 6)]) (rest := []) ⟨hx, hb, hml, hown, hts⟩ (c_X4_degree l dC dI ad g ck sa L pr hok H.size (ad 6) hok.1.2.2.1) (va_cwS 1 hts (gWs (by decide +kernel)) rfl rfl rfl (by decide +kernel) ⟨Nat.le_of_ble_eq_true rfl, Nat.le_of_ble_eq_true rfl⟩) ⟨cP_blind, cP_of hP hK hD hS hA hX⟩ rfl rfl hl.1 rfl (lv_room (Nat.le_of_ble_eq_true rfl)) dX4_over_56 ⟨Nat.le_of_ble_eq_true rfl, Nat.le_of_ble_eq_true rfl⟩) hS (cF hD hS hA) (fun r_11 H locs hw_10 hP hS => ?_)
      subst hw_10
      refine lv_istore (lv' := [(4, .int (-1)), (0, .ref (ad 0)), (1, .int (nI i)), (2, .int (nI k)), (3, .int p2)]) hx hb dX4_over_59 hl (by decide) rfl (fun ls hl => ?_)
      refine lv_iload hx hb dX4_over_61 (lv_at hl 0 rfl) ?_
      refine lv_if_ge (tgt := 76) hx hb dX4_over_63 (by decide) (fun hcc => absurd hcc (by decide)) (fun _ => ?_)
      exact vx_throwS (own := RX4) (cls := nmE) (text := "the divisor is 0") (names := chR) (A := A) hx hb hnt hown (by decide +kernel) (by decide +kernel) (hts (.classLink RX4 112 nmE) (by decide +kernel)) (hts (.initialized nmE) (by decide +kernel)) hX.2.2.2.2.2.2.1 (vx_hat (fun w9 h9 => hts w9 (List.mem_cons_of_mem _ (inCE w9 h9))) cNL_E (fun w9 h9 => va_Nw.use (cNL_on w9 h9) (hX.1 w9 h9))) at_otE hX.2.1.1 hX.2.1.2 hS (hl.1.trans hml.symm) dX4_over_66 dX4_over_69 dX4_over_70 dX4_over_72 dX4_over_75 (fun x hx9 => (hnoex x hx9).elim) (by decide) (by decide) (by decide) (by decide) hlocks (fun t _ hz9 hk9 => cXC_new (Or.inr (Or.inr ⟨rfl, ⟨⟨i, hi, rfl⟩, ⟨k, hk, rfl⟩⟩, Or.inr hc21⟩)) hS hz9 hk9) hS.2.2 (by decide) (by decide)
    · exact vx_throwS (own := RX4) (cls := nmI) (text := "what is neither 0 nor 1") (names := chR) (A := A) hx hb hnt hown (by decide +kernel) (by decide +kernel) (hts (.classLink RX4 99 nmI) (by decide +kernel)) (hts (.initialized nmI) (by decide +kernel)) hX.2.2.2.2.2.1 (vx_hat (fun w9 h9 => hts w9 (List.mem_cons_of_mem _ (inCI w9 h9))) cNL_I (fun w9 h9 => va_Nw.use (cNL_on w9 h9) (hX.1 w9 h9))) at_otI hX.2.1.1 hX.2.1.2 hS (hl.1.trans hml.symm) dX4_over_24 dX4_over_27 dX4_over_28 dX4_over_30 dX4_over_33 (fun x hx9 => (hnoex x hx9).elim) (by decide) (by decide) (by decide) (by decide) hlocks (fun t _ hz9 hk9 => cXC_new (Or.inr (Or.inl ⟨rfl, ⟨⟨i, hi, rfl⟩, ⟨k, hk, rfl⟩⟩, fun h => h.elim hc16 hc21⟩)) hS hz9 hk9) hS.2.2 (by decide) (by decide)

abbrev vX4_factor : List Cond := .code yX4_factor cX4_factor 6 (some .int) :: cWS
set_option maxHeartbeats 4000000 in
set_option maxRecDepth 100000 in
/-- factor(p, seed), the first call -/
theorem c_X4_factor (l : Launch) (hnt : l.stackTraces = false) (dC : Nat → ClassId) (dI : Nat → Nat → Nat) (ad : Nat → Nat) (g : Nat → Option Nat) (ck : Nat → ClassId) (sa : Nat → Nat) (L : List Nat) (pr : Nat) (hok : cOk ad g L pr) (sz : Nat) (p0 : Int32) (sd : Int64) : vx_Met l yX4_factor vX4_factor ({ frames := 8, cells := 1, slots := 6, locals := 124 }) (va_Pc [.ref (ad 0), .int p0, .long sd] (cP (dC, dI) ck sa (cW ad g ck L pr (nI 0)) sz)) (va_Qi (fun r (_ : Unit) => (fun r => inR p0 96 ∧ r = (-1)) r) (fun _ _ => True) (va_A (cW ad g ck L pr (nI 0)) sz)) (cXC (fun E => E = nmA ∧ ¬ inR p0 96) (va_A (cW ad g ck L pr (nI 0)) sz)) 1 6 (va_A (cW ad g ck L pr (nI 0)) sz) := by
  refine vx_ofW (cc := cX4_factor) (maxL := 6) (ret := (some .int)) (by decide +kernel) rfl ?_
  intro p e s m args below meth c s₁ B hml hnoex hv
  obtain ⟨rfl, hsz, hP, hK, hD0, hX⟩ := hv
  have hx := B.exec
  have hb := B.bytes
  have hr := B.returns
  have hts := atoms_spec (ws := vX4_factor) B.pre
  have hown : s.vm.findClass RX4 = some m.cls := findClass_of_methodNamed B.named
  have hlocks := B.notSynchronized
  subst hsz
  have hD := hD0.self (sz := s.heap.size)
  generalize hAe : va_A (cW ad g ck L pr (nI 0)) s.heap.size = A at hD hX ⊢
  have hA : ∀ q : Nat, s.heap.size ≤ q → A q := fun q h => by rw [← hAe]; exact Or.inr h
  have hS : va_S A s.heap s.heap [] := va_S.rf
  have hinX4 : ∀ w ∈ wsX40, w ∈ vX4_factor := fun w h => List.mem_cons_of_mem _ (inCX4 w h)
  have hl := lv_entry ([.ref (ad 0), .int p0, .long sd]) (n := 6) (Nat.le_of_ble_eq_true rfl)
  rw [lg_entry_eq]
  generalize (lg_sl ([.ref (ad 0), .int p0, .long sd]) ++ List.replicate (6 - (lg_sl ([.ref (ad 0), .int p0, .long sd])).length) Slot.unset).toArray = ls at hl ⊢
  have hl : lv_has ls 6 [(0, .ref (ad 0)), (1, .int p0), (2, .long sd)] := hl
  obtain ⟨H, hHe⟩ : ∃ H : Heap, H = s.heap := ⟨_, rfl⟩
  have hP : va_P (dC, dI) vwCl (cW ad g ck L pr (nI 0)) H := by rw [hHe]; exact hP
  have hS : va_S A s.heap H [] := by rw [hHe]; exact hS
  suffices hgo : W p l e (headSpec vX4_factor ({ frames := 8, cells := 1, slots := 6, locals := 124 })).room s m ([.ref (ad 0), .int p0, .long sd] : List Value).toArray below meth c H [] 0 0 (vx_MQ below (va_Qi (fun r (_ : Unit) => (fun r => inR p0 96 ∧ r = (-1)) r) (fun _ _ => True) A) (cXC (fun E => E = nmA ∧ ¬ inR p0 96) A) ([.ref (ad 0), .int p0, .long sd] : List Value).toArray s 1 6 A) (F0 m 0 ls []) by rw [hHe] at hgo; exact hgo
  refine lv_aload_n hx hb dX4_factor_0 rfl (lv_at hl 0 rfl) ?_
  refine lv_iload_n hx hb dX4_factor_1 rfl (lv_at hl 1 rfl) ?_
  refine cx_v (vx_runV (As := [.int p0]) (rest := []) ⟨hx, hb, hml, hown, hts⟩ (c_X4_needPolynomial l hnt dC dI ad g ck sa L pr hok H.size p0) (cwV 1 hts (gWv (by decide +kernel)) rfl rfl rfl (by decide +kernel) ⟨Nat.le_of_ble_eq_true rfl, Nat.le_of_ble_eq_true rfl⟩) ⟨cP_blind, va_recv hK hP (ci := 5) (q0 := 0) rfl rfl, cP_of hP hK hD hS hA hX⟩ rfl rfl hl.1 rfl (lv_room (Nat.le_of_ble_eq_true rfl)) dX4_factor_2 ⟨Nat.le_of_ble_eq_true rfl, Nat.le_of_ble_eq_true rfl⟩) hS (cF hD hS hA) (fun E ce q9 H locs hE hS h1 h2 h3 => ?_) (fun H locs hw_1 hP hS => ?_)
  · refine vx_widen (k := 1) (n := 6) (by decide) (by decide) ?_
    exact vx_out (fun x hx9 => (hnoex x hx9).elim) hlocks h1 h2 h3 (fun t ht _ => cXC_on (hE) hS ht) hS.2.2 (by decide) (by decide)
  obtain ⟨i, hi, rfl⟩ := hw_1
  refine lv_aload_n hx hb dX4_factor_5 rfl (lv_at hl 0 rfl) ?_
  refine lv_iload_n hx hb dX4_factor_6 rfl (lv_at hl 1 rfl) ?_
  refine lv_aload_n hx hb dX4_factor_7 rfl (lv_at hl 0 rfl) ?_
  refine va_get (D := (dC, dI)) (ci := 5) (v := .ref (ad 5)) (C := RX4) (T := TX4) (N := 10) hx hb hts hinX4 hown hK hP 0 rfl rfl 6 (by decide) (hts (.fieldLink RX4 54 "ResidueRows" "left" "[I") (by decide +kernel)) (fun _ h9 => h9) rfl dX4_factor_8 ?_
  refine cc_v (va_runV (As := [.int (nI i), .ref (ad 5)]) (rest := []) ⟨hx, hb, hml, hown, hts⟩ (c_X4_readResidues l dC dI ad g ck sa L pr hok H.size i hi (ad 5) hok.1.2.1) (cwV 2 hts (gWv (by decide +kernel)) rfl rfl rfl (by decide +kernel) ⟨Nat.le_of_ble_eq_true rfl, Nat.le_of_ble_eq_true rfl⟩) ⟨cP_blind, va_recv hK hP (ci := 5) (q0 := 0) rfl rfl, cP_of hP hK hD hS hA hX⟩ rfl rfl hl.1 rfl (lv_room (Nat.le_of_ble_eq_true rfl)) dX4_factor_11 ⟨Nat.le_of_ble_eq_true rfl, Nat.le_of_ble_eq_true rfl⟩) hS (cF hD hS hA) (fun H locs hw_2 hP hS => ?_)
  refine lv_aload_n hx hb dX4_factor_14 rfl (lv_at hl 0 rfl) ?_
  refine va_get (D := (dC, dI)) (ci := 5) (v := .ref (ad 5)) (C := RX4) (T := TX4) (N := 10) hx hb hts hinX4 hown hK hP 0 rfl rfl 6 (by decide) (hts (.fieldLink RX4 54 "ResidueRows" "left" "[I") (by decide +kernel)) (fun _ h9 => h9) rfl dX4_factor_15 ?_
  refine cc_i (va_runS (As := [.ref (ad 5)]) (rest := []) ⟨hx, hb, hml, hown, hts⟩ (c_X4_degree l dC dI ad g ck sa L pr hok H.size (ad 5) hok.1.2.1) (va_cwS 1 hts (gWs (by decide +kernel)) rfl rfl rfl (by decide +kernel) ⟨Nat.le_of_ble_eq_true rfl, Nat.le_of_ble_eq_true rfl⟩) ⟨cP_blind, cP_of hP hK hD hS hA hX⟩ rfl rfl hl.1 rfl (lv_room (Nat.le_of_ble_eq_true rfl)) dX4_factor_18 ⟨Nat.le_of_ble_eq_true rfl, Nat.le_of_ble_eq_true rfl⟩) hS (cF hD hS hA) (fun r_4 H locs hw_3 hP hS => ?_)
  subst hw_3
  refine lv_istore (lv' := [(4, .int (-1)), (0, .ref (ad 0)), (1, .int (nI i)), (2, .long sd)]) hx hb dX4_factor_21 hl (by decide) rfl (fun ls hl => ?_)
  refine lv_iload hx hb dX4_factor_23 (lv_at hl 0 rfl) ?_
  refine lv_if_ge (tgt := 30) hx hb dX4_factor_25 (by decide) (fun hcc => absurd hcc (by decide)) (fun _ => ?_)
  refine lv_iconst (v := (-1)) hx hb dX4_factor_28 (by decide +kernel) ?_
  refine vx_ret ?_
  refine W.iret hx hb hr (fun t ht hW => eTi ?_ (hS.F ht)) hS.2.2 dX4_factor_29
  exact ⟨⟨i, hi, rfl⟩, rfl⟩

abbrev vX4_root : List Cond := .code yX4_root cX4_root 3 (some .int) :: cWS
set_option maxHeartbeats 4000000 in
set_option maxRecDepth 100000 in
/-- root(p, k), the first call -/
theorem c_X4_root (l : Launch) (hnt : l.stackTraces = false) (dC : Nat → ClassId) (dI : Nat → Nat → Nat) (ad : Nat → Nat) (g : Nat → Option Nat) (ck : Nat → ClassId) (sa : Nat → Nat) (L : List Nat) (pr : Nat) (hok : cOk ad g L pr) (sz : Nat) (p0 p1 : Int32) : vx_Met l yX4_root vX4_root ({ frames := 8, cells := 1, slots := 6, locals := 124 }) (va_Pc [.ref (ad 0), .int p0, .int p1] (cP (dC, dI) ck sa (cW ad g ck L pr (nI 0)) sz)) (va_Qi (fun r (_ : Unit) => (fun r => inR p0 96 ∧ ((r = p1 ∧ inR p1 pr) ∨ (r = (-1) ∧ ¬ inR p1 pr))) r) (fun _ _ => True) (va_A (cW ad g ck L pr (nI 0)) sz)) (cXC (fun E => E = nmA ∧ ¬ inR p0 96) (va_A (cW ad g ck L pr (nI 0)) sz)) 1 6 (va_A (cW ad g ck L pr (nI 0)) sz) := by
  refine vx_ofW (cc := cX4_root) (maxL := 3) (ret := (some .int)) (by decide +kernel) rfl ?_
  intro p e s m args below meth c s₁ B hml hnoex hv
  obtain ⟨rfl, hsz, hP, hK, hD0, hX⟩ := hv
  have hx := B.exec
  have hb := B.bytes
  have hr := B.returns
  have hts := atoms_spec (ws := vX4_root) B.pre
  have hown : s.vm.findClass RX4 = some m.cls := findClass_of_methodNamed B.named
  have hlocks := B.notSynchronized
  subst hsz
  have hD := hD0.self (sz := s.heap.size)
  generalize hAe : va_A (cW ad g ck L pr (nI 0)) s.heap.size = A at hD hX ⊢
  have hA : ∀ q : Nat, s.heap.size ≤ q → A q := fun q h => by rw [← hAe]; exact Or.inr h
  have hS : va_S A s.heap s.heap [] := va_S.rf
  have hinX4 : ∀ w ∈ wsX40, w ∈ vX4_root := fun w h => List.mem_cons_of_mem _ (inCX4 w h)
  have hl := lv_entry ([.ref (ad 0), .int p0, .int p1]) (n := 3) (Nat.le_of_ble_eq_true rfl)
  rw [lg_entry_eq]
  generalize (lg_sl ([.ref (ad 0), .int p0, .int p1]) ++ List.replicate (3 - (lg_sl ([.ref (ad 0), .int p0, .int p1])).length) Slot.unset).toArray = ls at hl ⊢
  have hl : lv_has ls 3 [(0, .ref (ad 0)), (1, .int p0), (2, .int p1)] := hl
  obtain ⟨H, hHe⟩ : ∃ H : Heap, H = s.heap := ⟨_, rfl⟩
  have hP : va_P (dC, dI) vwCl (cW ad g ck L pr (nI 0)) H := by rw [hHe]; exact hP
  have hS : va_S A s.heap H [] := by rw [hHe]; exact hS
  suffices hgo : W p l e (headSpec vX4_root ({ frames := 8, cells := 1, slots := 6, locals := 124 })).room s m ([.ref (ad 0), .int p0, .int p1] : List Value).toArray below meth c H [] 0 0 (vx_MQ below (va_Qi (fun r (_ : Unit) => (fun r => inR p0 96 ∧ ((r = p1 ∧ inR p1 pr) ∨ (r = (-1) ∧ ¬ inR p1 pr))) r) (fun _ _ => True) A) (cXC (fun E => E = nmA ∧ ¬ inR p0 96) A) ([.ref (ad 0), .int p0, .int p1] : List Value).toArray s 1 6 A) (F0 m 0 ls []) by rw [hHe] at hgo; exact hgo
  refine lv_aload_n hx hb dX4_root_0 rfl (lv_at hl 0 rfl) ?_
  refine lv_iload_n hx hb dX4_root_1 rfl (lv_at hl 1 rfl) ?_
  refine cx_v (vx_runV (As := [.int p0]) (rest := []) ⟨hx, hb, hml, hown, hts⟩ (c_X4_needPolynomial l hnt dC dI ad g ck sa L pr hok H.size p0) (cwV 1 hts (gWv (by decide +kernel)) rfl rfl rfl (by decide +kernel) ⟨Nat.le_of_ble_eq_true rfl, Nat.le_of_ble_eq_true rfl⟩) ⟨cP_blind, va_recv hK hP (ci := 5) (q0 := 0) rfl rfl, cP_of hP hK hD hS hA hX⟩ rfl rfl hl.1 rfl (lv_room (Nat.le_of_ble_eq_true rfl)) dX4_root_2 ⟨Nat.le_of_ble_eq_true rfl, Nat.le_of_ble_eq_true rfl⟩) hS (cF hD hS hA) (fun E ce q9 H locs hE hS h1 h2 h3 => ?_) (fun H locs hw_1 hP hS => ?_)
  · refine vx_widen (k := 1) (n := 6) (by decide) (by decide) ?_
    exact vx_out (fun x hx9 => (hnoex x hx9).elim) hlocks h1 h2 h3 (fun t ht _ => cXC_on (hE) hS ht) hS.2.2 (by decide) (by decide)
  obtain ⟨i, hi, rfl⟩ := hw_1
  refine lv_aload_n hx hb dX4_root_5 rfl (lv_at hl 0 rfl) ?_
  refine lv_iload_n hx hb dX4_root_6 rfl (lv_at hl 1 rfl) ?_
  refine lv_aload_n hx hb dX4_root_7 rfl (lv_at hl 0 rfl) ?_
  refine va_get (D := (dC, dI)) (ci := 5) (v := .ref (ad 5)) (C := RX4) (T := TX4) (N := 10) hx hb hts hinX4 hown hK hP 0 rfl rfl 6 (by decide) (hts (.fieldLink RX4 54 "ResidueRows" "left" "[I") (by decide +kernel)) (fun _ h9 => h9) rfl dX4_root_8 ?_
  refine cc_v (va_runV (As := [.int (nI i), .ref (ad 5)]) (rest := []) ⟨hx, hb, hml, hown, hts⟩ (c_X4_readResidues l dC dI ad g ck sa L pr hok H.size i hi (ad 5) hok.1.2.1) (cwV 2 hts (gWv (by decide +kernel)) rfl rfl rfl (by decide +kernel) ⟨Nat.le_of_ble_eq_true rfl, Nat.le_of_ble_eq_true rfl⟩) ⟨cP_blind, va_recv hK hP (ci := 5) (q0 := 0) rfl rfl, cP_of hP hK hD hS hA hX⟩ rfl rfl hl.1 rfl (lv_room (Nat.le_of_ble_eq_true rfl)) dX4_root_11 ⟨Nat.le_of_ble_eq_true rfl, Nat.le_of_ble_eq_true rfl⟩) hS (cF hD hS hA) (fun H locs hw_2 hP hS => ?_)
  refine lv_aload_n hx hb dX4_root_14 rfl (lv_at hl 0 rfl) ?_
  refine va_get (D := (dC, dI)) (ci := 5) (v := .ref (ad 5)) (C := RX4) (T := TX4) (N := 10) hx hb hts hinX4 hown hK hP 0 rfl rfl 6 (by decide) (hts (.fieldLink RX4 54 "ResidueRows" "left" "[I") (by decide +kernel)) (fun _ h9 => h9) rfl dX4_root_15 ?_
  refine cc_i (va_runS (As := [.ref (ad 5)]) (rest := []) ⟨hx, hb, hml, hown, hts⟩ (c_X4_degree l dC dI ad g ck sa L pr hok H.size (ad 5) hok.1.2.1) (va_cwS 1 hts (gWs (by decide +kernel)) rfl rfl rfl (by decide +kernel) ⟨Nat.le_of_ble_eq_true rfl, Nat.le_of_ble_eq_true rfl⟩) ⟨cP_blind, cP_of hP hK hD hS hA hX⟩ rfl rfl hl.1 rfl (lv_room (Nat.le_of_ble_eq_true rfl)) dX4_root_18 ⟨Nat.le_of_ble_eq_true rfl, Nat.le_of_ble_eq_true rfl⟩) hS (cF hD hS hA) (fun r_4 H locs hw_3 hP hS => ?_)
  subst hw_3
  refine lv_if_ge (tgt := 42) hx hb dX4_root_21 (by decide) (fun hcc => absurd hcc (by decide)) (fun _ => ?_)
  refine lv_iload_n hx hb dX4_root_24 rfl (lv_at hl 2 rfl) ?_
  refine lv_if_lt (tgt := 40) hx hb dX4_root_25 (by decide) (fun hc25 => ?_) (fun hc25 => ?_)
  · refine lv_iconst (v := (-1)) hx hb dX4_root_40 (by decide +kernel) ?_
    refine vx_ret ?_
    refine W.iret hx hb hr (fun t ht hW => eTi ?_ (hS.F ht)) hS.2.2 dX4_root_41
    exact ⟨⟨i, hi, rfl⟩, Or.inr ⟨rfl, inR_neg hok.2.2 hc25⟩⟩
  · refine lv_iload_n hx hb dX4_root_28 rfl (lv_at hl 2 rfl) ?_
    refine lv_aload_n hx hb dX4_root_29 rfl (lv_at hl 0 rfl) ?_
    refine va_get (D := (dC, dI)) (ci := 5) (v := .int (nI pr)) (C := RX4) (T := TX4) (N := 10) hx hb hts hinX4 hown hK hP 0 rfl rfl 0 (by decide) (hts (.fieldLink RX4 13 "ResidueRows" "prime" "I") (by decide +kernel)) (fun _ h9 => h9) rfl dX4_root_30 ?_
    refine lv_icmp_ge (tgt := 40) hx hb dX4_root_33 (by decide) (fun hc33 => ?_) (fun hc33 => ?_)
    · refine lv_iconst (v := (-1)) hx hb dX4_root_40 (by decide +kernel) ?_
      refine vx_ret ?_
      refine W.iret hx hb hr (fun t ht hW => eTi ?_ (hS.F ht)) hS.2.2 dX4_root_41
      exact ⟨⟨i, hi, rfl⟩, Or.inr ⟨rfl, inR_big hok.2.2 (fun h => by simp only [Int32.lt_iff_toInt_lt, Int32.le_iff_toInt_le] at h hc33; omega)⟩⟩
    · refine lv_iload_n hx hb dX4_root_36 rfl (lv_at hl 2 rfl) ?_
      refine lv_goto (tgt := 41) hx hb dX4_root_37 (by decide) ?_
      refine vx_ret ?_
      refine W.iret hx hb hr (fun t ht hW => eTi ?_ (hS.F ht)) hS.2.2 dX4_root_41
      exact ⟨⟨i, hi, rfl⟩, Or.inl ⟨rfl, inR_yes hok.2.2 hc25 (by simp only [Int32.lt_iff_toInt_lt, Int32.le_iff_toInt_le] at hc33 ⊢; omega)⟩⟩

abbrev vX4_factorOf : List Cond := .code yX4_factorOf cX4_factorOf 2 (some .int) :: cWS
set_option maxHeartbeats 4000000 in
set_option maxRecDepth 100000 in
/-- factorOf, the first call: nothing was factored -/
theorem c_X4_factorOf (l : Launch) (hnt : l.stackTraces = false) (dC : Nat → ClassId) (dI : Nat → Nat → Nat) (ad : Nat → Nat) (g : Nat → Option Nat) (ck : Nat → ClassId) (sa : Nat → Nat) (L : List Nat) (pr : Nat) (hok : cOk ad g L pr) (sz : Nat) (p0 : Int32) : vx_Met l yX4_factorOf vX4_factorOf ({ frames := 8, cells := 1, slots := 6, locals := 124 }) (va_Pc [.ref (ad 0), .int p0] (cP (dC, dI) ck sa (cW ad g ck L pr (nI 0)) sz)) (va_Qi (fun r (_ : Unit) => (fun _ => False) r) (fun _ _ => True) (va_A (cW ad g ck L pr (nI 0)) sz)) (cXC (fun E => E = nmA) (va_A (cW ad g ck L pr (nI 0)) sz)) 1 6 (va_A (cW ad g ck L pr (nI 0)) sz) := by
  refine vx_ofW (cc := cX4_factorOf) (maxL := 2) (ret := (some .int)) (by decide +kernel) rfl ?_
  intro p e s m args below meth c s₁ B hml hnoex hv
  obtain ⟨rfl, hsz, hP, hK, hD0, hX⟩ := hv
  have hx := B.exec
  have hb := B.bytes
  have hr := B.returns
  have hts := atoms_spec (ws := vX4_factorOf) B.pre
  have hown : s.vm.findClass RX4 = some m.cls := findClass_of_methodNamed B.named
  have hlocks := B.notSynchronized
  subst hsz
  have hD := hD0.self (sz := s.heap.size)
  generalize hAe : va_A (cW ad g ck L pr (nI 0)) s.heap.size = A at hD hX ⊢
  have hA : ∀ q : Nat, s.heap.size ≤ q → A q := fun q h => by rw [← hAe]; exact Or.inr h
  have hS : va_S A s.heap s.heap [] := va_S.rf
  have hinX4 : ∀ w ∈ wsX40, w ∈ vX4_factorOf := fun w h => List.mem_cons_of_mem _ (inCX4 w h)
  have hl := lv_entry ([.ref (ad 0), .int p0]) (n := 2) (Nat.le_of_ble_eq_true rfl)
  rw [lg_entry_eq]
  generalize (lg_sl ([.ref (ad 0), .int p0]) ++ List.replicate (2 - (lg_sl ([.ref (ad 0), .int p0])).length) Slot.unset).toArray = ls at hl ⊢
  have hl : lv_has ls 2 [(0, .ref (ad 0)), (1, .int p0)] := hl
  obtain ⟨H, hHe⟩ : ∃ H : Heap, H = s.heap := ⟨_, rfl⟩
  have hP : va_P (dC, dI) vwCl (cW ad g ck L pr (nI 0)) H := by rw [hHe]; exact hP
  have hS : va_S A s.heap H [] := by rw [hHe]; exact hS
  suffices hgo : W p l e (headSpec vX4_factorOf ({ frames := 8, cells := 1, slots := 6, locals := 124 })).room s m ([.ref (ad 0), .int p0] : List Value).toArray below meth c H [] 0 0 (vx_MQ below (va_Qi (fun r (_ : Unit) => (fun _ => False) r) (fun _ _ => True) A) (cXC (fun E => E = nmA) A) ([.ref (ad 0), .int p0] : List Value).toArray s 1 6 A) (F0 m 0 ls []) by rw [hHe] at hgo; exact hgo
  refine lv_aload_n hx hb dX4_factorOf_0 rfl (lv_at hl 0 rfl) ?_
  refine lv_iload_n hx hb dX4_factorOf_1 rfl (lv_at hl 1 rfl) ?_
  refine cx_v (vx_runV (As := [.int p0]) (rest := []) ⟨hx, hb, hml, hown, hts⟩ (c_X4_needFactor l hnt dC dI ad g ck sa L pr hok H.size p0) (cwV 1 hts (gWv (by decide +kernel)) rfl rfl rfl (by decide +kernel) ⟨Nat.le_of_ble_eq_true rfl, Nat.le_of_ble_eq_true rfl⟩) ⟨cP_blind, va_recv hK hP (ci := 5) (q0 := 0) rfl rfl, cP_of hP hK hD hS hA hX⟩ rfl rfl hl.1 rfl (lv_room (Nat.le_of_ble_eq_true rfl)) dX4_factorOf_2 ⟨Nat.le_of_ble_eq_true rfl, Nat.le_of_ble_eq_true rfl⟩) hS (cF hD hS hA) (fun E ce q9 H locs hE hS h1 h2 h3 => ?_) (fun H locs hw_1 hP hS => ?_)
  · refine vx_widen (k := 1) (n := 6) (by decide) (by decide) ?_
    exact vx_out (fun x hx9 => (hnoex x hx9).elim) hlocks h1 h2 h3 (fun t ht _ => cXC_on (hE) hS ht) hS.2.2 (by decide) (by decide)
  exact hw_1.elim

abbrev vX4_multiplicity : List Cond := .code yX4_multiplicity cX4_multiplicity 2 (some .int) :: cWS
set_option maxHeartbeats 4000000 in
set_option maxRecDepth 100000 in
/-- multiplicity, the first call: nothing was factored -/
theorem c_X4_multiplicity (l : Launch) (hnt : l.stackTraces = false) (dC : Nat → ClassId) (dI : Nat → Nat → Nat) (ad : Nat → Nat) (g : Nat → Option Nat) (ck : Nat → ClassId) (sa : Nat → Nat) (L : List Nat) (pr : Nat) (hok : cOk ad g L pr) (sz : Nat) (p0 : Int32) : vx_Met l yX4_multiplicity vX4_multiplicity ({ frames := 8, cells := 1, slots := 6, locals := 124 }) (va_Pc [.ref (ad 0), .int p0] (cP (dC, dI) ck sa (cW ad g ck L pr (nI 0)) sz)) (va_Qi (fun r (_ : Unit) => (fun _ => False) r) (fun _ _ => True) (va_A (cW ad g ck L pr (nI 0)) sz)) (cXC (fun E => E = nmA) (va_A (cW ad g ck L pr (nI 0)) sz)) 1 6 (va_A (cW ad g ck L pr (nI 0)) sz) := by
  refine vx_ofW (cc := cX4_multiplicity) (maxL := 2) (ret := (some .int)) (by decide +kernel) rfl ?_
  intro p e s m args below meth c s₁ B hml hnoex hv
  obtain ⟨rfl, hsz, hP, hK, hD0, hX⟩ := hv
  have hx := B.exec
  have hb := B.bytes
  have hr := B.returns
  have hts := atoms_spec (ws := vX4_multiplicity) B.pre
  have hown : s.vm.findClass RX4 = some m.cls := findClass_of_methodNamed B.named
  have hlocks := B.notSynchronized
  subst hsz
  have hD := hD0.self (sz := s.heap.size)
  generalize hAe : va_A (cW ad g ck L pr (nI 0)) s.heap.size = A at hD hX ⊢
  have hA : ∀ q : Nat, s.heap.size ≤ q → A q := fun q h => by rw [← hAe]; exact Or.inr h
  have hS : va_S A s.heap s.heap [] := va_S.rf
  have hinX4 : ∀ w ∈ wsX40, w ∈ vX4_multiplicity := fun w h => List.mem_cons_of_mem _ (inCX4 w h)
  have hl := lv_entry ([.ref (ad 0), .int p0]) (n := 2) (Nat.le_of_ble_eq_true rfl)
  rw [lg_entry_eq]
  generalize (lg_sl ([.ref (ad 0), .int p0]) ++ List.replicate (2 - (lg_sl ([.ref (ad 0), .int p0])).length) Slot.unset).toArray = ls at hl ⊢
  have hl : lv_has ls 2 [(0, .ref (ad 0)), (1, .int p0)] := hl
  obtain ⟨H, hHe⟩ : ∃ H : Heap, H = s.heap := ⟨_, rfl⟩
  have hP : va_P (dC, dI) vwCl (cW ad g ck L pr (nI 0)) H := by rw [hHe]; exact hP
  have hS : va_S A s.heap H [] := by rw [hHe]; exact hS
  suffices hgo : W p l e (headSpec vX4_multiplicity ({ frames := 8, cells := 1, slots := 6, locals := 124 })).room s m ([.ref (ad 0), .int p0] : List Value).toArray below meth c H [] 0 0 (vx_MQ below (va_Qi (fun r (_ : Unit) => (fun _ => False) r) (fun _ _ => True) A) (cXC (fun E => E = nmA) A) ([.ref (ad 0), .int p0] : List Value).toArray s 1 6 A) (F0 m 0 ls []) by rw [hHe] at hgo; exact hgo
  refine lv_aload_n hx hb dX4_multiplicity_0 rfl (lv_at hl 0 rfl) ?_
  refine lv_iload_n hx hb dX4_multiplicity_1 rfl (lv_at hl 1 rfl) ?_
  refine cx_v (vx_runV (As := [.int p0]) (rest := []) ⟨hx, hb, hml, hown, hts⟩ (c_X4_needFactor l hnt dC dI ad g ck sa L pr hok H.size p0) (cwV 1 hts (gWv (by decide +kernel)) rfl rfl rfl (by decide +kernel) ⟨Nat.le_of_ble_eq_true rfl, Nat.le_of_ble_eq_true rfl⟩) ⟨cP_blind, va_recv hK hP (ci := 5) (q0 := 0) rfl rfl, cP_of hP hK hD hS hA hX⟩ rfl rfl hl.1 rfl (lv_room (Nat.le_of_ble_eq_true rfl)) dX4_multiplicity_2 ⟨Nat.le_of_ble_eq_true rfl, Nat.le_of_ble_eq_true rfl⟩) hS (cF hD hS hA) (fun E ce q9 H locs hE hS h1 h2 h3 => ?_) (fun H locs hw_1 hP hS => ?_)
  · refine vx_widen (k := 1) (n := 6) (by decide) (by decide) ?_
    exact vx_out (fun x hx9 => (hnoex x hx9).elim) hlocks h1 h2 h3 (fun t ht _ => cXC_on (hE) hS ht) hS.2.2 (by decide) (by decide)
  exact hw_1.elim

abbrev vX4_lift : List Cond := .code yX4_lift cX4_lift 5 (some .int) :: cWS
set_option maxHeartbeats 4000000 in
set_option maxRecDepth 100000 in
/-- lift, the first call: nothing was factored -/
theorem c_X4_lift (l : Launch) (hnt : l.stackTraces = false) (dC : Nat → ClassId) (dI : Nat → Nat → Nat) (ad : Nat → Nat) (g : Nat → Option Nat) (ck : Nat → ClassId) (sa : Nat → Nat) (L : List Nat) (pr : Nat) (hok : cOk ad g L pr) (sz : Nat) (p0 : Int32) (p1 : Int32) : vx_Met l yX4_lift vX4_lift ({ frames := 8, cells := 1, slots := 6, locals := 124 }) (va_Pc [.ref (ad 0), .int p0, .int p1] (cP (dC, dI) ck sa (cW ad g ck L pr (nI 0)) sz)) (va_Qi (fun r (_ : Unit) => (fun _ => False) r) (fun _ _ => True) (va_A (cW ad g ck L pr (nI 0)) sz)) (cXC (fun E => E = nmA) (va_A (cW ad g ck L pr (nI 0)) sz)) 1 6 (va_A (cW ad g ck L pr (nI 0)) sz) := by
  refine vx_ofW (cc := cX4_lift) (maxL := 5) (ret := (some .int)) (by decide +kernel) rfl ?_
  intro p e s m args below meth c s₁ B hml hnoex hv
  obtain ⟨rfl, hsz, hP, hK, hD0, hX⟩ := hv
  have hx := B.exec
  have hb := B.bytes
  have hr := B.returns
  have hts := atoms_spec (ws := vX4_lift) B.pre
  have hown : s.vm.findClass RX4 = some m.cls := findClass_of_methodNamed B.named
  have hlocks := B.notSynchronized
  subst hsz
  have hD := hD0.self (sz := s.heap.size)
  generalize hAe : va_A (cW ad g ck L pr (nI 0)) s.heap.size = A at hD hX ⊢
  have hA : ∀ q : Nat, s.heap.size ≤ q → A q := fun q h => by rw [← hAe]; exact Or.inr h
  have hS : va_S A s.heap s.heap [] := va_S.rf
  have hinX4 : ∀ w ∈ wsX40, w ∈ vX4_lift := fun w h => List.mem_cons_of_mem _ (inCX4 w h)
  have hl := lv_entry ([.ref (ad 0), .int p0, .int p1]) (n := 5) (Nat.le_of_ble_eq_true rfl)
  rw [lg_entry_eq]
  generalize (lg_sl ([.ref (ad 0), .int p0, .int p1]) ++ List.replicate (5 - (lg_sl ([.ref (ad 0), .int p0, .int p1])).length) Slot.unset).toArray = ls at hl ⊢
  have hl : lv_has ls 5 [(0, .ref (ad 0)), (1, .int p0), (2, .int p1)] := hl
  obtain ⟨H, hHe⟩ : ∃ H : Heap, H = s.heap := ⟨_, rfl⟩
  have hP : va_P (dC, dI) vwCl (cW ad g ck L pr (nI 0)) H := by rw [hHe]; exact hP
  have hS : va_S A s.heap H [] := by rw [hHe]; exact hS
  suffices hgo : W p l e (headSpec vX4_lift ({ frames := 8, cells := 1, slots := 6, locals := 124 })).room s m ([.ref (ad 0), .int p0, .int p1] : List Value).toArray below meth c H [] 0 0 (vx_MQ below (va_Qi (fun r (_ : Unit) => (fun _ => False) r) (fun _ _ => True) A) (cXC (fun E => E = nmA) A) ([.ref (ad 0), .int p0, .int p1] : List Value).toArray s 1 6 A) (F0 m 0 ls []) by rw [hHe] at hgo; exact hgo
  refine lv_aload_n hx hb dX4_lift_0 rfl (lv_at hl 0 rfl) ?_
  refine lv_iload_n hx hb dX4_lift_1 rfl (lv_at hl 1 rfl) ?_
  refine cx_v (vx_runV (As := [.int p0]) (rest := []) ⟨hx, hb, hml, hown, hts⟩ (c_X4_needFactor l hnt dC dI ad g ck sa L pr hok H.size p0) (cwV 1 hts (gWv (by decide +kernel)) rfl rfl rfl (by decide +kernel) ⟨Nat.le_of_ble_eq_true rfl, Nat.le_of_ble_eq_true rfl⟩) ⟨cP_blind, va_recv hK hP (ci := 5) (q0 := 0) rfl rfl, cP_of hP hK hD hS hA hX⟩ rfl rfl hl.1 rfl (lv_room (Nat.le_of_ble_eq_true rfl)) dX4_lift_2 ⟨Nat.le_of_ble_eq_true rfl, Nat.le_of_ble_eq_true rfl⟩) hS (cF hD hS hA) (fun E ce q9 H locs hE hS h1 h2 h3 => ?_) (fun H locs hw_1 hP hS => ?_)
  · refine vx_widen (k := 1) (n := 6) (by decide) (by decide) ?_
    exact vx_out (fun x hx9 => (hnoex x hx9).elim) hlocks h1 h2 h3 (fun t ht _ => cXC_on (hE) hS ht) hS.2.2 (by decide) (by decide)
  exact hw_1.elim

abbrev vX4_at : List Cond := .code yX4_at cX4_at 3 (some .int) :: cWS
set_option maxHeartbeats 4000000 in
set_option maxRecDepth 100000 in
/-- at(p, k), the first call -/
theorem c_X4_at (l : Launch) (hnt : l.stackTraces = false) (dC : Nat → ClassId) (dI : Nat → Nat → Nat) (ad : Nat → Nat) (g : Nat → Option Nat) (ck : Nat → ClassId) (sa : Nat → Nat) (L : List Nat) (pr : Nat) (hok : cOk ad g L pr) (sz : Nat) (p0 p1 : Int32) : vx_Met l yX4_at vX4_at ({ frames := 8, cells := 2, slots := 12, locals := 124 }) (va_Pc [.ref (ad 0), .int p0, .int p1] (cP (dC, dI) ck sa (cW ad g ck L pr (nI 0)) sz)) (va_Qi (fun r (_ : Unit) => (fun r => inR p0 96 ∧ inR p1 32 ∧ r = nI 0) r) (fun _ _ => True) (va_A (cW ad g ck L pr (nI 0)) sz)) (cXC (fun E => E = nmA ∧ ¬ (inR p0 96 ∧ inR p1 32)) (va_A (cW ad g ck L pr (nI 0)) sz)) 2 12 (va_A (cW ad g ck L pr (nI 0)) sz) := by
  refine vx_ofW (cc := cX4_at) (maxL := 3) (ret := (some .int)) (by decide +kernel) rfl ?_
  intro p e s m args below meth c s₁ B hml hnoex hv
  obtain ⟨rfl, hsz, hP, hK, hD0, hX⟩ := hv
  have hx := B.exec
  have hb := B.bytes
  have hr := B.returns
  have hts := atoms_spec (ws := vX4_at) B.pre
  have hown : s.vm.findClass RX4 = some m.cls := findClass_of_methodNamed B.named
  have hlocks := B.notSynchronized
  subst hsz
  have hD := hD0.self (sz := s.heap.size)
  generalize hAe : va_A (cW ad g ck L pr (nI 0)) s.heap.size = A at hD hX ⊢
  have hA : ∀ q : Nat, s.heap.size ≤ q → A q := fun q h => by rw [← hAe]; exact Or.inr h
  have hS : va_S A s.heap s.heap [] := va_S.rf
  have hinX4 : ∀ w ∈ wsX40, w ∈ vX4_at := fun w h => List.mem_cons_of_mem _ (inCX4 w h)
  have hl := lv_entry ([.ref (ad 0), .int p0, .int p1]) (n := 3) (Nat.le_of_ble_eq_true rfl)
  rw [lg_entry_eq]
  generalize (lg_sl ([.ref (ad 0), .int p0, .int p1]) ++ List.replicate (3 - (lg_sl ([.ref (ad 0), .int p0, .int p1])).length) Slot.unset).toArray = ls at hl ⊢
  have hl : lv_has ls 3 [(0, .ref (ad 0)), (1, .int p0), (2, .int p1)] := hl
  obtain ⟨H, hHe⟩ : ∃ H : Heap, H = s.heap := ⟨_, rfl⟩
  have hP : va_P (dC, dI) vwCl (cW ad g ck L pr (nI 0)) H := by rw [hHe]; exact hP
  have hS : va_S A s.heap H [] := by rw [hHe]; exact hS
  suffices hgo : W p l e (headSpec vX4_at ({ frames := 8, cells := 2, slots := 12, locals := 124 })).room s m ([.ref (ad 0), .int p0, .int p1] : List Value).toArray below meth c H [] 0 0 (vx_MQ below (va_Qi (fun r (_ : Unit) => (fun r => inR p0 96 ∧ inR p1 32 ∧ r = nI 0) r) (fun _ _ => True) A) (cXC (fun E => E = nmA ∧ ¬ (inR p0 96 ∧ inR p1 32)) A) ([.ref (ad 0), .int p0, .int p1] : List Value).toArray s 2 12 A) (F0 m 0 ls []) by rw [hHe] at hgo; exact hgo
  refine lv_aload_n hx hb dX4_at_0 rfl (lv_at hl 0 rfl) ?_
  refine lv_iload_n hx hb dX4_at_1 rfl (lv_at hl 1 rfl) ?_
  refine cx_v (vx_runV (As := [.int p0]) (rest := []) ⟨hx, hb, hml, hown, hts⟩ (c_X4_needPolynomial l hnt dC dI ad g ck sa L pr hok H.size p0) (cwV 1 hts (gWv (by decide +kernel)) rfl rfl rfl (by decide +kernel) ⟨Nat.le_of_ble_eq_true rfl, Nat.le_of_ble_eq_true rfl⟩) ⟨cP_blind, va_recv hK hP (ci := 5) (q0 := 0) rfl rfl, cP_of hP hK hD hS hA hX⟩ rfl rfl hl.1 rfl (lv_room (Nat.le_of_ble_eq_true rfl)) dX4_at_2 ⟨Nat.le_of_ble_eq_true rfl, Nat.le_of_ble_eq_true rfl⟩) hS (cF hD hS hA) (fun E ce q9 H locs hE hS h1 h2 h3 => ?_) (fun H locs hw_1 hP hS => ?_)
  · refine vx_widen (k := 2) (n := 12) (by decide) (by decide) ?_
    exact vx_out (fun x hx9 => (hnoex x hx9).elim) hlocks h1 h2 h3 (fun t ht _ => cXC_on (⟨hE.1, fun h => hE.2 h.1⟩) hS ht) hS.2.2 (by decide) (by decide)
  obtain ⟨i, hi, rfl⟩ := hw_1
  refine lv_aload_n hx hb dX4_at_5 rfl (lv_at hl 0 rfl) ?_
  refine lv_iload_n hx hb dX4_at_6 rfl (lv_at hl 2 rfl) ?_
  refine cx_v (vx_runV (As := [.int p1]) (rest := []) ⟨hx, hb, hml, hown, hts⟩ (c_X4_needCoefficient l hnt dC dI ad g ck sa L pr hok H.size p1) (cwV 1 hts (gWv (by decide +kernel)) rfl rfl rfl (by decide +kernel) ⟨Nat.le_of_ble_eq_true rfl, Nat.le_of_ble_eq_true rfl⟩) ⟨cP_blind, va_recv hK hP (ci := 5) (q0 := 0) rfl rfl, cP_of hP hK hD hS hA hX⟩ rfl rfl hl.1 rfl (lv_room (Nat.le_of_ble_eq_true rfl)) dX4_at_7 ⟨Nat.le_of_ble_eq_true rfl, Nat.le_of_ble_eq_true rfl⟩) hS (cF hD hS hA) (fun E ce q9 H locs hE hS h1 h2 h3 => ?_) (fun H locs hw_2 hP hS => ?_)
  · refine vx_widen (k := 2) (n := 12) (by decide) (by decide) ?_
    exact vx_out (fun x hx9 => (hnoex x hx9).elim) hlocks h1 h2 h3 (fun t ht _ => cXC_on (⟨hE.1, fun h => hE.2 h.2⟩) hS ht) hS.2.2 (by decide) (by decide)
  obtain ⟨k, hk, rfl⟩ := hw_2
  obtain ⟨y, hy, hyL⟩ := hok.1.1 i hi
  refine lv_aload_n hx hb dX4_at_10 rfl (lv_at hl 0 rfl) ?_
  refine va_get (D := (dC, dI)) (ci := 5) (v := .ref (ad 1)) (C := RX4) (T := TX4) (N := 10) hx hb hts hinX4 hown hK hP 0 rfl rfl 1 (by decide) (hts (.fieldLink RX4 19 "ResidueRows" "rows" "[[I") (by decide +kernel)) (fun _ h9 => h9) rfl dX4_at_11 ?_
  refine lv_iload_n hx hb dX4_at_14 rfl (lv_at hl 1 rfl) ?_
  refine zg_ld hx hb hK hP 1 2 rfl rfl (i := i) hi (by decide) hy dX4_at_15 ?_
  refine lv_iload_n hx hb dX4_at_16 rfl (lv_at hl 2 rfl) ?_
  refine zi_ld hx hb hK hP 0 rfl hyL (vp_in_nI hk (by decide)) dX4_at_17 ?_
  refine vx_ret ?_
  refine W.iret hx hb hr (fun t ht hW => eTi ?_ (hS.F ht)) hS.2.2 dX4_at_18
  exact ⟨⟨i, hi, rfl⟩, ⟨k, hk, rfl⟩, rfl⟩

abbrev vX4_inverse : List Cond := .code yX4_inverse cX4_inverse 3 (some .int) :: cWS
set_option maxHeartbeats 4000000 in
set_option maxRecDepth 100000 in
/-- inverse(v) -/
theorem c_X4_inverse (l : Launch) (hnt : l.stackTraces = false) (dC : Nat → ClassId) (dI : Nat → Nat → Nat) (ad : Nat → Nat) (g : Nat → Option Nat) (ck : Nat → ClassId) (sa : Nat → Nat) (L : List Nat) (pr : Nat) (hok : cOk ad g L pr) (sz : Nat) (p0 : Int32) : vx_Met l yX4_inverse vX4_inverse ({ frames := 7, cells := 1, slots := 6, locals := 103 }) (va_Pc [.ref (ad 0), .int p0] (cP (dC, dI) ck sa (cW ad g ck L pr (nI 0)) sz)) (va_Qi (fun r (_ : Unit) => (fun r => (p0.toInt % pr).toNat ≠ 0 ∧ ∃ z : Nat, r = nI z ∧ invOf pr (p0.toInt % pr).toNat z) r) (fun _ _ => True) (va_A (cW ad g ck L pr (nI 0)) sz)) (cXC (fun E => E = nmE ∧ (p0.toInt % pr).toNat = 0) (va_A (cW ad g ck L pr (nI 0)) sz)) 1 6 (va_A (cW ad g ck L pr (nI 0)) sz) := by
  refine vx_ofW (cc := cX4_inverse) (maxL := 3) (ret := (some .int)) (by decide +kernel) rfl ?_
  intro p e s m args below meth c s₁ B hml hnoex hv
  obtain ⟨rfl, hsz, hP, hK, hD0, hX⟩ := hv
  have hx := B.exec
  have hb := B.bytes
  have hr := B.returns
  have hts := atoms_spec (ws := vX4_inverse) B.pre
  have hown : s.vm.findClass RX4 = some m.cls := findClass_of_methodNamed B.named
  have hlocks := B.notSynchronized
  subst hsz
  have hD := hD0.self (sz := s.heap.size)
  generalize hAe : va_A (cW ad g ck L pr (nI 0)) s.heap.size = A at hD hX ⊢
  have hA : ∀ q : Nat, s.heap.size ≤ q → A q := fun q h => by rw [← hAe]; exact Or.inr h
  have hS : va_S A s.heap s.heap [] := va_S.rf
  have hinX4 : ∀ w ∈ wsX40, w ∈ vX4_inverse := fun w h => List.mem_cons_of_mem _ (inCX4 w h)
  have hl := lv_entry ([.ref (ad 0), .int p0]) (n := 3) (Nat.le_of_ble_eq_true rfl)
  rw [lg_entry_eq]
  generalize (lg_sl ([.ref (ad 0), .int p0]) ++ List.replicate (3 - (lg_sl ([.ref (ad 0), .int p0])).length) Slot.unset).toArray = ls at hl ⊢
  have hl : lv_has ls 3 [(0, .ref (ad 0)), (1, .int p0)] := hl
  obtain ⟨H, hHe⟩ : ∃ H : Heap, H = s.heap := ⟨_, rfl⟩
  have hP : va_P (dC, dI) vwCl (cW ad g ck L pr (nI 0)) H := by rw [hHe]; exact hP
  have hS : va_S A s.heap H [] := by rw [hHe]; exact hS
  suffices hgo : W p l e (headSpec vX4_inverse ({ frames := 7, cells := 1, slots := 6, locals := 103 })).room s m ([.ref (ad 0), .int p0] : List Value).toArray below meth c H [] 0 0 (vx_MQ below (va_Qi (fun r (_ : Unit) => (fun r => (p0.toInt % pr).toNat ≠ 0 ∧ ∃ z : Nat, r = nI z ∧ invOf pr (p0.toInt % pr).toNat z) r) (fun _ _ => True) A) (cXC (fun E => E = nmE ∧ (p0.toInt % pr).toNat = 0) A) ([.ref (ad 0), .int p0] : List Value).toArray s 1 6 A) (F0 m 0 ls []) by rw [hHe] at hgo; exact hgo
  have hpr2 := hok.2.1.1
  have hpr31 := hok.2.2
  have hq0 := Int.emod_nonneg p0.toInt (show (pr : Int) ≠ 0 by omega)
  have hq1 := Int.emod_lt_of_pos p0.toInt (show (0 : Int) < pr by omega)
  refine lv_iload_n hx hb dX4_inverse_0 rfl (lv_at hl 1 rfl) ?_
  refine lv_aload_n hx hb dX4_inverse_1 rfl (lv_at hl 0 rfl) ?_
  refine va_get (D := (dC, dI)) (ci := 5) (v := .int (nI pr)) (C := RX4) (T := TX4) (N := 10) hx hb hts hinX4 hown hK hP 0 rfl rfl 0 (by decide) (hts (.fieldLink RX4 13 "ResidueRows" "prime" "I") (by decide +kernel)) (fun _ h9 => h9) rfl dX4_inverse_2 ?_
  refine pc_i (va_runS (As := [.int p0, .int (nI pr)]) (rest := []) ⟨hx, hb, hml, hown, hts⟩ (c_J9_floorMod_7cf53 l p0 (by omega) hpr31) (va_cwS 2 hts (gWp (by decide +kernel) inJ9_floorMod_7cf53) rfl rfl rfl (by decide +kernel) ⟨Nat.le_of_ble_eq_true rfl, Nat.le_of_ble_eq_true rfl⟩) pPc_S rfl rfl hl.1 rfl (lv_room (Nat.le_of_ble_eq_true rfl)) dX4_inverse_5 ⟨Nat.le_of_ble_eq_true rfl, Nat.le_of_ble_eq_true rfl⟩) hS (fun rq H9 locs9 hq hz9 hk9 hS => ?_)
  have hP := hP.kept (fun k x hx => hk9 x.1 ((hP k x hx).lt))
  generalize H9 = H at hP hS ⊢
  subst hq
  refine lv_istore_n (lv' := [(2, .int (nI (p0.toInt % pr).toNat)), (0, .ref (ad 0)), (1, .int p0)]) hx hb dX4_inverse_8 rfl hl (by decide) rfl (fun ls hl => ?_)
  refine lv_iload_n hx hb dX4_inverse_9 rfl (lv_at hl 0 rfl) ?_
  refine lv_if_ne (tgt := 23) hx hb dX4_inverse_10 (by decide) (fun hc10 => ?_) (fun hc10 => ?_)
  · have hne : (p0.toInt % pr).toNat ≠ 0 := fun h => hc10 (by rw [h]; exact nI_0)
    refine lv_iload_n hx hb dX4_inverse_23 rfl (lv_at hl 0 rfl) ?_
    refine lv_i2l (v := lN (p0.toInt % pr).toNat) hx hb dX4_inverse_24 (nI_l (by omega)) ?_
    refine lv_aload_n hx hb dX4_inverse_25 rfl (lv_at hl 1 rfl) ?_
    refine va_get (D := (dC, dI)) (ci := 5) (v := .int (nI pr)) (C := RX4) (T := TX4) (N := 10) hx hb hts hinX4 hown hK hP 0 rfl rfl 0 (by decide) (hts (.fieldLink RX4 13 "ResidueRows" "prime" "I") (by decide +kernel)) (fun _ h9 => h9) rfl dX4_inverse_26 ?_
    refine lv_i2l (v := lN pr) hx hb dX4_inverse_29 (nI_l hpr31) ?_
    refine pc_l (va_runS (As := [.long (lN (p0.toInt % pr).toNat), .long (lN pr)]) (rest := []) ⟨hx, hb, hml, hown, hts⟩ (c_X2_reciprocal l (v := (p0.toInt % pr).toNat) (mo := pr) (by omega) (by omega) hpr31 (pr_gcd hok.2.1 (by omega) (by omega))) (va_cwS 2 hts (gWp (by decide +kernel) inX2_reciprocal) rfl rfl rfl (by decide +kernel) ⟨Nat.le_of_ble_eq_true rfl, Nat.le_of_ble_eq_true rfl⟩) pPc_S rfl rfl hl.1 rfl (lv_room (Nat.le_of_ble_eq_true rfl)) dX4_inverse_30 ⟨Nat.le_of_ble_eq_true rfl, Nat.le_of_ble_eq_true rfl⟩) hS (fun rz H9 locs9 hz hz9 hk9 hS => ?_)
    have hP := hP.kept (fun k x hx => hk9 x.1 ((hP k x hx).lt))
    generalize H9 = H at hP hS ⊢
    obtain ⟨z, rfl, hzi⟩ := hz
    refine lv_l2i (v := nI z) hx hb dX4_inverse_33 (lN_i z) ?_
    refine W.widen (k := 1) (n := 6) (by decide) (by decide) ?_
    refine vx_ret ?_
    refine W.iret hx hb hr (fun t ht hW => eTi ?_ (hS.F ht)) hS.2.2 dX4_inverse_34
    exact ⟨hne, z, rfl, hzi⟩
  · exact vx_throwS (own := RX4) (cls := nmE) (text := "0 has no inverse") (names := chR) (A := A) hx hb hnt hown (by decide +kernel) (by decide +kernel) (hts (.classLink RX4 112 nmE) (by decide +kernel)) (hts (.initialized nmE) (by decide +kernel)) hX.2.2.2.2.2.2.2 (vx_hat (fun w9 h9 => hts w9 (List.mem_cons_of_mem _ (inCE w9 h9))) cNL_E (fun w9 h9 => va_Nw.use (cNL_on w9 h9) (hX.1 w9 h9))) at_otE hX.2.1.1 hX.2.1.2 hS (hl.1.trans hml.symm) dX4_inverse_13 dX4_inverse_16 dX4_inverse_17 dX4_inverse_19 dX4_inverse_22 (fun x hx9 => (hnoex x hx9).elim) (by decide) (by decide) (by decide) (by decide) hlocks (fun t _ hz9 hk9 => cXC_new (⟨rfl, (nI_eq (by omega) (by decide)).mp (hc10.trans nI_0.symm)⟩) hS hz9 hk9) hS.2.2 (by decide) (by decide)
