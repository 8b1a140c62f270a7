abbrev vX5_isRow : List Cond := .code yX5_isRow cX5_isRow 2 (some .boolean) :: mWS
set_option maxHeartbeats 4000000 in
set_option maxRecDepth 100000 in
/-- isRow(p) -/
theorem c_X5_isRow (l : Launch) (dC : Nat → ClassId) (dI : Nat → Nat → Nat) (ad : Nat → Nat) (ck : Nat → ClassId) (L : List Nat) (ln : Nat → Nat) (pr : Nat) (hok : mOk ad L ln pr) (sz : Nat) (th : Int32) (p0 : Int32) : Met l yX5_isRow vX5_isRow ({ frames := 0, cells := 0, slots := 0, locals := 0 }) (va_Pc [.ref (ad 0), .int p0] (mP (dC, dI) ck (mW ad ck L ln pr th (nI 0)) sz)) (va_Qi (fun r (_ : Unit) => (fun r => (r = nI 1 ∧ inR p0 96) ∨ (r = nI 0 ∧ ¬ inR p0 96)) r) (fun _ t => va_P (dC, dI) vwCl (mW ad ck L ln pr th (nI 0)) t.heap) (va_A (mW ad ck L ln pr th (nI 0)) sz)) 0 0 (va_A (mW ad ck L ln pr th (nI 0)) sz) := by
  refine Met.ofW (cc := cX5_isRow) (maxL := 2) (ret := (some .boolean)) (by decide +kernel) rfl ?_
  intro p e s m args below meth c s₁ B hml hv
  obtain ⟨rfl, hsz, hP, hK, hD0⟩ := hv
  have hx := B.exec
  have hb := B.bytes
  have hr := B.returns
  have hts := atoms_spec (ws := vX5_isRow) B.pre
  have hown : s.vm.findClass RX5 = some m.cls := findClass_of_methodNamed B.named
  have hlocks := B.notSynchronized
  subst hsz
  have hD := hD0.self (sz := s.heap.size)
  generalize hAe : va_A (mW ad ck L ln pr th (nI 0)) s.heap.size = A at hD ⊢
  have hA : ∀ q : Nat, s.heap.size ≤ q → A q := fun q h => by rw [← hAe]; exact Or.inr h
  have hS : va_S A s.heap s.heap [] := va_S.rf
  have hinX5 : ∀ w ∈ wsX50, w ∈ vX5_isRow := fun w h => List.mem_cons_of_mem _ (inMX5 w h)
  have hpr2 := hok.2.1.1
  have hpr31 := hok.2.2
  have hl := lv_entry ([.ref (ad 0), .int p0]) (n := 2) (Nat.le_of_ble_eq_true rfl)
  rw [lg_entry_eq]
  generalize (lg_sl ([.ref (ad 0), .int p0]) ++ List.replicate (2 - (lg_sl ([.ref (ad 0), .int p0])).length) Slot.unset).toArray = ls at hl ⊢
  have hl : lv_has ls 2 [(0, .ref (ad 0)), (1, .int p0)] := hl
  obtain ⟨H, hHe⟩ : ∃ H : Heap, H = s.heap := ⟨_, rfl⟩
  have hP : va_P (dC, dI) vwCl (mW ad ck L ln pr th (nI 0)) H := by rw [hHe]; exact hP
  have hS : va_S A s.heap H [] := by rw [hHe]; exact hS
  suffices hgo : W p l e (headSpec vX5_isRow ({ frames := 0, cells := 0, slots := 0, locals := 0 })).room s m ([.ref (ad 0), .int p0] : List Value).toArray below meth c H [] 0 0 (MQ below (va_Qi (fun r (_ : Unit) => (fun r => (r = nI 1 ∧ inR p0 96) ∨ (r = nI 0 ∧ ¬ inR p0 96)) r) (fun _ t => va_P (dC, dI) vwCl (mW ad ck L ln pr th (nI 0)) t.heap) A) ([.ref (ad 0), .int p0] : List Value).toArray s 0 0 A) (F0 m 0 ls []) by rw [hHe] at hgo; exact hgo
  refine lv_iload_n hx hb dX5_isRow_0 rfl (lv_at hl 1 rfl) ?_
  refine lv_if_lt (tgt := 14) hx hb dX5_isRow_1 (by decide) (fun hc1 => ?_) (fun hc1 => ?_)
  · refine lv_iconst (v := nI 0) hx hb dX5_isRow_14 (by decide +kernel) ?_
    refine W.zret hx hb hr (by rfl) (fun t ht hW => eQi ?_ hP ht (hS.F ht)) hS.2.2 dX5_isRow_15
    exact Or.inr ⟨rfl, inR_neg (by decide) hc1⟩
  · refine lv_iload_n hx hb dX5_isRow_4 rfl (lv_at hl 1 rfl) ?_
    refine lv_bipush (v := nI 96) hx hb dX5_isRow_5 (by decide +kernel) ?_
    refine lv_icmp_ge (tgt := 14) hx hb dX5_isRow_7 (by decide) (fun hc7 => ?_) (fun hc7 => ?_)
    · refine lv_iconst (v := nI 0) hx hb dX5_isRow_14 (by decide +kernel) ?_
      refine W.zret hx hb hr (by rfl) (fun t ht hW => eQi ?_ hP ht (hS.F ht)) hS.2.2 dX5_isRow_15
      exact Or.inr ⟨rfl, inR_big (by decide) (fun h => by simp only [Int32.lt_iff_toInt_lt, Int32.le_iff_toInt_le] at h hc7; omega)⟩
    · refine lv_iconst (v := nI 1) hx hb dX5_isRow_10 (by decide +kernel) ?_
      refine lv_goto (tgt := 15) hx hb dX5_isRow_11 (by decide) ?_
      refine W.zret hx hb hr (by rfl) (fun t ht hW => eQi ?_ hP ht (hS.F ht)) hS.2.2 dX5_isRow_15
      exact Or.inl ⟨rfl, inR_yes (by decide) hc1 (by simp only [Int32.lt_iff_toInt_lt, Int32.le_iff_toInt_le] at hc7 ⊢; omega)⟩

abbrev vX5_modulo : List Cond := .code yX5_modulo cX5_modulo 5 (some .long) :: mWS
set_option maxHeartbeats 4000000 in
set_option maxRecDepth 100000 in
/-- modulo(v) -/
theorem c_X5_modulo (l : Launch) (dC : Nat → ClassId) (dI : Nat → Nat → Nat) (ad : Nat → Nat) (ck : Nat → ClassId) (L : List Nat) (ln : Nat → Nat) (pr : Nat) (hok : mOk ad L ln pr) (sz : Nat) (th : Int32) (x : Int64) : Met l yX5_modulo vX5_modulo ({ frames := 0, cells := 0, slots := 0, locals := 0 }) (va_Pc [.ref (ad 0), .long x] (mP (dC, dI) ck (mW ad ck L ln pr th (nI 0)) sz)) (va_Ql (fun r (_ : Unit) => (fun r => r = lN (x.toInt % pr).toNat) r) (fun _ t => va_P (dC, dI) vwCl (mW ad ck L ln pr th (nI 0)) t.heap) (va_A (mW ad ck L ln pr th (nI 0)) sz)) 0 0 (va_A (mW ad ck L ln pr th (nI 0)) sz) := by
  refine Met.ofW (cc := cX5_modulo) (maxL := 5) (ret := (some .long)) (by decide +kernel) rfl ?_
  intro p e s m args below meth c s₁ B hml hv
  obtain ⟨rfl, hsz, hP, hK, hD0⟩ := hv
  have hx := B.exec
  have hb := B.bytes
  have hr := B.returns
  have hts := atoms_spec (ws := vX5_modulo) B.pre
  have hown : s.vm.findClass RX5 = some m.cls := findClass_of_methodNamed B.named
  have hlocks := B.notSynchronized
  subst hsz
  have hD := hD0.self (sz := s.heap.size)
  generalize hAe : va_A (mW ad ck L ln pr th (nI 0)) s.heap.size = A at hD ⊢
  have hA : ∀ q : Nat, s.heap.size ≤ q → A q := fun q h => by rw [← hAe]; exact Or.inr h
  have hS : va_S A s.heap s.heap [] := va_S.rf
  have hinX5 : ∀ w ∈ wsX50, w ∈ vX5_modulo := fun w h => List.mem_cons_of_mem _ (inMX5 w h)
  have hpr2 := hok.2.1.1
  have hpr31 := hok.2.2
  have hl := lv_entry ([.ref (ad 0), .long x]) (n := 5) (Nat.le_of_ble_eq_true rfl)
  rw [lg_entry_eq]
  generalize (lg_sl ([.ref (ad 0), .long x]) ++ List.replicate (5 - (lg_sl ([.ref (ad 0), .long x])).length) Slot.unset).toArray = ls at hl ⊢
  have hl : lv_has ls 5 [(0, .ref (ad 0)), (1, .long x)] := hl
  obtain ⟨H, hHe⟩ : ∃ H : Heap, H = s.heap := ⟨_, rfl⟩
  have hP : va_P (dC, dI) vwCl (mW ad ck L ln pr th (nI 0)) H := by rw [hHe]; exact hP
  have hS : va_S A s.heap H [] := by rw [hHe]; exact hS
  suffices hgo : W p l e (headSpec vX5_modulo ({ frames := 0, cells := 0, slots := 0, locals := 0 })).room s m ([.ref (ad 0), .long x] : List Value).toArray below meth c H [] 0 0 (MQ below (va_Ql (fun r (_ : Unit) => (fun r => r = lN (x.toInt % pr).toNat) r) (fun _ t => va_P (dC, dI) vwCl (mW ad ck L ln pr th (nI 0)) t.heap) A) ([.ref (ad 0), .long x] : List Value).toArray s 0 0 A) (F0 m 0 ls []) by rw [hHe] at hgo; exact hgo
  have htb := lr_tb (z := x.toInt) (m := pr) (by omega)
  refine lv_lload_n hx hb dX5_modulo_0 rfl (lv_at hl 1 rfl) ?_
  refine lv_aload_n hx hb dX5_modulo_1 rfl (lv_at hl 0 rfl) ?_
  refine va_get (D := (dC, dI)) (ci := 6) (v := .long (lN pr)) (C := RX5) (T := TX5) (N := 36) hx hb hts hinX5 hown hK hP 0 rfl rfl 1 (by decide) (hts (.fieldLink RX5 104 "ResidueRowsModel" "prime" "J") (by decide +kernel)) (fun _ h9 => h9) rfl dX5_modulo_2 ?_
  refine lv_lrem hx hb dX5_modulo_5 (fun h => absurd ((pk_lEQ (b := 0) (by omega) (by decide)).mp h) (by omega)) ?_
  refine zz_l (y := lZ (x.toInt.tmod pr)) (lr_rem hpr31) ?_
  refine lv_lstore_n (lv' := [(3, .long (lZ (x.toInt.tmod pr))), (0, .ref (ad 0)), (1, .long x)]) hx hb dX5_modulo_6 rfl hl (by decide) rfl (fun ls hl => ?_)
  refine lv_lload_n hx hb dX5_modulo_7 rfl (lv_at hl 0 rfl) ?_
  refine lv_lconst (v := lN 0) hx hb dX5_modulo_8 (by decide +kernel) ?_
  refine W.lcmp hx hb dX5_modulo_9 ?_
  refine lv_if_ge (tgt := 22) hx hb dX5_modulo_10 (by decide) (fun hc10 => ?_) (fun hc10 => ?_)
  · have h0 : 0 ≤ x.toInt.tmod pr := by have h := (lc_ge _ _).mp hc10; rw [Int64.le_iff_toInt_le, lZ_toInt (by omega) (by omega)] at h; exact h
    refine lv_lload_n hx hb dX5_modulo_22 rfl (lv_at hl 0 rfl) ?_
    refine W.lret hx hb hr (fun t ht hW => eQl ?_ hP ht (hS.F ht)) hS.2.2 dX5_modulo_23
    exact by rw [lr_md1 (by omega) h0, ← lZ_nat, Int.toNat_of_nonneg h0]
  · have h0 : ¬ 0 ≤ x.toInt.tmod pr := fun h9 => hc10 ((lc_ge _ _).mpr (by rw [Int64.le_iff_toInt_le, lZ_toInt (by omega) (by omega)]; exact h9))
    refine lv_lload_n hx hb dX5_modulo_13 rfl (lv_at hl 0 rfl) ?_
    refine lv_aload_n hx hb dX5_modulo_14 rfl (lv_at hl 1 rfl) ?_
    refine va_get (D := (dC, dI)) (ci := 6) (v := .long (lN pr)) (C := RX5) (T := TX5) (N := 36) hx hb hts hinX5 hown hK hP 0 rfl rfl 1 (by decide) (hts (.fieldLink RX5 104 "ResidueRowsModel" "prime" "J") (by decide +kernel)) (fun _ h9 => h9) rfl dX5_modulo_15 ?_
    refine lv_ladd hx hb dX5_modulo_18 ?_
    refine zz_l (y := lZ (x.toInt.tmod pr + pr)) (by rw [← lZ_nat, lZ_add]) ?_
    refine lv_goto (tgt := 23) hx hb dX5_modulo_19 (by decide) ?_
    refine W.lret hx hb hr (fun t ht hW => eQl ?_ hP ht (hS.F ht)) hS.2.2 dX5_modulo_23
    exact by rw [lr_md2 h0, ← lZ_nat, Int.toNat_of_nonneg (by omega)]

abbrev vX5_take : List Cond := .code yX5_take cX5_take 4 none :: mWS
set_option maxHeartbeats 4000000 in
set_option maxRecDepth 100000 in
/-- take(p, to) of zeros -/
theorem c_X5_take (l : Launch) (dC : Nat → ClassId) (dI : Nat → Nat → Nat) (ad : Nat → Nat) (ck : Nat → ClassId) (L : List Nat) (ln : Nat → Nat) (pr : Nat) (hok : mOk ad L ln pr) (sz : Nat) (th : Int32) (i : Nat) (hi : i < 96) (a : Nat) (ha : a ∈ L ∧ ln a = 32) : Met l yX5_take vX5_take ({ frames := 0, cells := 0, slots := 0, locals := 0 }) (va_Pc [.ref (ad 0), .int (nI i), .ref a] (mP (dC, dI) ck (mW ad ck L ln pr th (nI 0)) sz)) (va_Qv (fun (_ : Unit) => True) (fun _ t => va_P (dC, dI) vwCl (mW ad ck L ln pr th (nI 0)) t.heap) (va_A (mW ad ck L ln pr th (nI 0)) sz)) 0 0 (va_A (mW ad ck L ln pr th (nI 0)) sz) := by
  refine Met.ofW (cc := cX5_take) (maxL := 4) (ret := none) (by decide +kernel) rfl ?_
  intro p e s m args below meth c s₁ B hml hv
  obtain ⟨rfl, hsz, hP, hK, hD0⟩ := hv
  have hx := B.exec
  have hb := B.bytes
  have hr := B.returns
  have hts := atoms_spec (ws := vX5_take) B.pre
  have hown : s.vm.findClass RX5 = some m.cls := findClass_of_methodNamed B.named
  have hlocks := B.notSynchronized
  subst hsz
  have hD := hD0.self (sz := s.heap.size)
  generalize hAe : va_A (mW ad ck L ln pr th (nI 0)) s.heap.size = A at hD ⊢
  have hA : ∀ q : Nat, s.heap.size ≤ q → A q := fun q h => by rw [← hAe]; exact Or.inr h
  have hS : va_S A s.heap s.heap [] := va_S.rf
  have hinX5 : ∀ w ∈ wsX50, w ∈ vX5_take := fun w h => List.mem_cons_of_mem _ (inMX5 w h)
  have hpr2 := hok.2.1.1
  have hpr31 := hok.2.2
  have hl := lv_entry ([.ref (ad 0), .int (nI i), .ref a]) (n := 4) (Nat.le_of_ble_eq_true rfl)
  rw [lg_entry_eq]
  generalize (lg_sl ([.ref (ad 0), .int (nI i), .ref a]) ++ List.replicate (4 - (lg_sl ([.ref (ad 0), .int (nI i), .ref a])).length) Slot.unset).toArray = ls at hl ⊢
  have hl : lv_has ls 4 [(0, .ref (ad 0)), (1, .int (nI i)), (2, .ref a)] := hl
  obtain ⟨H, hHe⟩ : ∃ H : Heap, H = s.heap := ⟨_, rfl⟩
  have hP : va_P (dC, dI) vwCl (mW ad ck L ln pr th (nI 0)) H := by rw [hHe]; exact hP
  have hS : va_S A s.heap H [] := by rw [hHe]; exact hS
  suffices hgo : W p l e (headSpec vX5_take ({ frames := 0, cells := 0, slots := 0, locals := 0 })).room s m ([.ref (ad 0), .int (nI i), .ref a] : List Value).toArray below meth c H [] 0 0 (MQ below (va_Qv (fun (_ : Unit) => True) (fun _ t => va_P (dC, dI) vwCl (mW ad ck L ln pr th (nI 0)) t.heap) A) ([.ref (ad 0), .int (nI i), .ref a] : List Value).toArray s 0 0 A) (F0 m 0 ls []) by rw [hHe] at hgo; exact hgo
  refine lv_iconst (v := nI 0) hx hb dX5_take_0 (by decide +kernel) ?_
  refine lv_istore_n (lv' := [(3, .int (nI 0)), (0, .ref (ad 0)), (1, .int (nI i)), (2, .ref a)]) hx hb dX5_take_1 rfl hl (by decide) rfl (fun ls hl => ?_)
  have LOOP2 : ∀ (f : Nat) (k : Nat), 32 - k < f → k ≤ 32 → ∀ (H : Heap) (locs : List Loc), va_P (dC, dI) vwCl (mW ad ck L ln pr th (nI 0)) H → va_S A s.heap H locs → ∀ (ls : Array Slot), lv_has ls 4 [(3, .int (nI k)), (0, .ref (ad 0)), (1, .int (nI i)), (2, .ref a)] → W p l e (headSpec vX5_take ({ frames := 0, cells := 0, slots := 0, locals := 0 })).room s m ([.ref (ad 0), .int (nI i), .ref a] : List Value).toArray below meth c H locs 0 0 (MQ below (va_Qv (fun (_ : Unit) => True) (fun _ t => va_P (dC, dI) vwCl (mW ad ck L ln pr th (nI 0)) t.heap) A) ([.ref (ad 0), .int (nI i), .ref a] : List Value).toArray s 0 0 A) (F0 m 2 ls []) := by
    intro f
    induction f with
    | zero => intro k hf; exact absurd hf (Nat.not_lt_zero _)
    | succ f ih =>
      intro k hf hkb H locs hP hS ls hl
      refine lv_iload_n hx hb dX5_take_2 rfl (lv_at hl 0 rfl) ?_
      refine lv_bipush (v := nI 32) hx hb dX5_take_3 (by decide +kernel) ?_
      refine lv_icmp_ge (tgt := 33) hx hb dX5_take_5 (by decide) (fun hc5 => ?_) (fun hc5 => ?_)
      · refine W.vret hx hb hr (fun t ht hW => eQv ?_ hP ht (hS.F ht)) hS.2.2 dX5_take_33
        exact trivial
      · have hk : k < 32 := Nat.lt_of_not_le fun h => hc5 (nI_le h (by omega))
        refine lv_aload_n hx hb dX5_take_8 rfl (lv_at hl 3 rfl) ?_
        refine lv_iload_n hx hb dX5_take_9 rfl (lv_at hl 0 rfl) ?_
        refine lv_aload_n hx hb dX5_take_10 rfl (lv_at hl 1 rfl) ?_
        refine va_get (D := (dC, dI)) (ci := 6) (v := .ref (ad 2)) (C := RX5) (T := TX5) (N := 36) hx hb hts hinX5 hown hK hP 0 rfl rfl 2 (by decide) (hts (.fieldLink RX5 7 "ResidueRowsModel" "rows" "[J") (by decide +kernel)) (fun _ h9 => h9) rfl dX5_take_11 ?_
        refine lv_bipush (v := nI 32) hx hb dX5_take_14 (by decide +kernel) ?_
        refine lv_iload_n hx hb dX5_take_16 rfl (lv_at hl 2 rfl) ?_
        refine lv_imul hx hb dX5_take_17 ?_
        refine zz_i (y := nI (32 * i)) (pk_mul 32 i) ?_
        refine lv_iload_n hx hb dX5_take_18 rfl (lv_at hl 0 rfl) ?_
        refine lv_iadd hx hb dX5_take_19 ?_
        refine zz_i (y := nI (32 * i + k)) (nI_add _ _) ?_
        refine zq_ld hx hb hK hP 0 rfl hok.1.1 (vp_in_nI (by omega) (by decide)) dX5_take_20 ?_
        refine lv_aload_n hx hb dX5_take_21 rfl (lv_at hl 1 rfl) ?_
        refine va_get (D := (dC, dI)) (ci := 6) (v := .long (lN pr)) (C := RX5) (T := TX5) (N := 36) hx hb hts hinX5 hown hK hP 0 rfl rfl 1 (by decide) (hts (.fieldLink RX5 104 "ResidueRowsModel" "prime" "J") (by decide +kernel)) (fun _ h9 => h9) rfl dX5_take_22 ?_
        refine lv_lrem hx hb dX5_take_25 (fun h => absurd ((pk_lEQ (b := 0) (by omega) (by decide)).mp h) (by omega)) ?_
        refine zz_l (y := lN 0) ((pk_lRem (by decide) (by omega) (by omega)).trans (congrArg lN (Nat.zero_mod pr))) ?_
        refine zq_st hx hb hK hP hD hS 0 rfl ha (vp_in_nI (by omega) (by decide)) dX5_take_26 (fun H locs hP hS => ?_)
        refine lv_iinc (v := nI (k + 1)) (lv' := [(3, .int (nI (k + 1))), (0, .ref (ad 0)), (1, .int (nI i)), (2, .ref a)]) hx hb dX5_take_27 hl (k := 0) rfl (nI_1 k) (by decide) rfl (fun ls hl => ?_)
        refine lv_goto (tgt := 2) hx hb dX5_take_30 (by decide) ?_
        exact ih (k + 1) (by omega) (by omega) H locs hP hS ls (lv_sub hl [0, 1, 2, 3] rfl)
  exact LOOP2 33 0 (by decide) (by decide) H [] hP hS ls (lv_sub hl [0, 1, 2, 3] rfl)

abbrev vX5_give : List Cond := .code yX5_give cX5_give 3 (some .int) :: mWS
set_option maxHeartbeats 4000000 in
set_option maxRecDepth 100000 in
/-- give(zeros): the first number -/
theorem c_X5_give (l : Launch) (dC : Nat → ClassId) (dI : Nat → Nat → Nat) (ad : Nat → Nat) (ck : Nat → ClassId) (L : List Nat) (ln : Nat → Nat) (pr : Nat) (hok : mOk ad L ln pr) (sz : Nat) (th : Int32) (a : Nat) (ha : a ∈ L ∧ ln a = 32) : Met l yX5_give vX5_give ({ frames := 0, cells := 0, slots := 0, locals := 0 }) (va_Pc [.ref (ad 0), .ref a] (mP (dC, dI) ck (mW ad ck L ln pr th (nI 0)) sz)) (va_Qi (fun r u => r = nI 0 ∧ u.1 = th : Int32 → Int32 × Int32 → Prop) (fun u t => va_P (dC, dI) vwCl (mO ad pr u.1 u.2) t.heap) (va_A (mW ad ck L ln pr th (nI 0)) sz)) 0 0 (va_A (mW ad ck L ln pr th (nI 0)) sz) := by
  refine Met.ofW (cc := cX5_give) (maxL := 3) (ret := (some .int)) (by decide +kernel) rfl ?_
  intro p e s m args below meth c s₁ B hml hv
  obtain ⟨rfl, hsz, hP, hK, hD0⟩ := hv
  have hx := B.exec
  have hb := B.bytes
  have hr := B.returns
  have hts := atoms_spec (ws := vX5_give) B.pre
  have hown : s.vm.findClass RX5 = some m.cls := findClass_of_methodNamed B.named
  have hlocks := B.notSynchronized
  subst hsz
  have hD := hD0.self (sz := s.heap.size)
  generalize hAe : va_A (mW ad ck L ln pr th (nI 0)) s.heap.size = A at hD ⊢
  have hA : ∀ q : Nat, s.heap.size ≤ q → A q := fun q h => by rw [← hAe]; exact Or.inr h
  have hS : va_S A s.heap s.heap [] := va_S.rf
  have hinX5 : ∀ w ∈ wsX50, w ∈ vX5_give := fun w h => List.mem_cons_of_mem _ (inMX5 w h)
  have hpr2 := hok.2.1.1
  have hpr31 := hok.2.2
  have hl := lv_entry ([.ref (ad 0), .ref a]) (n := 3) (Nat.le_of_ble_eq_true rfl)
  rw [lg_entry_eq]
  generalize (lg_sl ([.ref (ad 0), .ref a]) ++ List.replicate (3 - (lg_sl ([.ref (ad 0), .ref a])).length) Slot.unset).toArray = ls at hl ⊢
  have hl : lv_has ls 3 [(0, .ref (ad 0)), (1, .ref a)] := hl
  obtain ⟨H, hHe⟩ : ∃ H : Heap, H = s.heap := ⟨_, rfl⟩
  have hP : va_P (dC, dI) vwCl (mW ad ck L ln pr th (nI 0)) H := by rw [hHe]; exact hP
  have hS : va_S A s.heap H [] := by rw [hHe]; exact hS
  suffices hgo : W p l e (headSpec vX5_give ({ frames := 0, cells := 0, slots := 0, locals := 0 })).room s m ([.ref (ad 0), .ref a] : List Value).toArray below meth c H [] 0 0 (MQ below (va_Qi (fun r u => r = nI 0 ∧ u.1 = th : Int32 → Int32 × Int32 → Prop) (fun u t => va_P (dC, dI) vwCl (mO ad pr u.1 u.2) t.heap) A) ([.ref (ad 0), .ref a] : List Value).toArray s 0 0 A) (F0 m 0 ls []) by rw [hHe] at hgo; exact hgo
  refine lv_iconst (v := nI 0) hx hb dX5_give_0 (by decide +kernel) ?_
  refine lv_istore_n (lv' := [(2, .int (nI 0)), (0, .ref (ad 0)), (1, .ref a)]) hx hb dX5_give_1 rfl hl (by decide) rfl (fun ls hl => ?_)
  have LOOP2 : ∀ (f : Nat) (k : Nat), 32 - k < f → k ≤ 32 → ∀ (H : Heap) (locs : List Loc), va_P (dC, dI) vwCl (mW ad ck L ln pr th (nI 0)) H → va_S A s.heap H locs → ∀ (ls : Array Slot), lv_has ls 3 [(2, .int (nI k)), (0, .ref (ad 0)), (1, .ref a)] → W p l e (headSpec vX5_give ({ frames := 0, cells := 0, slots := 0, locals := 0 })).room s m ([.ref (ad 0), .ref a] : List Value).toArray below meth c H locs 0 0 (MQ below (va_Qi (fun r u => r = nI 0 ∧ u.1 = th : Int32 → Int32 × Int32 → Prop) (fun u t => va_P (dC, dI) vwCl (mO ad pr u.1 u.2) t.heap) A) ([.ref (ad 0), .ref a] : List Value).toArray s 0 0 A) (F0 m 2 ls []) := by
    intro f
    induction f with
    | zero => intro k hf; exact absurd hf (Nat.not_lt_zero _)
    | succ f ih =>
      intro k hf hkb H locs hP hS ls hl
      refine lv_iload_n hx hb dX5_give_2 rfl (lv_at hl 0 rfl) ?_
      refine lv_bipush (v := nI 32) hx hb dX5_give_3 (by decide +kernel) ?_
      refine lv_icmp_ge (tgt := 31) hx hb dX5_give_5 (by decide) (fun hc5 => ?_) (fun hc5 => ?_)
      · refine lv_aload_n hx hb dX5_give_31 rfl (lv_at hl 1 rfl) ?_
        refine lv_dup hx hb dX5_give_32 rfl ?_
        refine va_get (D := (dC, dI)) (ci := 6) (v := .int (nI 0)) (C := RX5) (T := TX5) (N := 36) hx hb hts hinX5 hown hK hP 0 rfl rfl 3 (by decide) (hts (.fieldLink RX5 112 "ResidueRowsModel" "given" "I") (by decide +kernel)) (fun _ h9 => h9) rfl dX5_give_33 ?_
        refine lv_iconst (v := nI 1) hx hb dX5_give_36 (by decide +kernel) ?_
        refine lv_iadd hx hb dX5_give_37 ?_
        refine zz_i (y := nI 1) (by decide +kernel) ?_
        refine va_put (D := (dC, dI)) (ci := 6) (v := .int (nI 1)) (ty := .int) (C := RX5) (T := TX5) (N := 36) hx hb hts hinX5 tyX5 tyX5_ok nmX5 hown hK hP hD hS 0 rfl rfl 3 (by decide) (hts (.fieldLink RX5 112 "ResidueRowsModel" "given" "I") (by decide +kernel)) (fun _ h9 => h9) rfl (by decide +kernel) rfl rfl (Nat.le_of_ble_eq_true rfl) dX5_give_38 (fun H locs hP hD hS => ?_)
        have hP : va_P (dC, dI) vwCl (mW ad ck L ln pr th (nI 1)) H := hP
        have hD : va_D A (mW ad ck L ln pr th (nI 1)) := hD
        refine lv_aload_n hx hb dX5_give_41 rfl (lv_at hl 1 rfl) ?_
        refine va_get (D := (dC, dI)) (ci := 6) (v := .int (nI 1)) (C := RX5) (T := TX5) (N := 36) hx hb hts hinX5 hown hK hP 0 rfl rfl 3 (by decide) (hts (.fieldLink RX5 112 "ResidueRowsModel" "given" "I") (by decide +kernel)) (fun _ h9 => h9) rfl dX5_give_42 ?_
        refine lv_iconst (v := nI 1) hx hb dX5_give_45 (by decide +kernel) ?_
        refine lv_isub hx hb dX5_give_46 ?_
        refine zz_i (y := nI 0) (by decide +kernel) ?_
        refine W.iret hx hb hr (fun t ht hW => eMi th (nI 1) ?_ (hP.sub [0] rfl) ht (hS.F ht)) hS.2.2 dX5_give_47
        exact ⟨rfl, rfl⟩
      · have hk : k < 32 := Nat.lt_of_not_le fun h => hc5 (nI_le h (by omega))
        refine lv_aload_n hx hb dX5_give_8 rfl (lv_at hl 1 rfl) ?_
        refine va_get (D := (dC, dI)) (ci := 6) (v := .ref (ad 2)) (C := RX5) (T := TX5) (N := 36) hx hb hts hinX5 hown hK hP 0 rfl rfl 2 (by decide) (hts (.fieldLink RX5 7 "ResidueRowsModel" "rows" "[J") (by decide +kernel)) (fun _ h9 => h9) rfl dX5_give_9 ?_
        refine lv_bipush (v := nI 32) hx hb dX5_give_12 (by decide +kernel) ?_
        refine lv_aload_n hx hb dX5_give_14 rfl (lv_at hl 1 rfl) ?_
        refine va_get (D := (dC, dI)) (ci := 6) (v := .int (nI 0)) (C := RX5) (T := TX5) (N := 36) hx hb hts hinX5 hown hK hP 0 rfl rfl 3 (by decide) (hts (.fieldLink RX5 112 "ResidueRowsModel" "given" "I") (by decide +kernel)) (fun _ h9 => h9) rfl dX5_give_15 ?_
        refine lv_imul hx hb dX5_give_18 ?_
        refine zz_i (y := nI 0) (by decide +kernel) ?_
        refine lv_iload_n hx hb dX5_give_19 rfl (lv_at hl 0 rfl) ?_
        refine lv_iadd hx hb dX5_give_20 ?_
        refine zz_i (y := nI k) (by rw [nI_add, Nat.zero_add]) ?_
        refine lv_aload_n hx hb dX5_give_21 rfl (lv_at hl 2 rfl) ?_
        refine lv_iload_n hx hb dX5_give_22 rfl (lv_at hl 0 rfl) ?_
        refine zq_ld hx hb hK hP 0 rfl ha (vp_in_nI (by omega) (by decide)) dX5_give_23 ?_
        refine zq_st hx hb hK hP hD hS 0 rfl hok.1.1 (vp_in_nI (by omega) (by decide)) dX5_give_24 (fun H locs hP hS => ?_)
        refine lv_iinc (v := nI (k + 1)) (lv' := [(2, .int (nI (k + 1))), (0, .ref (ad 0)), (1, .ref a)]) hx hb dX5_give_25 hl (k := 0) rfl (nI_1 k) (by decide) rfl (fun ls hl => ?_)
        refine lv_goto (tgt := 2) hx hb dX5_give_28 (by decide) ?_
        exact ih (k + 1) (by omega) (by omega) H locs hP hS ls (lv_sub hl [0, 1, 2] rfl)
  exact LOOP2 33 0 (by decide) (by decide) H [] hP hS ls (lv_sub hl [0, 1, 2] rfl)

abbrev vX5_copy : List Cond := .code yX5_copy cX5_copy 3 none :: mWS
set_option maxHeartbeats 4000000 in
set_option maxRecDepth 100000 in
/-- copy(from, to), zeros both -/
theorem c_X5_copy (l : Launch) (dC : Nat → ClassId) (dI : Nat → Nat → Nat) (ad : Nat → Nat) (ck : Nat → ClassId) (L : List Nat) (ln : Nat → Nat) (pr : Nat) (hok : mOk ad L ln pr) (sz : Nat) (th : Int32) (a b : Nat) (ha : a ∈ L ∧ ln a = 32) (hb9 : b ∈ L ∧ ln b = 32) : Met l yX5_copy vX5_copy ({ frames := 0, cells := 0, slots := 0, locals := 0 }) (va_Pc [.ref a, .ref b] (mP (dC, dI) ck (mW ad ck L ln pr th (nI 0)) sz)) (va_Qv (fun (_ : Unit) => True) (fun _ t => va_P (dC, dI) vwCl (mW ad ck L ln pr th (nI 0)) t.heap) (va_A (mW ad ck L ln pr th (nI 0)) sz)) 0 0 (va_A (mW ad ck L ln pr th (nI 0)) sz) := by
  refine Met.ofW (cc := cX5_copy) (maxL := 3) (ret := none) (by decide +kernel) rfl ?_
  intro p e s m args below meth c s₁ B hml hv
  obtain ⟨rfl, hsz, hP, hK, hD0⟩ := hv
  have hx := B.exec
  have hb := B.bytes
  have hr := B.returns
  have hts := atoms_spec (ws := vX5_copy) B.pre
  have hown : s.vm.findClass RX5 = some m.cls := findClass_of_methodNamed B.named
  have hlocks := B.notSynchronized
  subst hsz
  have hD := hD0.self (sz := s.heap.size)
  generalize hAe : va_A (mW ad ck L ln pr th (nI 0)) s.heap.size = A at hD ⊢
  have hA : ∀ q : Nat, s.heap.size ≤ q → A q := fun q h => by rw [← hAe]; exact Or.inr h
  have hS : va_S A s.heap s.heap [] := va_S.rf
  have hinX5 : ∀ w ∈ wsX50, w ∈ vX5_copy := fun w h => List.mem_cons_of_mem _ (inMX5 w h)
  have hpr2 := hok.2.1.1
  have hpr31 := hok.2.2
  have hl := lv_entry ([.ref a, .ref b]) (n := 3) (Nat.le_of_ble_eq_true rfl)
  rw [lg_entry_eq]
  generalize (lg_sl ([.ref a, .ref b]) ++ List.replicate (3 - (lg_sl ([.ref a, .ref b])).length) Slot.unset).toArray = ls at hl ⊢
  have hl : lv_has ls 3 [(0, .ref a), (1, .ref b)] := hl
  obtain ⟨H, hHe⟩ : ∃ H : Heap, H = s.heap := ⟨_, rfl⟩
  have hP : va_P (dC, dI) vwCl (mW ad ck L ln pr th (nI 0)) H := by rw [hHe]; exact hP
  have hS : va_S A s.heap H [] := by rw [hHe]; exact hS
  suffices hgo : W p l e (headSpec vX5_copy ({ frames := 0, cells := 0, slots := 0, locals := 0 })).room s m ([.ref a, .ref b] : List Value).toArray below meth c H [] 0 0 (MQ below (va_Qv (fun (_ : Unit) => True) (fun _ t => va_P (dC, dI) vwCl (mW ad ck L ln pr th (nI 0)) t.heap) A) ([.ref a, .ref b] : List Value).toArray s 0 0 A) (F0 m 0 ls []) by rw [hHe] at hgo; exact hgo
  refine lv_iconst (v := nI 0) hx hb dX5_copy_0 (by decide +kernel) ?_
  refine lv_istore_n (lv' := [(2, .int (nI 0)), (0, .ref a), (1, .ref b)]) hx hb dX5_copy_1 rfl hl (by decide) rfl (fun ls hl => ?_)
  have LOOP2 : ∀ (f : Nat) (k : Nat), 32 - k < f → k ≤ 32 → ∀ (H : Heap) (locs : List Loc), va_P (dC, dI) vwCl (mW ad ck L ln pr th (nI 0)) H → va_S A s.heap H locs → ∀ (ls : Array Slot), lv_has ls 3 [(2, .int (nI k)), (0, .ref a), (1, .ref b)] → W p l e (headSpec vX5_copy ({ frames := 0, cells := 0, slots := 0, locals := 0 })).room s m ([.ref a, .ref b] : List Value).toArray below meth c H locs 0 0 (MQ below (va_Qv (fun (_ : Unit) => True) (fun _ t => va_P (dC, dI) vwCl (mW ad ck L ln pr th (nI 0)) t.heap) A) ([.ref a, .ref b] : List Value).toArray s 0 0 A) (F0 m 2 ls []) := by
    intro f
    induction f with
    | zero => intro k hf; exact absurd hf (Nat.not_lt_zero _)
    | succ f ih =>
      intro k hf hkb H locs hP hS ls hl
      refine lv_iload_n hx hb dX5_copy_2 rfl (lv_at hl 0 rfl) ?_
      refine lv_bipush (v := nI 32) hx hb dX5_copy_3 (by decide +kernel) ?_
      refine lv_icmp_ge (tgt := 20) hx hb dX5_copy_5 (by decide) (fun hc5 => ?_) (fun hc5 => ?_)
      · refine W.vret hx hb hr (fun t ht hW => eQv ?_ hP ht (hS.F ht)) hS.2.2 dX5_copy_20
        exact trivial
      · have hk : k < 32 := Nat.lt_of_not_le fun h => hc5 (nI_le h (by omega))
        refine lv_aload_n hx hb dX5_copy_8 rfl (lv_at hl 2 rfl) ?_
        refine lv_iload_n hx hb dX5_copy_9 rfl (lv_at hl 0 rfl) ?_
        refine lv_aload_n hx hb dX5_copy_10 rfl (lv_at hl 1 rfl) ?_
        refine lv_iload_n hx hb dX5_copy_11 rfl (lv_at hl 0 rfl) ?_
        refine zq_ld hx hb hK hP 0 rfl ha (vp_in_nI (by omega) (by decide)) dX5_copy_12 ?_
        refine zq_st hx hb hK hP hD hS 0 rfl hb9 (vp_in_nI (by omega) (by decide)) dX5_copy_13 (fun H locs hP hS => ?_)
        refine lv_iinc (v := nI (k + 1)) (lv' := [(2, .int (nI (k + 1))), (0, .ref a), (1, .ref b)]) hx hb dX5_copy_14 hl (k := 0) rfl (nI_1 k) (by decide) rfl (fun ls hl => ?_)
        refine lv_goto (tgt := 2) hx hb dX5_copy_17 (by decide) ?_
        exact ih (k + 1) (by omega) (by omega) H locs hP hS ls (lv_sub hl [0, 1, 2] rfl)
  exact LOOP2 33 0 (by decide) (by decide) H [] hP hS ls (lv_sub hl [0, 1, 2] rfl)

abbrev vX5_degree : List Cond := .code yX5_degree cX5_degree 2 (some .int) :: mWS
set_option maxHeartbeats 4000000 in
set_option maxRecDepth 100000 in
/-- degree of zeros -/
theorem c_X5_degree (l : Launch) (dC : Nat → ClassId) (dI : Nat → Nat → Nat) (ad : Nat → Nat) (ck : Nat → ClassId) (L : List Nat) (ln : Nat → Nat) (pr : Nat) (hok : mOk ad L ln pr) (sz : Nat) (th : Int32) (a : Nat) (ha : a ∈ L ∧ ln a = 32) : Met l yX5_degree vX5_degree ({ frames := 0, cells := 0, slots := 0, locals := 0 }) (va_Pc [.ref a] (mP (dC, dI) ck (mW ad ck L ln pr th (nI 0)) sz)) (va_Qi (fun r (_ : Unit) => (fun r => r = (-1)) r) (fun _ t => va_P (dC, dI) vwCl (mW ad ck L ln pr th (nI 0)) t.heap) (va_A (mW ad ck L ln pr th (nI 0)) sz)) 0 0 (va_A (mW ad ck L ln pr th (nI 0)) sz) := by
  refine Met.ofW (cc := cX5_degree) (maxL := 2) (ret := (some .int)) (by decide +kernel) rfl ?_
  intro p e s m args below meth c s₁ B hml hv
  obtain ⟨rfl, hsz, hP, hK, hD0⟩ := hv
  have hx := B.exec
  have hb := B.bytes
  have hr := B.returns
  have hts := atoms_spec (ws := vX5_degree) B.pre
  have hown : s.vm.findClass RX5 = some m.cls := findClass_of_methodNamed B.named
  have hlocks := B.notSynchronized
  subst hsz
  have hD := hD0.self (sz := s.heap.size)
  generalize hAe : va_A (mW ad ck L ln pr th (nI 0)) s.heap.size = A at hD ⊢
  have hA : ∀ q : Nat, s.heap.size ≤ q → A q := fun q h => by rw [← hAe]; exact Or.inr h
  have hS : va_S A s.heap s.heap [] := va_S.rf
  have hinX5 : ∀ w ∈ wsX50, w ∈ vX5_degree := fun w h => List.mem_cons_of_mem _ (inMX5 w h)
  have hpr2 := hok.2.1.1
  have hpr31 := hok.2.2
  have hl := lv_entry ([.ref a]) (n := 2) (Nat.le_of_ble_eq_true rfl)
  rw [lg_entry_eq]
  generalize (lg_sl ([.ref a]) ++ List.replicate (2 - (lg_sl ([.ref a])).length) Slot.unset).toArray = ls at hl ⊢
  have hl : lv_has ls 2 [(0, .ref a)] := hl
  obtain ⟨H, hHe⟩ : ∃ H : Heap, H = s.heap := ⟨_, rfl⟩
  have hP : va_P (dC, dI) vwCl (mW ad ck L ln pr th (nI 0)) H := by rw [hHe]; exact hP
  have hS : va_S A s.heap H [] := by rw [hHe]; exact hS
  suffices hgo : W p l e (headSpec vX5_degree ({ frames := 0, cells := 0, slots := 0, locals := 0 })).room s m ([.ref a] : List Value).toArray below meth c H [] 0 0 (MQ below (va_Qi (fun r (_ : Unit) => (fun r => r = (-1)) r) (fun _ t => va_P (dC, dI) vwCl (mW ad ck L ln pr th (nI 0)) t.heap) A) ([.ref a] : List Value).toArray s 0 0 A) (F0 m 0 ls []) by rw [hHe] at hgo; exact hgo
  refine lv_bipush (v := nI 31) hx hb dX5_degree_0 (by decide +kernel) ?_
  refine lv_istore_n (lv' := [(1, .int (nI 31)), (0, .ref a)]) hx hb dX5_degree_2 rfl hl (by decide) rfl (fun ls hl => ?_)
  rw [show nI 31 = pm 32 from (pm_s 31).symm] at hl
  have LOOP3 : ∀ (f : Nat) (j : Nat), j < f → j ≤ 32 → ∀ (H : Heap) (locs : List Loc), va_P (dC, dI) vwCl (mW ad ck L ln pr th (nI 0)) H → va_S A s.heap H locs → ∀ (ls : Array Slot), lv_has ls 2 [(1, .int (pm j)), (0, .ref a)] → W p l e (headSpec vX5_degree ({ frames := 0, cells := 0, slots := 0, locals := 0 })).room s m ([.ref a] : List Value).toArray below meth c H locs 0 0 (MQ below (va_Qi (fun r (_ : Unit) => (fun r => r = (-1)) r) (fun _ t => va_P (dC, dI) vwCl (mW ad ck L ln pr th (nI 0)) t.heap) A) ([.ref a] : List Value).toArray s 0 0 A) (F0 m 3 ls []) := by
    intro f
    induction f with
    | zero => intro j hf; exact absurd hf (Nat.not_lt_zero _)
    | succ f ih =>
      intro j hf hj H locs hP hS ls hl
      cases j with
      | zero =>
        rw [pm_0] at hl
        refine lv_iload_n hx hb dX5_degree_3 rfl (lv_at hl 0 rfl) ?_
        refine lv_if_lt (tgt := 21) hx hb dX5_degree_4 (by decide) (fun _ => ?_) (fun hcc => absurd (by decide +kernel) hcc)
        refine lv_iload_n hx hb dX5_degree_21 rfl (lv_at hl 0 rfl) ?_
        refine W.iret hx hb hr (fun t ht hW => eQi ?_ hP ht (hS.F ht)) hS.2.2 dX5_degree_22
        exact rfl
      | succ i =>
        rw [pm_s i] at hl
        refine lv_iload_n hx hb dX5_degree_3 rfl (lv_at hl 0 rfl) ?_
        refine lv_if_lt (tgt := 21) hx hb dX5_degree_4 (by decide) (fun hcc => absurd hcc (nI_pos (by omega))) (fun _ => ?_)
        refine lv_aload_n hx hb dX5_degree_7 rfl (lv_at hl 1 rfl) ?_
        refine lv_iload_n hx hb dX5_degree_8 rfl (lv_at hl 0 rfl) ?_
        refine zq_ld hx hb hK hP 0 rfl ha (vp_in_nI (by omega) (by decide)) dX5_degree_9 ?_
        refine lv_lconst (v := lN 0) hx hb dX5_degree_10 (by decide +kernel) ?_
        refine W.lcmp hx hb dX5_degree_11 ?_
        refine lv_if_ne (tgt := 21) hx hb dX5_degree_12 (by decide) (fun hcc => absurd (by decide +kernel) hcc) (fun _ => ?_)
        refine lv_iinc (v := pm i) (lv' := [(1, .int (pm i)), (0, .ref a)]) hx hb dX5_degree_15 hl (k := 0) rfl (pm_dec i) (by decide) rfl (fun ls hl => ?_)
        refine lv_goto (tgt := 3) hx hb dX5_degree_18 (by decide) ?_
        exact ih i (by omega) (by omega) H locs hP hS ls hl
  exact LOOP3 33 32 (by decide) (by decide) H [] hP hS ls hl

abbrev vX5_spread : List Cond := .code yX5_spread cX5_spread 5 none :: mWS
set_option maxHeartbeats 4000000 in
set_option maxRecDepth 100000 in
/-- spread(a, b) of zeros -/
theorem c_X5_spread (l : Launch) (dC : Nat → ClassId) (dI : Nat → Nat → Nat) (ad : Nat → Nat) (ck : Nat → ClassId) (L : List Nat) (ln : Nat → Nat) (pr : Nat) (hok : mOk ad L ln pr) (sz : Nat) (th : Int32) (a b : Nat) (ha : a ∈ L ∧ ln a = 32) (hb9 : b ∈ L ∧ ln b = 32) : Met l yX5_spread vX5_spread ({ frames := 0, cells := 0, slots := 0, locals := 0 }) (va_Pc [.ref (ad 0), .ref a, .ref b] (mP (dC, dI) ck (mW ad ck L ln pr th (nI 0)) sz)) (va_Qv (fun (_ : Unit) => True) (fun _ t => va_P (dC, dI) vwCl (mW ad ck L ln pr th (nI 0)) t.heap) (va_A (mW ad ck L ln pr th (nI 0)) sz)) 0 0 (va_A (mW ad ck L ln pr th (nI 0)) sz) := by
  refine Met.ofW (cc := cX5_spread) (maxL := 5) (ret := none) (by decide +kernel) rfl ?_
  intro p e s m args below meth c s₁ B hml hv
  obtain ⟨rfl, hsz, hP, hK, hD0⟩ := hv
  have hx := B.exec
  have hb := B.bytes
  have hr := B.returns
  have hts := atoms_spec (ws := vX5_spread) B.pre
  have hown : s.vm.findClass RX5 = some m.cls := findClass_of_methodNamed B.named
  have hlocks := B.notSynchronized
  subst hsz
  have hD := hD0.self (sz := s.heap.size)
  generalize hAe : va_A (mW ad ck L ln pr th (nI 0)) s.heap.size = A at hD ⊢
  have hA : ∀ q : Nat, s.heap.size ≤ q → A q := fun q h => by rw [← hAe]; exact Or.inr h
  have hS : va_S A s.heap s.heap [] := va_S.rf
  have hinX5 : ∀ w ∈ wsX50, w ∈ vX5_spread := fun w h => List.mem_cons_of_mem _ (inMX5 w h)
  have hpr2 := hok.2.1.1
  have hpr31 := hok.2.2
  have hl := lv_entry ([.ref (ad 0), .ref a, .ref b]) (n := 5) (Nat.le_of_ble_eq_true rfl)
  rw [lg_entry_eq]
  generalize (lg_sl ([.ref (ad 0), .ref a, .ref b]) ++ List.replicate (5 - (lg_sl ([.ref (ad 0), .ref a, .ref b])).length) Slot.unset).toArray = ls at hl ⊢
  have hl : lv_has ls 5 [(0, .ref (ad 0)), (1, .ref a), (2, .ref b)] := hl
  obtain ⟨H, hHe⟩ : ∃ H : Heap, H = s.heap := ⟨_, rfl⟩
  have hP : va_P (dC, dI) vwCl (mW ad ck L ln pr th (nI 0)) H := by rw [hHe]; exact hP
  have hS : va_S A s.heap H [] := by rw [hHe]; exact hS
  suffices hgo : W p l e (headSpec vX5_spread ({ frames := 0, cells := 0, slots := 0, locals := 0 })).room s m ([.ref (ad 0), .ref a, .ref b] : List Value).toArray below meth c H [] 0 0 (MQ below (va_Qv (fun (_ : Unit) => True) (fun _ t => va_P (dC, dI) vwCl (mW ad ck L ln pr th (nI 0)) t.heap) A) ([.ref (ad 0), .ref a, .ref b] : List Value).toArray s 0 0 A) (F0 m 0 ls []) by rw [hHe] at hgo; exact hgo
  refine lv_iconst (v := nI 0) hx hb dX5_spread_0 (by decide +kernel) ?_
  refine lv_istore_n (lv' := [(3, .int (nI 0)), (0, .ref (ad 0)), (1, .ref a), (2, .ref b)]) hx hb dX5_spread_1 rfl hl (by decide) rfl (fun ls hl => ?_)
  have LOOP2 : ∀ (f : Nat) (k : Nat), 64 - k < f → k ≤ 64 → ∀ (H : Heap) (locs : List Loc), va_P (dC, dI) vwCl (mW ad ck L ln pr th (nI 0)) H → va_S A s.heap H locs → ∀ (ls : Array Slot), lv_has ls 5 [(3, .int (nI k)), (0, .ref (ad 0)), (1, .ref a), (2, .ref b)] → W p l e (headSpec vX5_spread ({ frames := 0, cells := 0, slots := 0, locals := 0 })).room s m ([.ref (ad 0), .ref a, .ref b] : List Value).toArray below meth c H locs 0 0 (MQ below (va_Qv (fun (_ : Unit) => True) (fun _ t => va_P (dC, dI) vwCl (mW ad ck L ln pr th (nI 0)) t.heap) A) ([.ref (ad 0), .ref a, .ref b] : List Value).toArray s 0 0 A) (F0 m 2 ls []) := by
    intro f
    induction f with
    | zero => intro k hf; exact absurd hf (Nat.not_lt_zero _)
    | succ f ih =>
      intro k hf hkb H locs hP hS ls hl
      refine lv_iload_n hx hb dX5_spread_2 rfl (lv_at hl 0 rfl) ?_
      refine lv_bipush (v := nI 64) hx hb dX5_spread_3 (by decide +kernel) ?_
      refine lv_icmp_ge (tgt := 21) hx hb dX5_spread_5 (by decide) (fun hc5 => ?_) (fun hc5 => ?_)
      · refine lv_iconst (v := nI 0) hx hb dX5_spread_21 (by decide +kernel) ?_
        refine lv_istore_n (lv' := [(3, .int (nI 0)), (0, .ref (ad 0)), (1, .ref a), (2, .ref b)]) hx hb dX5_spread_22 rfl hl (by decide) rfl (fun ls hl => ?_)
        have LOOP23 : ∀ (f : Nat) (k : Nat), 32 - k < f → k ≤ 32 → ∀ (H : Heap) (locs : List Loc), va_P (dC, dI) vwCl (mW ad ck L ln pr th (nI 0)) H → va_S A s.heap H locs → ∀ (ls : Array Slot), lv_has ls 5 [(3, .int (nI k)), (0, .ref (ad 0)), (1, .ref a), (2, .ref b)] → W p l e (headSpec vX5_spread ({ frames := 0, cells := 0, slots := 0, locals := 0 })).room s m ([.ref (ad 0), .ref a, .ref b] : List Value).toArray below meth c H locs 0 0 (MQ below (va_Qv (fun (_ : Unit) => True) (fun _ t => va_P (dC, dI) vwCl (mW ad ck L ln pr th (nI 0)) t.heap) A) ([.ref (ad 0), .ref a, .ref b] : List Value).toArray s 0 0 A) (F0 m 23 ls []) := by
          intro f
          induction f with
          | zero => intro k hf; exact absurd hf (Nat.not_lt_zero _)
          | succ f ih =>
            intro k hf hkb H locs hP hS ls hl
            refine lv_iload_n hx hb dX5_spread_23 rfl (lv_at hl 0 rfl) ?_
            refine lv_bipush (v := nI 32) hx hb dX5_spread_24 (by decide +kernel) ?_
            refine lv_icmp_ge (tgt := 91) hx hb dX5_spread_26 (by decide) (fun hc26 => ?_) (fun hc26 => ?_)
            · refine W.vret hx hb hr (fun t ht hW => eQv ?_ hP ht (hS.F ht)) hS.2.2 dX5_spread_91
              exact trivial
            · have hk : k < 32 := Nat.lt_of_not_le fun h => hc26 (nI_le h (by omega))
              refine lv_iconst (v := nI 0) hx hb dX5_spread_29 (by decide +kernel) ?_
              refine lv_istore (lv' := [(4, .int (nI 0)), (3, .int (nI k)), (0, .ref (ad 0)), (1, .ref a), (2, .ref b)]) hx hb dX5_spread_30 hl (by decide) rfl (fun ls hl => ?_)
              refine lv_iload hx hb dX5_spread_32 (lv_at hl 0 rfl) ?_
              refine lv_bipush (v := nI 32) hx hb dX5_spread_34 (by decide +kernel) ?_
              refine lv_icmp_ge (tgt := 85) hx hb dX5_spread_36 (by decide) (fun hcc => absurd hcc (by decide +kernel)) (fun _ => ?_)
              refine lv_aload_n hx hb dX5_spread_39 rfl (lv_at hl 3 rfl) ?_
              refine lv_iload_n hx hb dX5_spread_40 rfl (lv_at hl 1 rfl) ?_
              refine zq_ld hx hb hK hP 0 rfl ha (vp_in_nI (by omega) (by decide)) dX5_spread_41 ?_
              refine lv_lconst (v := lN 0) hx hb dX5_spread_42 (by decide +kernel) ?_
              refine W.lcmp hx hb dX5_spread_43 ?_
              refine lv_if_eq (tgt := 85) hx hb dX5_spread_44 (by decide) (fun _ => ?_) (fun hcc => absurd (by decide +kernel) hcc)
              refine lv_iinc (v := nI (k + 1)) (lv' := [(3, .int (nI (k + 1))), (4, .int (nI 0)), (0, .ref (ad 0)), (1, .ref a), (2, .ref b)]) hx hb dX5_spread_85 hl (k := 1) rfl (nI_1 k) (by decide) rfl (fun ls hl => ?_)
              refine lv_goto (tgt := 23) hx hb dX5_spread_88 (by decide) ?_
              exact ih (k + 1) (by omega) (by omega) H locs hP hS ls (lv_sub hl [0, 2, 3, 4] rfl)
        exact LOOP23 33 0 (by decide) (by decide) H locs hP hS ls (lv_sub hl [0, 1, 2, 3] rfl)
      · have hk : k < 64 := Nat.lt_of_not_le fun h => hc5 (nI_le h (by omega))
        refine lv_aload_n hx hb dX5_spread_8 rfl (lv_at hl 1 rfl) ?_
        refine va_get (D := (dC, dI)) (ci := 6) (v := .ref (ad 12)) (C := RX5) (T := TX5) (N := 36) hx hb hts hinX5 hown hK hP 0 rfl rfl 12 (by decide) (hts (.fieldLink RX5 32 "ResidueRowsModel" "wide" "[J") (by decide +kernel)) (fun _ h9 => h9) rfl dX5_spread_9 ?_
        refine lv_iload_n hx hb dX5_spread_12 rfl (lv_at hl 0 rfl) ?_
        refine lv_lconst (v := lN 0) hx hb dX5_spread_13 (by decide +kernel) ?_
        refine zq_st hx hb hK hP hD hS 0 rfl hok.1.2.1 (vp_in_nI (by omega) (by decide)) dX5_spread_14 (fun H locs hP hS => ?_)
        refine lv_iinc (v := nI (k + 1)) (lv' := [(3, .int (nI (k + 1))), (0, .ref (ad 0)), (1, .ref a), (2, .ref b)]) hx hb dX5_spread_15 hl (k := 0) rfl (nI_1 k) (by decide) rfl (fun ls hl => ?_)
        refine lv_goto (tgt := 2) hx hb dX5_spread_18 (by decide) ?_
        exact ih (k + 1) (by omega) (by omega) H locs hP hS ls (lv_sub hl [0, 1, 2, 3] rfl)
  exact LOOP2 65 0 (by decide) (by decide) H [] hP hS ls (lv_sub hl [0, 1, 2, 3] rfl)

abbrev vX5_monic : List Cond := .code yX5_monic cX5_monic 6 none :: mWS
set_option maxHeartbeats 4000000 in
set_option maxRecDepth 100000 in
/-- monic of zeros -/
theorem c_X5_monic (l : Launch) (dC : Nat → ClassId) (dI : Nat → Nat → Nat) (ad : Nat → Nat) (ck : Nat → ClassId) (L : List Nat) (ln : Nat → Nat) (pr : Nat) (hok : mOk ad L ln pr) (sz : Nat) (th : Int32) (a : Nat) (ha : a ∈ L ∧ ln a = 32) : Met l yX5_monic vX5_monic ({ frames := 1, cells := 0, slots := 0, locals := 21 }) (va_Pc [.ref (ad 0), .ref a] (mP (dC, dI) ck (mW ad ck L ln pr th (nI 0)) sz)) (va_Qv (fun (_ : Unit) => True) (fun _ t => va_P (dC, dI) vwCl (mW ad ck L ln pr th (nI 0)) t.heap) (va_A (mW ad ck L ln pr th (nI 0)) sz)) 0 0 (va_A (mW ad ck L ln pr th (nI 0)) sz) := by
  refine Met.ofW (cc := cX5_monic) (maxL := 6) (ret := none) (by decide +kernel) rfl ?_
  intro p e s m args below meth c s₁ B hml hv
  obtain ⟨rfl, hsz, hP, hK, hD0⟩ := hv
  have hx := B.exec
  have hb := B.bytes
  have hr := B.returns
  have hts := atoms_spec (ws := vX5_monic) B.pre
  have hown : s.vm.findClass RX5 = some m.cls := findClass_of_methodNamed B.named
  have hlocks := B.notSynchronized
  subst hsz
  have hD := hD0.self (sz := s.heap.size)
  generalize hAe : va_A (mW ad ck L ln pr th (nI 0)) s.heap.size = A at hD ⊢
  have hA : ∀ q : Nat, s.heap.size ≤ q → A q := fun q h => by rw [← hAe]; exact Or.inr h
  have hS : va_S A s.heap s.heap [] := va_S.rf
  have hinX5 : ∀ w ∈ wsX50, w ∈ vX5_monic := fun w h => List.mem_cons_of_mem _ (inMX5 w h)
  have hpr2 := hok.2.1.1
  have hpr31 := hok.2.2
  have hl := lv_entry ([.ref (ad 0), .ref a]) (n := 6) (Nat.le_of_ble_eq_true rfl)
  rw [lg_entry_eq]
  generalize (lg_sl ([.ref (ad 0), .ref a]) ++ List.replicate (6 - (lg_sl ([.ref (ad 0), .ref a])).length) Slot.unset).toArray = ls at hl ⊢
  have hl : lv_has ls 6 [(0, .ref (ad 0)), (1, .ref a)] := hl
  obtain ⟨H, hHe⟩ : ∃ H : Heap, H = s.heap := ⟨_, rfl⟩
  have hP : va_P (dC, dI) vwCl (mW ad ck L ln pr th (nI 0)) H := by rw [hHe]; exact hP
  have hS : va_S A s.heap H [] := by rw [hHe]; exact hS
  suffices hgo : W p l e (headSpec vX5_monic ({ frames := 1, cells := 0, slots := 0, locals := 21 })).room s m ([.ref (ad 0), .ref a] : List Value).toArray below meth c H [] 0 0 (MQ below (va_Qv (fun (_ : Unit) => True) (fun _ t => va_P (dC, dI) vwCl (mW ad ck L ln pr th (nI 0)) t.heap) A) ([.ref (ad 0), .ref a] : List Value).toArray s 0 0 A) (F0 m 0 ls []) by rw [hHe] at hgo; exact hgo
  refine lv_aload_n hx hb dX5_monic_0 rfl (lv_at hl 1 rfl) ?_
  refine cc_i (va_runS (As := [.ref a]) (rest := []) ⟨hx, hb, hml, hown, hts⟩ (c_X5_degree l dC dI ad ck L ln pr hok H.size th a ha) (va_cwS 1 hts (gMs (by decide +kernel)) rfl rfl rfl (by decide +kernel) ⟨Nat.le_of_ble_eq_true rfl, Nat.le_of_ble_eq_true rfl⟩) ⟨mP_blind, mP_of hP hK hD⟩ rfl rfl hl.1 rfl (lv_room (Nat.le_of_ble_eq_true rfl)) dX5_monic_1 ⟨Nat.le_of_ble_eq_true rfl, Nat.le_of_ble_eq_true rfl⟩) hS (cF hD hS hA) (fun r_2 H locs hw_1 hP hS => ?_)
  subst hw_1
  refine lv_istore_n (lv' := [(2, .int (-1)), (0, .ref (ad 0)), (1, .ref a)]) hx hb dX5_monic_4 rfl hl (by decide) rfl (fun ls hl => ?_)
  refine lv_iload_n hx hb dX5_monic_5 rfl (lv_at hl 0 rfl) ?_
  refine lv_if_ge (tgt := 10) hx hb dX5_monic_6 (by decide) (fun hcc => absurd hcc (by decide +kernel)) (fun _ => ?_)
  refine W.vret hx hb hr (fun t ht hW => eQv ?_ hP ht (hS.F ht)) hS.2.2 dX5_monic_9
  exact trivial

abbrev vX5_divisor : List Cond := .code yX5_divisor cX5_divisor 4 none :: mWS
set_option maxHeartbeats 4000000 in
set_option maxRecDepth 100000 in
/-- divisor of zeros -/
theorem c_X5_divisor (l : Launch) (dC : Nat → ClassId) (dI : Nat → Nat → Nat) (ad : Nat → Nat) (ck : Nat → ClassId) (L : List Nat) (ln : Nat → Nat) (pr : Nat) (hok : mOk ad L ln pr) (sz : Nat) (th : Int32) (a b d : Nat) (ha : a ∈ L ∧ ln a = 32) (hb9 : b ∈ L ∧ ln b = 32) (hd : d ∈ L ∧ ln d = 32) : Met l yX5_divisor vX5_divisor ({ frames := 2, cells := 0, slots := 0, locals := 46 }) (va_Pc [.ref (ad 0), .ref a, .ref b, .ref d] (mP (dC, dI) ck (mW ad ck L ln pr th (nI 0)) sz)) (va_Qv (fun (_ : Unit) => True) (fun _ t => va_P (dC, dI) vwCl (mW ad ck L ln pr th (nI 0)) t.heap) (va_A (mW ad ck L ln pr th (nI 0)) sz)) 0 0 (va_A (mW ad ck L ln pr th (nI 0)) sz) := by
  refine Met.ofW (cc := cX5_divisor) (maxL := 4) (ret := none) (by decide +kernel) rfl ?_
  intro p e s m args below meth c s₁ B hml hv
  obtain ⟨rfl, hsz, hP, hK, hD0⟩ := hv
  have hx := B.exec
  have hb := B.bytes
  have hr := B.returns
  have hts := atoms_spec (ws := vX5_divisor) B.pre
  have hown : s.vm.findClass RX5 = some m.cls := findClass_of_methodNamed B.named
  have hlocks := B.notSynchronized
  subst hsz
  have hD := hD0.self (sz := s.heap.size)
  generalize hAe : va_A (mW ad ck L ln pr th (nI 0)) s.heap.size = A at hD ⊢
  have hA : ∀ q : Nat, s.heap.size ≤ q → A q := fun q h => by rw [← hAe]; exact Or.inr h
  have hS : va_S A s.heap s.heap [] := va_S.rf
  have hinX5 : ∀ w ∈ wsX50, w ∈ vX5_divisor := fun w h => List.mem_cons_of_mem _ (inMX5 w h)
  have hpr2 := hok.2.1.1
  have hpr31 := hok.2.2
  have hl := lv_entry ([.ref (ad 0), .ref a, .ref b, .ref d]) (n := 4) (Nat.le_of_ble_eq_true rfl)
  rw [lg_entry_eq]
  generalize (lg_sl ([.ref (ad 0), .ref a, .ref b, .ref d]) ++ List.replicate (4 - (lg_sl ([.ref (ad 0), .ref a, .ref b, .ref d])).length) Slot.unset).toArray = ls at hl ⊢
  have hl : lv_has ls 4 [(0, .ref (ad 0)), (1, .ref a), (2, .ref b), (3, .ref d)] := hl
  obtain ⟨H, hHe⟩ : ∃ H : Heap, H = s.heap := ⟨_, rfl⟩
  have hP : va_P (dC, dI) vwCl (mW ad ck L ln pr th (nI 0)) H := by rw [hHe]; exact hP
  have hS : va_S A s.heap H [] := by rw [hHe]; exact hS
  suffices hgo : W p l e (headSpec vX5_divisor ({ frames := 2, cells := 0, slots := 0, locals := 46 })).room s m ([.ref (ad 0), .ref a, .ref b, .ref d] : List Value).toArray below meth c H [] 0 0 (MQ below (va_Qv (fun (_ : Unit) => True) (fun _ t => va_P (dC, dI) vwCl (mW ad ck L ln pr th (nI 0)) t.heap) A) ([.ref (ad 0), .ref a, .ref b, .ref d] : List Value).toArray s 0 0 A) (F0 m 0 ls []) by rw [hHe] at hgo; exact hgo
  refine lv_aload_n hx hb dX5_divisor_0 rfl (lv_at hl 1 rfl) ?_
  refine lv_aload_n hx hb dX5_divisor_1 rfl (lv_at hl 0 rfl) ?_
  refine va_get (D := (dC, dI)) (ci := 6) (v := .ref (ad 16)) (C := RX5) (T := TX5) (N := 36) hx hb hts hinX5 hown hK hP 0 rfl rfl 16 (by decide) (hts (.fieldLink RX5 44 "ResidueRowsModel" "gcdA" "[J") (by decide +kernel)) (fun _ h9 => h9) rfl dX5_divisor_2 ?_
  refine cc_v (va_runS (As := [.ref a, .ref (ad 16)]) (rest := []) ⟨hx, hb, hml, hown, hts⟩ (c_X5_copy l dC dI ad ck L ln pr hok H.size th a (ad 16) ha (hok.1.2.2 16 (by decide) (by decide))) (va_cwS 2 hts (gMs (by decide +kernel)) rfl rfl rfl (by decide +kernel) ⟨Nat.le_of_ble_eq_true rfl, Nat.le_of_ble_eq_true rfl⟩) ⟨mP_blind, mP_of hP hK hD⟩ rfl rfl hl.1 rfl (lv_room (Nat.le_of_ble_eq_true rfl)) dX5_divisor_5 ⟨Nat.le_of_ble_eq_true rfl, Nat.le_of_ble_eq_true rfl⟩) hS (cF hD hS hA) (fun H locs hw_1 hP hS => ?_)
  refine lv_aload_n hx hb dX5_divisor_8 rfl (lv_at hl 2 rfl) ?_
  refine lv_aload_n hx hb dX5_divisor_9 rfl (lv_at hl 0 rfl) ?_
  refine va_get (D := (dC, dI)) (ci := 6) (v := .ref (ad 17)) (C := RX5) (T := TX5) (N := 36) hx hb hts hinX5 hown hK hP 0 rfl rfl 17 (by decide) (hts (.fieldLink RX5 47 "ResidueRowsModel" "gcdB" "[J") (by decide +kernel)) (fun _ h9 => h9) rfl dX5_divisor_10 ?_
  refine cc_v (va_runS (As := [.ref b, .ref (ad 17)]) (rest := []) ⟨hx, hb, hml, hown, hts⟩ (c_X5_copy l dC dI ad ck L ln pr hok H.size th b (ad 17) hb9 (hok.1.2.2 17 (by decide) (by decide))) (va_cwS 2 hts (gMs (by decide +kernel)) rfl rfl rfl (by decide +kernel) ⟨Nat.le_of_ble_eq_true rfl, Nat.le_of_ble_eq_true rfl⟩) ⟨mP_blind, mP_of hP hK hD⟩ rfl rfl hl.1 rfl (lv_room (Nat.le_of_ble_eq_true rfl)) dX5_divisor_13 ⟨Nat.le_of_ble_eq_true rfl, Nat.le_of_ble_eq_true rfl⟩) hS (cF hD hS hA) (fun H locs hw_2 hP hS => ?_)
  refine lv_aload_n hx hb dX5_divisor_16 rfl (lv_at hl 0 rfl) ?_
  refine va_get (D := (dC, dI)) (ci := 6) (v := .ref (ad 17)) (C := RX5) (T := TX5) (N := 36) hx hb hts hinX5 hown hK hP 0 rfl rfl 17 (by decide) (hts (.fieldLink RX5 47 "ResidueRowsModel" "gcdB" "[J") (by decide +kernel)) (fun _ h9 => h9) rfl dX5_divisor_17 ?_
  refine cc_i (va_runS (As := [.ref (ad 17)]) (rest := []) ⟨hx, hb, hml, hown, hts⟩ (c_X5_degree l dC dI ad ck L ln pr hok H.size th (ad 17) (hok.1.2.2 17 (by decide) (by decide))) (va_cwS 1 hts (gMs (by decide +kernel)) rfl rfl rfl (by decide +kernel) ⟨Nat.le_of_ble_eq_true rfl, Nat.le_of_ble_eq_true rfl⟩) ⟨mP_blind, mP_of hP hK hD⟩ rfl rfl hl.1 rfl (lv_room (Nat.le_of_ble_eq_true rfl)) dX5_divisor_20 ⟨Nat.le_of_ble_eq_true rfl, Nat.le_of_ble_eq_true rfl⟩) hS (cF hD hS hA) (fun r_4 H locs hw_3 hP hS => ?_)
  subst hw_3
  refine lv_if_lt (tgt := 78) hx hb dX5_divisor_23 (by decide) (fun _ => ?_) (fun hcc => absurd (by decide +kernel) hcc)
  refine lv_aload_n hx hb dX5_divisor_78 rfl (lv_at hl 0 rfl) ?_
  refine lv_aload_n hx hb dX5_divisor_79 rfl (lv_at hl 0 rfl) ?_
  refine va_get (D := (dC, dI)) (ci := 6) (v := .ref (ad 16)) (C := RX5) (T := TX5) (N := 36) hx hb hts hinX5 hown hK hP 0 rfl rfl 16 (by decide) (hts (.fieldLink RX5 44 "ResidueRowsModel" "gcdA" "[J") (by decide +kernel)) (fun _ h9 => h9) rfl dX5_divisor_80 ?_
  refine cc_v (va_runV (As := [.ref (ad 16)]) (rest := []) ⟨hx, hb, hml, hown, hts⟩ (c_X5_monic l dC dI ad ck L ln pr hok H.size th (ad 16) (hok.1.2.2 16 (by decide) (by decide))) (cwV 1 hts (gMv (by decide +kernel)) rfl rfl rfl (by decide +kernel) ⟨Nat.le_of_ble_eq_true rfl, Nat.le_of_ble_eq_true rfl⟩) ⟨mP_blind, va_recv hK hP (ci := 6) (q0 := 0) rfl rfl, mP_of hP hK hD⟩ rfl rfl hl.1 rfl (lv_room (Nat.le_of_ble_eq_true rfl)) dX5_divisor_83 ⟨Nat.le_of_ble_eq_true rfl, Nat.le_of_ble_eq_true rfl⟩) hS (cF hD hS hA) (fun H locs hw_5 hP hS => ?_)
  refine lv_aload_n hx hb dX5_divisor_86 rfl (lv_at hl 0 rfl) ?_
  refine va_get (D := (dC, dI)) (ci := 6) (v := .ref (ad 16)) (C := RX5) (T := TX5) (N := 36) hx hb hts hinX5 hown hK hP 0 rfl rfl 16 (by decide) (hts (.fieldLink RX5 44 "ResidueRowsModel" "gcdA" "[J") (by decide +kernel)) (fun _ h9 => h9) rfl dX5_divisor_87 ?_
  refine lv_aload_n hx hb dX5_divisor_90 rfl (lv_at hl 3 rfl) ?_
  refine cc_v (va_runS (As := [.ref (ad 16), .ref d]) (rest := []) ⟨hx, hb, hml, hown, hts⟩ (c_X5_copy l dC dI ad ck L ln pr hok H.size th (ad 16) d (hok.1.2.2 16 (by decide) (by decide)) hd) (va_cwS 2 hts (gMs (by decide +kernel)) rfl rfl rfl (by decide +kernel) ⟨Nat.le_of_ble_eq_true rfl, Nat.le_of_ble_eq_true rfl⟩) ⟨mP_blind, mP_of hP hK hD⟩ rfl rfl hl.1 rfl (lv_room (Nat.le_of_ble_eq_true rfl)) dX5_divisor_91 ⟨Nat.le_of_ble_eq_true rfl, Nat.le_of_ble_eq_true rfl⟩) hS (cF hD hS hA) (fun H locs hw_6 hP hS => ?_)
  refine W.vret hx hb hr (fun t ht hW => eQv ?_ hP ht (hS.F ht)) hS.2.2 dX5_divisor_94
  exact trivial

abbrev vX5_raise : List Cond := .code yX5_raise cX5_raise 2 (some .int) :: mWS
set_option maxHeartbeats 4000000 in
set_option maxRecDepth 100000 in
/-- raise(code) -/
theorem c_X5_raise (l : Launch) (dC : Nat → ClassId) (dI : Nat → Nat → Nat) (ad : Nat → Nat) (ck : Nat → ClassId) (L : List Nat) (ln : Nat → Nat) (pr : Nat) (hok : mOk ad L ln pr) (sz : Nat) (th : Int32) (p0 : Int32) : Met l yX5_raise vX5_raise ({ frames := 0, cells := 0, slots := 0, locals := 0 }) (va_Pc [.ref (ad 0), .int p0] (mP (dC, dI) ck (mW ad ck L ln pr th (nI 0)) sz)) (va_Qi (fun r u => r = nI 0 ∧ u.1 = p0 : Int32 → Int32 × Int32 → Prop) (fun u t => va_P (dC, dI) vwCl (mO ad pr u.1 u.2) t.heap) (va_A (mW ad ck L ln pr th (nI 0)) sz)) 0 0 (va_A (mW ad ck L ln pr th (nI 0)) sz) := by
  refine Met.ofW (cc := cX5_raise) (maxL := 2) (ret := (some .int)) (by decide +kernel) rfl ?_
  intro p e s m args below meth c s₁ B hml hv
  obtain ⟨rfl, hsz, hP, hK, hD0⟩ := hv
  have hx := B.exec
  have hb := B.bytes
  have hr := B.returns
  have hts := atoms_spec (ws := vX5_raise) B.pre
  have hown : s.vm.findClass RX5 = some m.cls := findClass_of_methodNamed B.named
  have hlocks := B.notSynchronized
  subst hsz
  have hD := hD0.self (sz := s.heap.size)
  generalize hAe : va_A (mW ad ck L ln pr th (nI 0)) s.heap.size = A at hD ⊢
  have hA : ∀ q : Nat, s.heap.size ≤ q → A q := fun q h => by rw [← hAe]; exact Or.inr h
  have hS : va_S A s.heap s.heap [] := va_S.rf
  have hinX5 : ∀ w ∈ wsX50, w ∈ vX5_raise := fun w h => List.mem_cons_of_mem _ (inMX5 w h)
  have hpr2 := hok.2.1.1
  have hpr31 := hok.2.2
  have hl := lv_entry ([.ref (ad 0), .int p0]) (n := 2) (Nat.le_of_ble_eq_true rfl)
  rw [lg_entry_eq]
  generalize (lg_sl ([.ref (ad 0), .int p0]) ++ List.replicate (2 - (lg_sl ([.ref (ad 0), .int p0])).length) Slot.unset).toArray = ls at hl ⊢
  have hl : lv_has ls 2 [(0, .ref (ad 0)), (1, .int p0)] := hl
  obtain ⟨H, hHe⟩ : ∃ H : Heap, H = s.heap := ⟨_, rfl⟩
  have hP : va_P (dC, dI) vwCl (mW ad ck L ln pr th (nI 0)) H := by rw [hHe]; exact hP
  have hS : va_S A s.heap H [] := by rw [hHe]; exact hS
  suffices hgo : W p l e (headSpec vX5_raise ({ frames := 0, cells := 0, slots := 0, locals := 0 })).room s m ([.ref (ad 0), .int p0] : List Value).toArray below meth c H [] 0 0 (MQ below (va_Qi (fun r u => r = nI 0 ∧ u.1 = p0 : Int32 → Int32 × Int32 → Prop) (fun u t => va_P (dC, dI) vwCl (mO ad pr u.1 u.2) t.heap) A) ([.ref (ad 0), .int p0] : List Value).toArray s 0 0 A) (F0 m 0 ls []) by rw [hHe] at hgo; exact hgo
  refine lv_aload_n hx hb dX5_raise_0 rfl (lv_at hl 0 rfl) ?_
  refine lv_iload_n hx hb dX5_raise_1 rfl (lv_at hl 1 rfl) ?_
  refine va_put (D := (dC, dI)) (ci := 6) (v := .int p0) (ty := .int) (C := RX5) (T := TX5) (N := 36) hx hb hts hinX5 tyX5 tyX5_ok nmX5 hown hK hP hD hS 0 rfl rfl 0 (by decide) (hts (.fieldLink RX5 108 "ResidueRowsModel" "thrown" "I") (by decide +kernel)) (fun _ h9 => h9) rfl (by decide +kernel) rfl rfl (Nat.le_of_ble_eq_true rfl) dX5_raise_2 (fun H locs hP hD hS => ?_)
  have hP : va_P (dC, dI) vwCl (mW ad ck L ln pr p0 (nI 0)) H := hP
  have hD : va_D A (mW ad ck L ln pr p0 (nI 0)) := hD
  refine lv_iconst (v := nI 0) hx hb dX5_raise_5 (by decide +kernel) ?_
  refine W.iret hx hb hr (fun t ht hW => eMi p0 (nI 0) ?_ (hP.sub [0] rfl) ht (hS.F ht)) hS.2.2 dX5_raise_6
  exact ⟨rfl, rfl⟩

abbrev vX5_poly : List Cond := .code yX5_poly cX5_poly 2 (some .int) :: mWS
set_option maxHeartbeats 4000000 in
set_option maxRecDepth 100000 in
/-- poly(), the first call -/
theorem c_X5_poly (l : Launch) (dC : Nat → ClassId) (dI : Nat → Nat → Nat) (ad : Nat → Nat) (ck : Nat → ClassId) (L : List Nat) (ln : Nat → Nat) (pr : Nat) (hok : mOk ad L ln pr) (sz : Nat) (th : Int32) : Met l yX5_poly vX5_poly ({ frames := 1, cells := 0, slots := 0, locals := 22 }) (va_Pc [.ref (ad 0)] (mP (dC, dI) ck (mW ad ck L ln pr th (nI 0)) sz)) (va_Qi (fun r u => u.1 = nI 0 ∧ r = nI 0 : Int32 → Int32 × Int32 → Prop) (fun u t => va_P (dC, dI) vwCl (mO ad pr u.1 u.2) t.heap) (va_A (mW ad ck L ln pr th (nI 0)) sz)) 0 0 (va_A (mW ad ck L ln pr th (nI 0)) sz) := by
  refine Met.ofW (cc := cX5_poly) (maxL := 2) (ret := (some .int)) (by decide +kernel) rfl ?_
  intro p e s m args below meth c s₁ B hml hv
  obtain ⟨rfl, hsz, hP, hK, hD0⟩ := hv
  have hx := B.exec
  have hb := B.bytes
  have hr := B.returns
  have hts := atoms_spec (ws := vX5_poly) B.pre
  have hown : s.vm.findClass RX5 = some m.cls := findClass_of_methodNamed B.named
  have hlocks := B.notSynchronized
  subst hsz
  have hD := hD0.self (sz := s.heap.size)
  generalize hAe : va_A (mW ad ck L ln pr th (nI 0)) s.heap.size = A at hD ⊢
  have hA : ∀ q : Nat, s.heap.size ≤ q → A q := fun q h => by rw [← hAe]; exact Or.inr h
  have hS : va_S A s.heap s.heap [] := va_S.rf
  have hinX5 : ∀ w ∈ wsX50, w ∈ vX5_poly := fun w h => List.mem_cons_of_mem _ (inMX5 w h)
  have hpr2 := hok.2.1.1
  have hpr31 := hok.2.2
  have hl := lv_entry ([.ref (ad 0)]) (n := 2) (Nat.le_of_ble_eq_true rfl)
  rw [lg_entry_eq]
  generalize (lg_sl ([.ref (ad 0)]) ++ List.replicate (2 - (lg_sl ([.ref (ad 0)])).length) Slot.unset).toArray = ls at hl ⊢
  have hl : lv_has ls 2 [(0, .ref (ad 0))] := hl
  obtain ⟨H, hHe⟩ : ∃ H : Heap, H = s.heap := ⟨_, rfl⟩
  have hP : va_P (dC, dI) vwCl (mW ad ck L ln pr th (nI 0)) H := by rw [hHe]; exact hP
  have hS : va_S A s.heap H [] := by rw [hHe]; exact hS
  suffices hgo : W p l e (headSpec vX5_poly ({ frames := 1, cells := 0, slots := 0, locals := 22 })).room s m ([.ref (ad 0)] : List Value).toArray below meth c H [] 0 0 (MQ below (va_Qi (fun r u => u.1 = nI 0 ∧ r = nI 0 : Int32 → Int32 × Int32 → Prop) (fun u t => va_P (dC, dI) vwCl (mO ad pr u.1 u.2) t.heap) A) ([.ref (ad 0)] : List Value).toArray s 0 0 A) (F0 m 0 ls []) by rw [hHe] at hgo; exact hgo
  refine lv_aload_n hx hb dX5_poly_0 rfl (lv_at hl 0 rfl) ?_
  refine lv_aload_n hx hb dX5_poly_1 rfl (lv_at hl 0 rfl) ?_
  refine va_get (D := (dC, dI)) (ci := 6) (v := .int (nI 0)) (C := RX5) (T := TX5) (N := 36) hx hb hts hinX5 hown hK hP 0 rfl rfl 3 (by decide) (hts (.fieldLink RX5 112 "ResidueRowsModel" "given" "I") (by decide +kernel)) (fun _ h9 => h9) rfl dX5_poly_2 ?_
  refine lv_bipush (v := nI 96) hx hb dX5_poly_5 (by decide +kernel) ?_
  refine lv_icmp_ne (tgt := 14) hx hb dX5_poly_7 (by decide) (fun _ => ?_) (fun hcc => absurd hcc (by decide +kernel))
  refine lv_iconst (v := nI 0) hx hb dX5_poly_14 (by decide +kernel) ?_
  refine va_put (D := (dC, dI)) (ci := 6) (v := .int (nI 0)) (ty := .int) (C := RX5) (T := TX5) (N := 36) hx hb hts hinX5 tyX5 tyX5_ok nmX5 hown hK hP hD hS 0 rfl rfl 0 (by decide) (hts (.fieldLink RX5 108 "ResidueRowsModel" "thrown" "I") (by decide +kernel)) (fun _ h9 => h9) rfl (by decide +kernel) rfl rfl (Nat.le_of_ble_eq_true rfl) dX5_poly_15 (fun H locs hP hD hS => ?_)
  have hP : va_P (dC, dI) vwCl (mW ad ck L ln pr (nI 0) (nI 0)) H := hP
  have hD : va_D A (mW ad ck L ln pr (nI 0) (nI 0)) := hD
  refine lv_aload_n hx hb dX5_poly_18 rfl (lv_at hl 0 rfl) ?_
  refine va_get (D := (dC, dI)) (ci := 6) (v := .int (nI 0)) (C := RX5) (T := TX5) (N := 36) hx hb hts hinX5 hown hK hP 0 rfl rfl 0 (by decide) (hts (.fieldLink RX5 108 "ResidueRowsModel" "thrown" "I") (by decide +kernel)) (fun _ h9 => h9) rfl dX5_poly_19 ?_
  refine lv_if_le (tgt := 27) hx hb dX5_poly_22 (by decide) (fun _ => ?_) (fun hcc => absurd (by decide +kernel) hcc)
  refine lv_iconst (v := nI 0) hx hb dX5_poly_27 (by decide +kernel) ?_
  refine lv_istore_n (lv' := [(1, .int (nI 0)), (0, .ref (ad 0))]) hx hb dX5_poly_28 rfl hl (by decide) rfl (fun ls hl => ?_)
  have LOOP29 : ∀ (f : Nat) (k : Nat), 32 - k < f → k ≤ 32 → ∀ (H : Heap) (locs : List Loc), va_P (dC, dI) vwCl (mW ad ck L ln pr (nI 0) (nI 0)) H → va_S A s.heap H locs → ∀ (ls : Array Slot), lv_has ls 2 [(1, .int (nI k)), (0, .ref (ad 0))] → W p l e (headSpec vX5_poly ({ frames := 1, cells := 0, slots := 0, locals := 22 })).room s m ([.ref (ad 0)] : List Value).toArray below meth c H locs 0 0 (MQ below (va_Qi (fun r u => u.1 = nI 0 ∧ r = nI 0 : Int32 → Int32 × Int32 → Prop) (fun u t => va_P (dC, dI) vwCl (mO ad pr u.1 u.2) t.heap) A) ([.ref (ad 0)] : List Value).toArray s 0 0 A) (F0 m 29 ls []) := by
    intro f
    induction f with
    | zero => intro k hf; exact absurd hf (Nat.not_lt_zero _)
    | succ f ih =>
      intro k hf hkb H locs hP hS ls hl
      refine lv_iload_n hx hb dX5_poly_29 rfl (lv_at hl 0 rfl) ?_
      refine lv_bipush (v := nI 32) hx hb dX5_poly_30 (by decide +kernel) ?_
      refine lv_icmp_ge (tgt := 48) hx hb dX5_poly_32 (by decide) (fun hc32 => ?_) (fun hc32 => ?_)
      · refine lv_aload_n hx hb dX5_poly_48 rfl (lv_at hl 1 rfl) ?_
        refine lv_aload_n hx hb dX5_poly_49 rfl (lv_at hl 1 rfl) ?_
        refine va_get (D := (dC, dI)) (ci := 6) (v := .ref (ad 15)) (C := RX5) (T := TX5) (N := 36) hx hb hts hinX5 hown hK hP 0 rfl rfl 15 (by decide) (hts (.fieldLink RX5 41 "ResidueRowsModel" "answer" "[J") (by decide +kernel)) (fun _ h9 => h9) rfl dX5_poly_50 ?_
        refine cm_i (va_runV (As := [.ref (ad 15)]) (rest := []) ⟨hx, hb, hml, hown, hts⟩ (c_X5_give l dC dI ad ck L ln pr hok H.size (nI 0) (ad 15) (hok.1.2.2 15 (by decide) (by decide))) (cwV 1 hts (gMv (by decide +kernel)) rfl rfl rfl (by decide +kernel) ⟨Nat.le_of_ble_eq_true rfl, Nat.le_of_ble_eq_true rfl⟩) ⟨mP_blind, va_recv hK hP (ci := 6) (q0 := 0) rfl rfl, mP_of hP hK hD⟩ rfl rfl hl.1 rfl (lv_room (Nat.le_of_ble_eq_true rfl)) dX5_poly_53 ⟨Nat.le_of_ble_eq_true rfl, Nat.le_of_ble_eq_true rfl⟩) hS (cF hD hS hA) (fun r_2 th_3 gv_4 H locs hw_1 hP hS => ?_)
        obtain ⟨rfl, e9⟩ := hw_1
        dsimp only at e9
        subst e9
        refine W.iret hx hb hr (fun t ht hW => eMi (nI 0) gv_4 ?_ hP ht (hS.F ht)) hS.2.2 dX5_poly_56
        exact ⟨rfl, rfl⟩
      · have hk : k < 32 := Nat.lt_of_not_le fun h => hc32 (nI_le h (by omega))
        refine lv_aload_n hx hb dX5_poly_35 rfl (lv_at hl 1 rfl) ?_
        refine va_get (D := (dC, dI)) (ci := 6) (v := .ref (ad 15)) (C := RX5) (T := TX5) (N := 36) hx hb hts hinX5 hown hK hP 0 rfl rfl 15 (by decide) (hts (.fieldLink RX5 41 "ResidueRowsModel" "answer" "[J") (by decide +kernel)) (fun _ h9 => h9) rfl dX5_poly_36 ?_
        refine lv_iload_n hx hb dX5_poly_39 rfl (lv_at hl 0 rfl) ?_
        refine lv_lconst (v := lN 0) hx hb dX5_poly_40 (by decide +kernel) ?_
        refine zq_st hx hb hK hP hD hS 0 rfl (hok.1.2.2 15 (by decide) (by decide)) (vp_in_nI (by omega) (by decide)) dX5_poly_41 (fun H locs hP hS => ?_)
        refine lv_iinc (v := nI (k + 1)) (lv' := [(1, .int (nI (k + 1))), (0, .ref (ad 0))]) hx hb dX5_poly_42 hl (k := 0) rfl (nI_1 k) (by decide) rfl (fun ls hl => ?_)
        refine lv_goto (tgt := 29) hx hb dX5_poly_45 (by decide) ?_
        exact ih (k + 1) (by omega) (by omega) H locs hP hS ls (lv_sub hl [0, 1] rfl)
  exact LOOP29 33 0 (by decide) (by decide) H locs hP hS ls (lv_sub hl [0, 1] rfl)

abbrev vX5_times : List Cond := .code yX5_times cX5_times 4 (some .int) :: mWS
set_option maxHeartbeats 4000000 in
set_option maxRecDepth 100000 in
/-- times(a, b), the first call -/
theorem c_X5_times (l : Launch) (dC : Nat → ClassId) (dI : Nat → Nat → Nat) (ad : Nat → Nat) (ck : Nat → ClassId) (L : List Nat) (ln : Nat → Nat) (pr : Nat) (hok : mOk ad L ln pr) (sz : Nat) (th : Int32) (p0 p1 : Int32) : Met l yX5_times vX5_times ({ frames := 1, cells := 0, slots := 0, locals := 24 }) (va_Pc [.ref (ad 0), .int p0, .int p1] (mP (dC, dI) ck (mW ad ck L ln pr th (nI 0)) sz)) (va_Qi (fun r u => (u.1 = nI 0 ∧ (inR p0 96 ∧ inR p1 96) ∧ r = nI 0) ∨ (u.1 = nI 1 ∧ ¬ (inR p0 96 ∧ inR p1 96)) : Int32 → Int32 × Int32 → Prop) (fun u t => va_P (dC, dI) vwCl (mO ad pr u.1 u.2) t.heap) (va_A (mW ad ck L ln pr th (nI 0)) sz)) 0 0 (va_A (mW ad ck L ln pr th (nI 0)) sz) := by
  refine Met.ofW (cc := cX5_times) (maxL := 4) (ret := (some .int)) (by decide +kernel) rfl ?_
  intro p e s m args below meth c s₁ B hml hv
  obtain ⟨rfl, hsz, hP, hK, hD0⟩ := hv
  have hx := B.exec
  have hb := B.bytes
  have hr := B.returns
  have hts := atoms_spec (ws := vX5_times) B.pre
  have hown : s.vm.findClass RX5 = some m.cls := findClass_of_methodNamed B.named
  have hlocks := B.notSynchronized
  subst hsz
  have hD := hD0.self (sz := s.heap.size)
  generalize hAe : va_A (mW ad ck L ln pr th (nI 0)) s.heap.size = A at hD ⊢
  have hA : ∀ q : Nat, s.heap.size ≤ q → A q := fun q h => by rw [← hAe]; exact Or.inr h
  have hS : va_S A s.heap s.heap [] := va_S.rf
  have hinX5 : ∀ w ∈ wsX50, w ∈ vX5_times := fun w h => List.mem_cons_of_mem _ (inMX5 w h)
  have hpr2 := hok.2.1.1
  have hpr31 := hok.2.2
  have hl := lv_entry ([.ref (ad 0), .int p0, .int p1]) (n := 4) (Nat.le_of_ble_eq_true rfl)
  rw [lg_entry_eq]
  generalize (lg_sl ([.ref (ad 0), .int p0, .int p1]) ++ List.replicate (4 - (lg_sl ([.ref (ad 0), .int p0, .int p1])).length) Slot.unset).toArray = ls at hl ⊢
  have hl : lv_has ls 4 [(0, .ref (ad 0)), (1, .int p0), (2, .int p1)] := hl
  obtain ⟨H, hHe⟩ : ∃ H : Heap, H = s.heap := ⟨_, rfl⟩
  have hP : va_P (dC, dI) vwCl (mW ad ck L ln pr th (nI 0)) H := by rw [hHe]; exact hP
  have hS : va_S A s.heap H [] := by rw [hHe]; exact hS
  suffices hgo : W p l e (headSpec vX5_times ({ frames := 1, cells := 0, slots := 0, locals := 24 })).room s m ([.ref (ad 0), .int p0, .int p1] : List Value).toArray below meth c H [] 0 0 (MQ below (va_Qi (fun r u => (u.1 = nI 0 ∧ (inR p0 96 ∧ inR p1 96) ∧ r = nI 0) ∨ (u.1 = nI 1 ∧ ¬ (inR p0 96 ∧ inR p1 96)) : Int32 → Int32 × Int32 → Prop) (fun u t => va_P (dC, dI) vwCl (mO ad pr u.1 u.2) t.heap) A) ([.ref (ad 0), .int p0, .int p1] : List Value).toArray s 0 0 A) (F0 m 0 ls []) by rw [hHe] at hgo; exact hgo
  by_cases h0 : inR p0 96
  · skip
    by_cases h1 : inR p1 96
    · skip
      obtain ⟨i, hi, rfl⟩ := id h0
      obtain ⟨k, hk, rfl⟩ := id h1
      refine lv_aload_n hx hb dX5_times_0 rfl (lv_at hl 0 rfl) ?_
      refine lv_aload_n hx hb dX5_times_1 rfl (lv_at hl 0 rfl) ?_
      refine lv_iload_n hx hb dX5_times_2 rfl (lv_at hl 1 rfl) ?_
      refine cc_i (va_runV (As := [.int (nI i)]) (rest := [.ref (ad 0)]) ⟨hx, hb, hml, hown, hts⟩ (c_X5_isRow l dC dI ad ck L ln pr hok H.size th (nI i)) (cwV 1 hts (gMv (by decide +kernel)) rfl rfl rfl (by decide +kernel) ⟨Nat.le_of_ble_eq_true rfl, Nat.le_of_ble_eq_true rfl⟩) ⟨mP_blind, va_recv hK hP (ci := 6) (q0 := 0) rfl rfl, mP_of hP hK hD⟩ rfl rfl hl.1 rfl (lv_room (Nat.le_of_ble_eq_true rfl)) dX5_times_3 ⟨Nat.le_of_ble_eq_true rfl, Nat.le_of_ble_eq_true rfl⟩) hS (cF hD hS hA) (fun r_2 H locs hw_1 hP hS => ?_)
      have e9 : r_2 = nI 1 := hw_1.elim (fun h9 => h9.1) (fun h9 => absurd h0 h9.2)
      subst e9
      refine lv_if_eq (tgt := 17) hx hb dX5_times_6 (by decide) (fun hcc => absurd hcc (by decide +kernel)) (fun _ => ?_)
      refine lv_aload_n hx hb dX5_times_9 rfl (lv_at hl 0 rfl) ?_
      refine lv_iload_n hx hb dX5_times_10 rfl (lv_at hl 2 rfl) ?_
      refine cc_i (va_runV (As := [.int (nI k)]) (rest := [.ref (ad 0)]) ⟨hx, hb, hml, hown, hts⟩ (c_X5_isRow l dC dI ad ck L ln pr hok H.size th (nI k)) (cwV 1 hts (gMv (by decide +kernel)) rfl rfl rfl (by decide +kernel) ⟨Nat.le_of_ble_eq_true rfl, Nat.le_of_ble_eq_true rfl⟩) ⟨mP_blind, va_recv hK hP (ci := 6) (q0 := 0) rfl rfl, mP_of hP hK hD⟩ rfl rfl hl.1 rfl (lv_room (Nat.le_of_ble_eq_true rfl)) dX5_times_11 ⟨Nat.le_of_ble_eq_true rfl, Nat.le_of_ble_eq_true rfl⟩) hS (cF hD hS hA) (fun r_4 H locs hw_3 hP hS => ?_)
      have e9 : r_4 = nI 1 := hw_3.elim (fun h9 => h9.1) (fun h9 => absurd h1 h9.2)
      subst e9
      refine lv_if_ne (tgt := 21) hx hb dX5_times_14 (by decide) (fun _ => ?_) (fun hcc => absurd hcc (by decide +kernel))
      refine lv_aload_n hx hb dX5_times_21 rfl (lv_at hl 0 rfl) ?_
      refine va_get (D := (dC, dI)) (ci := 6) (v := .int (nI 0)) (C := RX5) (T := TX5) (N := 36) hx hb hts hinX5 hown hK hP 0 rfl rfl 3 (by decide) (hts (.fieldLink RX5 112 "ResidueRowsModel" "given" "I") (by decide +kernel)) (fun _ h9 => h9) rfl dX5_times_22 ?_
      refine lv_bipush (v := nI 96) hx hb dX5_times_25 (by decide +kernel) ?_
      refine lv_icmp_ne (tgt := 34) hx hb dX5_times_27 (by decide) (fun _ => ?_) (fun hcc => absurd hcc (by decide +kernel))
      refine lv_iconst (v := nI 0) hx hb dX5_times_34 (by decide +kernel) ?_
      refine va_put (D := (dC, dI)) (ci := 6) (v := .int (nI 0)) (ty := .int) (C := RX5) (T := TX5) (N := 36) hx hb hts hinX5 tyX5 tyX5_ok nmX5 hown hK hP hD hS 0 rfl rfl 0 (by decide) (hts (.fieldLink RX5 108 "ResidueRowsModel" "thrown" "I") (by decide +kernel)) (fun _ h9 => h9) rfl (by decide +kernel) rfl rfl (Nat.le_of_ble_eq_true rfl) dX5_times_35 (fun H locs hP hD hS => ?_)
      have hP : va_P (dC, dI) vwCl (mW ad ck L ln pr (nI 0) (nI 0)) H := hP
      have hD : va_D A (mW ad ck L ln pr (nI 0) (nI 0)) := hD
      refine lv_aload_n hx hb dX5_times_38 rfl (lv_at hl 0 rfl) ?_
      refine va_get (D := (dC, dI)) (ci := 6) (v := .int (nI 0)) (C := RX5) (T := TX5) (N := 36) hx hb hts hinX5 hown hK hP 0 rfl rfl 0 (by decide) (hts (.fieldLink RX5 108 "ResidueRowsModel" "thrown" "I") (by decide +kernel)) (fun _ h9 => h9) rfl dX5_times_39 ?_
      refine lv_if_le (tgt := 47) hx hb dX5_times_42 (by decide) (fun _ => ?_) (fun hcc => absurd (by decide +kernel) hcc)
      refine lv_aload_n hx hb dX5_times_47 rfl (lv_at hl 0 rfl) ?_
      refine lv_iload_n hx hb dX5_times_48 rfl (lv_at hl 1 rfl) ?_
      refine lv_aload_n hx hb dX5_times_49 rfl (lv_at hl 0 rfl) ?_
      refine va_get (D := (dC, dI)) (ci := 6) (v := .ref (ad 13)) (C := RX5) (T := TX5) (N := 36) hx hb hts hinX5 hown hK hP 0 rfl rfl 13 (by decide) (hts (.fieldLink RX5 35 "ResidueRowsModel" "one" "[J") (by decide +kernel)) (fun _ h9 => h9) rfl dX5_times_50 ?_
      refine cc_v (va_runV (As := [.int (nI i), .ref (ad 13)]) (rest := []) ⟨hx, hb, hml, hown, hts⟩ (c_X5_take l dC dI ad ck L ln pr hok H.size (nI 0) i hi (ad 13) (hok.1.2.2 13 (by decide) (by decide))) (cwV 2 hts (gMv (by decide +kernel)) rfl rfl rfl (by decide +kernel) ⟨Nat.le_of_ble_eq_true rfl, Nat.le_of_ble_eq_true rfl⟩) ⟨mP_blind, va_recv hK hP (ci := 6) (q0 := 0) rfl rfl, mP_of hP hK hD⟩ rfl rfl hl.1 rfl (lv_room (Nat.le_of_ble_eq_true rfl)) dX5_times_53 ⟨Nat.le_of_ble_eq_true rfl, Nat.le_of_ble_eq_true rfl⟩) hS (cF hD hS hA) (fun H locs hw_5 hP hS => ?_)
      refine lv_aload_n hx hb dX5_times_56 rfl (lv_at hl 0 rfl) ?_
      refine lv_iload_n hx hb dX5_times_57 rfl (lv_at hl 2 rfl) ?_
      refine lv_aload_n hx hb dX5_times_58 rfl (lv_at hl 0 rfl) ?_
      refine va_get (D := (dC, dI)) (ci := 6) (v := .ref (ad 14)) (C := RX5) (T := TX5) (N := 36) hx hb hts hinX5 hown hK hP 0 rfl rfl 14 (by decide) (hts (.fieldLink RX5 38 "ResidueRowsModel" "two" "[J") (by decide +kernel)) (fun _ h9 => h9) rfl dX5_times_59 ?_
      refine cc_v (va_runV (As := [.int (nI k), .ref (ad 14)]) (rest := []) ⟨hx, hb, hml, hown, hts⟩ (c_X5_take l dC dI ad ck L ln pr hok H.size (nI 0) k hk (ad 14) (hok.1.2.2 14 (by decide) (by decide))) (cwV 2 hts (gMv (by decide +kernel)) rfl rfl rfl (by decide +kernel) ⟨Nat.le_of_ble_eq_true rfl, Nat.le_of_ble_eq_true rfl⟩) ⟨mP_blind, va_recv hK hP (ci := 6) (q0 := 0) rfl rfl, mP_of hP hK hD⟩ rfl rfl hl.1 rfl (lv_room (Nat.le_of_ble_eq_true rfl)) dX5_times_62 ⟨Nat.le_of_ble_eq_true rfl, Nat.le_of_ble_eq_true rfl⟩) hS (cF hD hS hA) (fun H locs hw_6 hP hS => ?_)
      refine lv_aload_n hx hb dX5_times_65 rfl (lv_at hl 0 rfl) ?_
      refine va_get (D := (dC, dI)) (ci := 6) (v := .ref (ad 13)) (C := RX5) (T := TX5) (N := 36) hx hb hts hinX5 hown hK hP 0 rfl rfl 13 (by decide) (hts (.fieldLink RX5 35 "ResidueRowsModel" "one" "[J") (by decide +kernel)) (fun _ h9 => h9) rfl dX5_times_66 ?_
      refine cc_i (va_runS (As := [.ref (ad 13)]) (rest := []) ⟨hx, hb, hml, hown, hts⟩ (c_X5_degree l dC dI ad ck L ln pr hok H.size (nI 0) (ad 13) (hok.1.2.2 13 (by decide) (by decide))) (va_cwS 1 hts (gMs (by decide +kernel)) rfl rfl rfl (by decide +kernel) ⟨Nat.le_of_ble_eq_true rfl, Nat.le_of_ble_eq_true rfl⟩) ⟨mP_blind, mP_of hP hK hD⟩ rfl rfl hl.1 rfl (lv_room (Nat.le_of_ble_eq_true rfl)) dX5_times_69 ⟨Nat.le_of_ble_eq_true rfl, Nat.le_of_ble_eq_true rfl⟩) hS (cF hD hS hA) (fun r_8 H locs hw_7 hP hS => ?_)
      subst hw_7
      refine lv_if_lt (tgt := 111) hx hb dX5_times_72 (by decide) (fun _ => ?_) (fun hcc => absurd (by decide +kernel) hcc)
      refine lv_aload_n hx hb dX5_times_111 rfl (lv_at hl 0 rfl) ?_
      refine lv_aload_n hx hb dX5_times_112 rfl (lv_at hl 0 rfl) ?_
      refine va_get (D := (dC, dI)) (ci := 6) (v := .ref (ad 13)) (C := RX5) (T := TX5) (N := 36) hx hb hts hinX5 hown hK hP 0 rfl rfl 13 (by decide) (hts (.fieldLink RX5 35 "ResidueRowsModel" "one" "[J") (by decide +kernel)) (fun _ h9 => h9) rfl dX5_times_113 ?_
      refine lv_aload_n hx hb dX5_times_116 rfl (lv_at hl 0 rfl) ?_
      refine va_get (D := (dC, dI)) (ci := 6) (v := .ref (ad 14)) (C := RX5) (T := TX5) (N := 36) hx hb hts hinX5 hown hK hP 0 rfl rfl 14 (by decide) (hts (.fieldLink RX5 38 "ResidueRowsModel" "two" "[J") (by decide +kernel)) (fun _ h9 => h9) rfl dX5_times_117 ?_
      refine cc_v (va_runV (As := [.ref (ad 13), .ref (ad 14)]) (rest := []) ⟨hx, hb, hml, hown, hts⟩ (c_X5_spread l dC dI ad ck L ln pr hok H.size (nI 0) (ad 13) (ad 14) (hok.1.2.2 13 (by decide) (by decide)) (hok.1.2.2 14 (by decide) (by decide))) (cwV 2 hts (gMv (by decide +kernel)) rfl rfl rfl (by decide +kernel) ⟨Nat.le_of_ble_eq_true rfl, Nat.le_of_ble_eq_true rfl⟩) ⟨mP_blind, va_recv hK hP (ci := 6) (q0 := 0) rfl rfl, mP_of hP hK hD⟩ rfl rfl hl.1 rfl (lv_room (Nat.le_of_ble_eq_true rfl)) dX5_times_120 ⟨Nat.le_of_ble_eq_true rfl, Nat.le_of_ble_eq_true rfl⟩) hS (cF hD hS hA) (fun H locs hw_9 hP hS => ?_)
      refine lv_iconst (v := nI 0) hx hb dX5_times_123 (by decide +kernel) ?_
      refine lv_istore_n (lv' := [(3, .int (nI 0)), (0, .ref (ad 0)), (1, .int (nI i)), (2, .int (nI k))]) hx hb dX5_times_124 rfl hl (by decide) rfl (fun ls hl => ?_)
      have LOOP125 : ∀ (f : Nat) (j : Nat), 32 - j < f → j ≤ 32 → ∀ (H : Heap) (locs : List Loc), va_P (dC, dI) vwCl (mW ad ck L ln pr (nI 0) (nI 0)) H → va_S A s.heap H locs → ∀ (ls : Array Slot), lv_has ls 4 [(3, .int (nI j)), (0, .ref (ad 0))] → W p l e (headSpec vX5_times ({ frames := 1, cells := 0, slots := 0, locals := 24 })).room s m ([.ref (ad 0), .int (nI i), .int (nI k)] : List Value).toArray below meth c H locs 0 0 (MQ below (va_Qi (fun r u => (u.1 = nI 0 ∧ (inR (nI i) 96 ∧ inR (nI k) 96) ∧ r = nI 0) ∨ (u.1 = nI 1 ∧ ¬ (inR (nI i) 96 ∧ inR (nI k) 96)) : Int32 → Int32 × Int32 → Prop) (fun u t => va_P (dC, dI) vwCl (mO ad pr u.1 u.2) t.heap) A) ([.ref (ad 0), .int (nI i), .int (nI k)] : List Value).toArray s 0 0 A) (F0 m 125 ls []) := by
        intro f
        induction f with
        | zero => intro j hf; exact absurd hf (Nat.not_lt_zero _)
        | succ f ih =>
          intro j hf hjb H locs hP hS ls hl
          refine lv_iload_n hx hb dX5_times_125 rfl (lv_at hl 0 rfl) ?_
          refine lv_bipush (v := nI 32) hx hb dX5_times_126 (by decide +kernel) ?_
          refine lv_icmp_ge (tgt := 149) hx hb dX5_times_128 (by decide) (fun hc128 => ?_) (fun hc128 => ?_)
          · refine lv_aload_n hx hb dX5_times_149 rfl (lv_at hl 1 rfl) ?_
            refine lv_aload_n hx hb dX5_times_150 rfl (lv_at hl 1 rfl) ?_
            refine va_get (D := (dC, dI)) (ci := 6) (v := .ref (ad 15)) (C := RX5) (T := TX5) (N := 36) hx hb hts hinX5 hown hK hP 0 rfl rfl 15 (by decide) (hts (.fieldLink RX5 41 "ResidueRowsModel" "answer" "[J") (by decide +kernel)) (fun _ h9 => h9) rfl dX5_times_151 ?_
            refine cm_i (va_runV (As := [.ref (ad 15)]) (rest := []) ⟨hx, hb, hml, hown, hts⟩ (c_X5_give l dC dI ad ck L ln pr hok H.size (nI 0) (ad 15) (hok.1.2.2 15 (by decide) (by decide))) (cwV 1 hts (gMv (by decide +kernel)) rfl rfl rfl (by decide +kernel) ⟨Nat.le_of_ble_eq_true rfl, Nat.le_of_ble_eq_true rfl⟩) ⟨mP_blind, va_recv hK hP (ci := 6) (q0 := 0) rfl rfl, mP_of hP hK hD⟩ rfl rfl hl.1 rfl (lv_room (Nat.le_of_ble_eq_true rfl)) dX5_times_154 ⟨Nat.le_of_ble_eq_true rfl, Nat.le_of_ble_eq_true rfl⟩) hS (cF hD hS hA) (fun r_11 th_12 gv_13 H locs hw_10 hP hS => ?_)
            obtain ⟨rfl, e9⟩ := hw_10
            dsimp only at e9
            subst e9
            refine W.iret hx hb hr (fun t ht hW => eMi (nI 0) gv_13 ?_ hP ht (hS.F ht)) hS.2.2 dX5_times_157
            exact Or.inl ⟨rfl, ⟨h0, h1⟩, rfl⟩
          · have hj : j < 32 := Nat.lt_of_not_le fun h => hc128 (nI_le h (by omega))
            refine lv_aload_n hx hb dX5_times_131 rfl (lv_at hl 1 rfl) ?_
            refine va_get (D := (dC, dI)) (ci := 6) (v := .ref (ad 15)) (C := RX5) (T := TX5) (N := 36) hx hb hts hinX5 hown hK hP 0 rfl rfl 15 (by decide) (hts (.fieldLink RX5 41 "ResidueRowsModel" "answer" "[J") (by decide +kernel)) (fun _ h9 => h9) rfl dX5_times_132 ?_
            refine lv_iload_n hx hb dX5_times_135 rfl (lv_at hl 0 rfl) ?_
            refine lv_aload_n hx hb dX5_times_136 rfl (lv_at hl 1 rfl) ?_
            refine va_get (D := (dC, dI)) (ci := 6) (v := .ref (ad 12)) (C := RX5) (T := TX5) (N := 36) hx hb hts hinX5 hown hK hP 0 rfl rfl 12 (by decide) (hts (.fieldLink RX5 32 "ResidueRowsModel" "wide" "[J") (by decide +kernel)) (fun _ h9 => h9) rfl dX5_times_137 ?_
            refine lv_iload_n hx hb dX5_times_140 rfl (lv_at hl 0 rfl) ?_
            refine zq_ld hx hb hK hP 0 rfl hok.1.2.1 (vp_in_nI (by omega) (by decide)) dX5_times_141 ?_
            refine zq_st hx hb hK hP hD hS 0 rfl (hok.1.2.2 15 (by decide) (by decide)) (vp_in_nI (by omega) (by decide)) dX5_times_142 (fun H locs hP hS => ?_)
            refine lv_iinc (v := nI (j + 1)) (lv' := [(3, .int (nI (j + 1))), (0, .ref (ad 0))]) hx hb dX5_times_143 hl (k := 0) rfl (nI_1 j) (by decide) rfl (fun ls hl => ?_)
            refine lv_goto (tgt := 125) hx hb dX5_times_146 (by decide) ?_
            exact ih (j + 1) (by omega) (by omega) H locs hP hS ls (lv_sub hl [0, 1] rfl)
      exact LOOP125 33 0 (by decide) (by decide) H locs hP hS ls (lv_sub hl [0, 1] rfl)
    · skip
      refine lv_aload_n hx hb dX5_times_0 rfl (lv_at hl 0 rfl) ?_
      refine lv_aload_n hx hb dX5_times_1 rfl (lv_at hl 0 rfl) ?_
      refine lv_iload_n hx hb dX5_times_2 rfl (lv_at hl 1 rfl) ?_
      refine cc_i (va_runV (As := [.int p0]) (rest := [.ref (ad 0)]) ⟨hx, hb, hml, hown, hts⟩ (c_X5_isRow l dC dI ad ck L ln pr hok H.size th p0) (cwV 1 hts (gMv (by decide +kernel)) rfl rfl rfl (by decide +kernel) ⟨Nat.le_of_ble_eq_true rfl, Nat.le_of_ble_eq_true rfl⟩) ⟨mP_blind, va_recv hK hP (ci := 6) (q0 := 0) rfl rfl, mP_of hP hK hD⟩ rfl rfl hl.1 rfl (lv_room (Nat.le_of_ble_eq_true rfl)) dX5_times_3 ⟨Nat.le_of_ble_eq_true rfl, Nat.le_of_ble_eq_true rfl⟩) hS (cF hD hS hA) (fun r_15 H locs hw_14 hP hS => ?_)
      have e9 : r_15 = nI 1 := hw_14.elim (fun h9 => h9.1) (fun h9 => absurd h0 h9.2)
      subst e9
      refine lv_if_eq (tgt := 17) hx hb dX5_times_6 (by decide) (fun hcc => absurd hcc (by decide +kernel)) (fun _ => ?_)
      refine lv_aload_n hx hb dX5_times_9 rfl (lv_at hl 0 rfl) ?_
      refine lv_iload_n hx hb dX5_times_10 rfl (lv_at hl 2 rfl) ?_
      refine cc_i (va_runV (As := [.int p1]) (rest := [.ref (ad 0)]) ⟨hx, hb, hml, hown, hts⟩ (c_X5_isRow l dC dI ad ck L ln pr hok H.size th p1) (cwV 1 hts (gMv (by decide +kernel)) rfl rfl rfl (by decide +kernel) ⟨Nat.le_of_ble_eq_true rfl, Nat.le_of_ble_eq_true rfl⟩) ⟨mP_blind, va_recv hK hP (ci := 6) (q0 := 0) rfl rfl, mP_of hP hK hD⟩ rfl rfl hl.1 rfl (lv_room (Nat.le_of_ble_eq_true rfl)) dX5_times_11 ⟨Nat.le_of_ble_eq_true rfl, Nat.le_of_ble_eq_true rfl⟩) hS (cF hD hS hA) (fun r_17 H locs hw_16 hP hS => ?_)
      have e9 : r_17 = nI 0 := hw_16.elim (fun h9 => absurd h9.2 h1) (fun h9 => h9.1)
      subst e9
      refine lv_if_ne (tgt := 21) hx hb dX5_times_14 (by decide) (fun hcc => absurd (by decide +kernel) hcc) (fun _ => ?_)
      refine lv_iconst (v := nI 1) hx hb dX5_times_17 (by decide +kernel) ?_
      refine lv_goto (tgt := 35) hx hb dX5_times_18 (by decide) ?_
      refine va_put (D := (dC, dI)) (ci := 6) (v := .int (nI 1)) (ty := .int) (C := RX5) (T := TX5) (N := 36) hx hb hts hinX5 tyX5 tyX5_ok nmX5 hown hK hP hD hS 0 rfl rfl 0 (by decide) (hts (.fieldLink RX5 108 "ResidueRowsModel" "thrown" "I") (by decide +kernel)) (fun _ h9 => h9) rfl (by decide +kernel) rfl rfl (Nat.le_of_ble_eq_true rfl) dX5_times_35 (fun H locs hP hD hS => ?_)
      have hP : va_P (dC, dI) vwCl (mW ad ck L ln pr (nI 1) (nI 0)) H := hP
      have hD : va_D A (mW ad ck L ln pr (nI 1) (nI 0)) := hD
      refine lv_aload_n hx hb dX5_times_38 rfl (lv_at hl 0 rfl) ?_
      refine va_get (D := (dC, dI)) (ci := 6) (v := .int (nI 1)) (C := RX5) (T := TX5) (N := 36) hx hb hts hinX5 hown hK hP 0 rfl rfl 0 (by decide) (hts (.fieldLink RX5 108 "ResidueRowsModel" "thrown" "I") (by decide +kernel)) (fun _ h9 => h9) rfl dX5_times_39 ?_
      refine lv_if_le (tgt := 47) hx hb dX5_times_42 (by decide) (fun hcc => absurd hcc (by decide +kernel)) (fun _ => ?_)
      refine lv_iconst (v := nI 0) hx hb dX5_times_45 (by decide +kernel) ?_
      refine W.iret hx hb hr (fun t ht hW => eMi (nI 1) (nI 0) ?_ (hP.sub [0] rfl) ht (hS.F ht)) hS.2.2 dX5_times_46
      exact Or.inr ⟨rfl, fun h => h1 h.2⟩
  · skip
    refine lv_aload_n hx hb dX5_times_0 rfl (lv_at hl 0 rfl) ?_
    refine lv_aload_n hx hb dX5_times_1 rfl (lv_at hl 0 rfl) ?_
    refine lv_iload_n hx hb dX5_times_2 rfl (lv_at hl 1 rfl) ?_
    refine cc_i (va_runV (As := [.int p0]) (rest := [.ref (ad 0)]) ⟨hx, hb, hml, hown, hts⟩ (c_X5_isRow l dC dI ad ck L ln pr hok H.size th p0) (cwV 1 hts (gMv (by decide +kernel)) rfl rfl rfl (by decide +kernel) ⟨Nat.le_of_ble_eq_true rfl, Nat.le_of_ble_eq_true rfl⟩) ⟨mP_blind, va_recv hK hP (ci := 6) (q0 := 0) rfl rfl, mP_of hP hK hD⟩ rfl rfl hl.1 rfl (lv_room (Nat.le_of_ble_eq_true rfl)) dX5_times_3 ⟨Nat.le_of_ble_eq_true rfl, Nat.le_of_ble_eq_true rfl⟩) hS (cF hD hS hA) (fun r_19 H locs hw_18 hP hS => ?_)
    have e9 : r_19 = nI 0 := hw_18.elim (fun h9 => absurd h9.2 h0) (fun h9 => h9.1)
    subst e9
    refine lv_if_eq (tgt := 17) hx hb dX5_times_6 (by decide) (fun _ => ?_) (fun hcc => absurd (by decide +kernel) hcc)
    refine lv_iconst (v := nI 1) hx hb dX5_times_17 (by decide +kernel) ?_
    refine lv_goto (tgt := 35) hx hb dX5_times_18 (by decide) ?_
    refine va_put (D := (dC, dI)) (ci := 6) (v := .int (nI 1)) (ty := .int) (C := RX5) (T := TX5) (N := 36) hx hb hts hinX5 tyX5 tyX5_ok nmX5 hown hK hP hD hS 0 rfl rfl 0 (by decide) (hts (.fieldLink RX5 108 "ResidueRowsModel" "thrown" "I") (by decide +kernel)) (fun _ h9 => h9) rfl (by decide +kernel) rfl rfl (Nat.le_of_ble_eq_true rfl) dX5_times_35 (fun H locs hP hD hS => ?_)
    have hP : va_P (dC, dI) vwCl (mW ad ck L ln pr (nI 1) (nI 0)) H := hP
    have hD : va_D A (mW ad ck L ln pr (nI 1) (nI 0)) := hD
    refine lv_aload_n hx hb dX5_times_38 rfl (lv_at hl 0 rfl) ?_
    refine va_get (D := (dC, dI)) (ci := 6) (v := .int (nI 1)) (C := RX5) (T := TX5) (N := 36) hx hb hts hinX5 hown hK hP 0 rfl rfl 0 (by decide) (hts (.fieldLink RX5 108 "ResidueRowsModel" "thrown" "I") (by decide +kernel)) (fun _ h9 => h9) rfl dX5_times_39 ?_
    refine lv_if_le (tgt := 47) hx hb dX5_times_42 (by decide) (fun hcc => absurd hcc (by decide +kernel)) (fun _ => ?_)
    refine lv_iconst (v := nI 0) hx hb dX5_times_45 (by decide +kernel) ?_
    refine W.iret hx hb hr (fun t ht hW => eMi (nI 1) (nI 0) ?_ (hP.sub [0] rfl) ht (hS.F ht)) hS.2.2 dX5_times_46
    exact Or.inr ⟨rfl, fun h => h0 h.1⟩

abbrev vX5_gcd : List Cond := .code yX5_gcd cX5_gcd 3 (some .int) :: mWS
set_option maxHeartbeats 4000000 in
set_option maxRecDepth 100000 in
/-- gcd(a, b), the first call -/
theorem c_X5_gcd (l : Launch) (dC : Nat → ClassId) (dI : Nat → Nat → Nat) (ad : Nat → Nat) (ck : Nat → ClassId) (L : List Nat) (ln : Nat → Nat) (pr : Nat) (hok : mOk ad L ln pr) (sz : Nat) (th : Int32) (p0 p1 : Int32) : Met l yX5_gcd vX5_gcd ({ frames := 3, cells := 0, slots := 0, locals := 69 }) (va_Pc [.ref (ad 0), .int p0, .int p1] (mP (dC, dI) ck (mW ad ck L ln pr th (nI 0)) sz)) (va_Qi (fun r u => (u.1 = nI 0 ∧ (inR p0 96 ∧ inR p1 96) ∧ r = nI 0) ∨ (u.1 = nI 1 ∧ ¬ (inR p0 96 ∧ inR p1 96)) : Int32 → Int32 × Int32 → Prop) (fun u t => va_P (dC, dI) vwCl (mO ad pr u.1 u.2) t.heap) (va_A (mW ad ck L ln pr th (nI 0)) sz)) 0 0 (va_A (mW ad ck L ln pr th (nI 0)) sz) := by
  refine Met.ofW (cc := cX5_gcd) (maxL := 3) (ret := (some .int)) (by decide +kernel) rfl ?_
  intro p e s m args below meth c s₁ B hml hv
  obtain ⟨rfl, hsz, hP, hK, hD0⟩ := hv
  have hx := B.exec
  have hb := B.bytes
  have hr := B.returns
  have hts := atoms_spec (ws := vX5_gcd) B.pre
  have hown : s.vm.findClass RX5 = some m.cls := findClass_of_methodNamed B.named
  have hlocks := B.notSynchronized
  subst hsz
  have hD := hD0.self (sz := s.heap.size)
  generalize hAe : va_A (mW ad ck L ln pr th (nI 0)) s.heap.size = A at hD ⊢
  have hA : ∀ q : Nat, s.heap.size ≤ q → A q := fun q h => by rw [← hAe]; exact Or.inr h
  have hS : va_S A s.heap s.heap [] := va_S.rf
  have hinX5 : ∀ w ∈ wsX50, w ∈ vX5_gcd := fun w h => List.mem_cons_of_mem _ (inMX5 w h)
  have hpr2 := hok.2.1.1
  have hpr31 := hok.2.2
  have hl := lv_entry ([.ref (ad 0), .int p0, .int p1]) (n := 3) (Nat.le_of_ble_eq_true rfl)
  rw [lg_entry_eq]
  generalize (lg_sl ([.ref (ad 0), .int p0, .int p1]) ++ List.replicate (3 - (lg_sl ([.ref (ad 0), .int p0, .int p1])).length) Slot.unset).toArray = ls at hl ⊢
  have hl : lv_has ls 3 [(0, .ref (ad 0)), (1, .int p0), (2, .int p1)] := hl
  obtain ⟨H, hHe⟩ : ∃ H : Heap, H = s.heap := ⟨_, rfl⟩
  have hP : va_P (dC, dI) vwCl (mW ad ck L ln pr th (nI 0)) H := by rw [hHe]; exact hP
  have hS : va_S A s.heap H [] := by rw [hHe]; exact hS
  suffices hgo : W p l e (headSpec vX5_gcd ({ frames := 3, cells := 0, slots := 0, locals := 69 })).room s m ([.ref (ad 0), .int p0, .int p1] : List Value).toArray below meth c H [] 0 0 (MQ below (va_Qi (fun r u => (u.1 = nI 0 ∧ (inR p0 96 ∧ inR p1 96) ∧ r = nI 0) ∨ (u.1 = nI 1 ∧ ¬ (inR p0 96 ∧ inR p1 96)) : Int32 → Int32 × Int32 → Prop) (fun u t => va_P (dC, dI) vwCl (mO ad pr u.1 u.2) t.heap) A) ([.ref (ad 0), .int p0, .int p1] : List Value).toArray s 0 0 A) (F0 m 0 ls []) by rw [hHe] at hgo; exact hgo
  by_cases h0 : inR p0 96
  · skip
    by_cases h1 : inR p1 96
    · skip
      obtain ⟨i, hi, rfl⟩ := id h0
      obtain ⟨k, hk, rfl⟩ := id h1
      refine lv_aload_n hx hb dX5_gcd_0 rfl (lv_at hl 0 rfl) ?_
      refine lv_aload_n hx hb dX5_gcd_1 rfl (lv_at hl 0 rfl) ?_
      refine lv_iload_n hx hb dX5_gcd_2 rfl (lv_at hl 1 rfl) ?_
      refine cc_i (va_runV (As := [.int (nI i)]) (rest := [.ref (ad 0)]) ⟨hx, hb, hml, hown, hts⟩ (c_X5_isRow l dC dI ad ck L ln pr hok H.size th (nI i)) (cwV 1 hts (gMv (by decide +kernel)) rfl rfl rfl (by decide +kernel) ⟨Nat.le_of_ble_eq_true rfl, Nat.le_of_ble_eq_true rfl⟩) ⟨mP_blind, va_recv hK hP (ci := 6) (q0 := 0) rfl rfl, mP_of hP hK hD⟩ rfl rfl hl.1 rfl (lv_room (Nat.le_of_ble_eq_true rfl)) dX5_gcd_3 ⟨Nat.le_of_ble_eq_true rfl, Nat.le_of_ble_eq_true rfl⟩) hS (cF hD hS hA) (fun r_2 H locs hw_1 hP hS => ?_)
      have e9 : r_2 = nI 1 := hw_1.elim (fun h9 => h9.1) (fun h9 => absurd h0 h9.2)
      subst e9
      refine lv_if_eq (tgt := 17) hx hb dX5_gcd_6 (by decide) (fun hcc => absurd hcc (by decide +kernel)) (fun _ => ?_)
      refine lv_aload_n hx hb dX5_gcd_9 rfl (lv_at hl 0 rfl) ?_
      refine lv_iload_n hx hb dX5_gcd_10 rfl (lv_at hl 2 rfl) ?_
      refine cc_i (va_runV (As := [.int (nI k)]) (rest := [.ref (ad 0)]) ⟨hx, hb, hml, hown, hts⟩ (c_X5_isRow l dC dI ad ck L ln pr hok H.size th (nI k)) (cwV 1 hts (gMv (by decide +kernel)) rfl rfl rfl (by decide +kernel) ⟨Nat.le_of_ble_eq_true rfl, Nat.le_of_ble_eq_true rfl⟩) ⟨mP_blind, va_recv hK hP (ci := 6) (q0 := 0) rfl rfl, mP_of hP hK hD⟩ rfl rfl hl.1 rfl (lv_room (Nat.le_of_ble_eq_true rfl)) dX5_gcd_11 ⟨Nat.le_of_ble_eq_true rfl, Nat.le_of_ble_eq_true rfl⟩) hS (cF hD hS hA) (fun r_4 H locs hw_3 hP hS => ?_)
      have e9 : r_4 = nI 1 := hw_3.elim (fun h9 => h9.1) (fun h9 => absurd h1 h9.2)
      subst e9
      refine lv_if_ne (tgt := 21) hx hb dX5_gcd_14 (by decide) (fun _ => ?_) (fun hcc => absurd hcc (by decide +kernel))
      refine lv_aload_n hx hb dX5_gcd_21 rfl (lv_at hl 0 rfl) ?_
      refine va_get (D := (dC, dI)) (ci := 6) (v := .int (nI 0)) (C := RX5) (T := TX5) (N := 36) hx hb hts hinX5 hown hK hP 0 rfl rfl 3 (by decide) (hts (.fieldLink RX5 112 "ResidueRowsModel" "given" "I") (by decide +kernel)) (fun _ h9 => h9) rfl dX5_gcd_22 ?_
      refine lv_bipush (v := nI 96) hx hb dX5_gcd_25 (by decide +kernel) ?_
      refine lv_icmp_ne (tgt := 34) hx hb dX5_gcd_27 (by decide) (fun _ => ?_) (fun hcc => absurd hcc (by decide +kernel))
      refine lv_iconst (v := nI 0) hx hb dX5_gcd_34 (by decide +kernel) ?_
      refine va_put (D := (dC, dI)) (ci := 6) (v := .int (nI 0)) (ty := .int) (C := RX5) (T := TX5) (N := 36) hx hb hts hinX5 tyX5 tyX5_ok nmX5 hown hK hP hD hS 0 rfl rfl 0 (by decide) (hts (.fieldLink RX5 108 "ResidueRowsModel" "thrown" "I") (by decide +kernel)) (fun _ h9 => h9) rfl (by decide +kernel) rfl rfl (Nat.le_of_ble_eq_true rfl) dX5_gcd_35 (fun H locs hP hD hS => ?_)
      have hP : va_P (dC, dI) vwCl (mW ad ck L ln pr (nI 0) (nI 0)) H := hP
      have hD : va_D A (mW ad ck L ln pr (nI 0) (nI 0)) := hD
      refine lv_aload_n hx hb dX5_gcd_38 rfl (lv_at hl 0 rfl) ?_
      refine va_get (D := (dC, dI)) (ci := 6) (v := .int (nI 0)) (C := RX5) (T := TX5) (N := 36) hx hb hts hinX5 hown hK hP 0 rfl rfl 0 (by decide) (hts (.fieldLink RX5 108 "ResidueRowsModel" "thrown" "I") (by decide +kernel)) (fun _ h9 => h9) rfl dX5_gcd_39 ?_
      refine lv_if_le (tgt := 47) hx hb dX5_gcd_42 (by decide) (fun _ => ?_) (fun hcc => absurd (by decide +kernel) hcc)
      refine lv_aload_n hx hb dX5_gcd_47 rfl (lv_at hl 0 rfl) ?_
      refine lv_iload_n hx hb dX5_gcd_48 rfl (lv_at hl 1 rfl) ?_
      refine lv_aload_n hx hb dX5_gcd_49 rfl (lv_at hl 0 rfl) ?_
      refine va_get (D := (dC, dI)) (ci := 6) (v := .ref (ad 13)) (C := RX5) (T := TX5) (N := 36) hx hb hts hinX5 hown hK hP 0 rfl rfl 13 (by decide) (hts (.fieldLink RX5 35 "ResidueRowsModel" "one" "[J") (by decide +kernel)) (fun _ h9 => h9) rfl dX5_gcd_50 ?_
      refine cc_v (va_runV (As := [.int (nI i), .ref (ad 13)]) (rest := []) ⟨hx, hb, hml, hown, hts⟩ (c_X5_take l dC dI ad ck L ln pr hok H.size (nI 0) i hi (ad 13) (hok.1.2.2 13 (by decide) (by decide))) (cwV 2 hts (gMv (by decide +kernel)) rfl rfl rfl (by decide +kernel) ⟨Nat.le_of_ble_eq_true rfl, Nat.le_of_ble_eq_true rfl⟩) ⟨mP_blind, va_recv hK hP (ci := 6) (q0 := 0) rfl rfl, mP_of hP hK hD⟩ rfl rfl hl.1 rfl (lv_room (Nat.le_of_ble_eq_true rfl)) dX5_gcd_53 ⟨Nat.le_of_ble_eq_true rfl, Nat.le_of_ble_eq_true rfl⟩) hS (cF hD hS hA) (fun H locs hw_5 hP hS => ?_)
      refine lv_aload_n hx hb dX5_gcd_56 rfl (lv_at hl 0 rfl) ?_
      refine lv_iload_n hx hb dX5_gcd_57 rfl (lv_at hl 2 rfl) ?_
      refine lv_aload_n hx hb dX5_gcd_58 rfl (lv_at hl 0 rfl) ?_
      refine va_get (D := (dC, dI)) (ci := 6) (v := .ref (ad 14)) (C := RX5) (T := TX5) (N := 36) hx hb hts hinX5 hown hK hP 0 rfl rfl 14 (by decide) (hts (.fieldLink RX5 38 "ResidueRowsModel" "two" "[J") (by decide +kernel)) (fun _ h9 => h9) rfl dX5_gcd_59 ?_
      refine cc_v (va_runV (As := [.int (nI k), .ref (ad 14)]) (rest := []) ⟨hx, hb, hml, hown, hts⟩ (c_X5_take l dC dI ad ck L ln pr hok H.size (nI 0) k hk (ad 14) (hok.1.2.2 14 (by decide) (by decide))) (cwV 2 hts (gMv (by decide +kernel)) rfl rfl rfl (by decide +kernel) ⟨Nat.le_of_ble_eq_true rfl, Nat.le_of_ble_eq_true rfl⟩) ⟨mP_blind, va_recv hK hP (ci := 6) (q0 := 0) rfl rfl, mP_of hP hK hD⟩ rfl rfl hl.1 rfl (lv_room (Nat.le_of_ble_eq_true rfl)) dX5_gcd_62 ⟨Nat.le_of_ble_eq_true rfl, Nat.le_of_ble_eq_true rfl⟩) hS (cF hD hS hA) (fun H locs hw_6 hP hS => ?_)
      refine lv_aload_n hx hb dX5_gcd_65 rfl (lv_at hl 0 rfl) ?_
      refine lv_aload_n hx hb dX5_gcd_66 rfl (lv_at hl 0 rfl) ?_
      refine va_get (D := (dC, dI)) (ci := 6) (v := .ref (ad 13)) (C := RX5) (T := TX5) (N := 36) hx hb hts hinX5 hown hK hP 0 rfl rfl 13 (by decide) (hts (.fieldLink RX5 35 "ResidueRowsModel" "one" "[J") (by decide +kernel)) (fun _ h9 => h9) rfl dX5_gcd_67 ?_
      refine lv_aload_n hx hb dX5_gcd_70 rfl (lv_at hl 0 rfl) ?_
      refine va_get (D := (dC, dI)) (ci := 6) (v := .ref (ad 14)) (C := RX5) (T := TX5) (N := 36) hx hb hts hinX5 hown hK hP 0 rfl rfl 14 (by decide) (hts (.fieldLink RX5 38 "ResidueRowsModel" "two" "[J") (by decide +kernel)) (fun _ h9 => h9) rfl dX5_gcd_71 ?_
      refine lv_aload_n hx hb dX5_gcd_74 rfl (lv_at hl 0 rfl) ?_
      refine va_get (D := (dC, dI)) (ci := 6) (v := .ref (ad 15)) (C := RX5) (T := TX5) (N := 36) hx hb hts hinX5 hown hK hP 0 rfl rfl 15 (by decide) (hts (.fieldLink RX5 41 "ResidueRowsModel" "answer" "[J") (by decide +kernel)) (fun _ h9 => h9) rfl dX5_gcd_75 ?_
      refine cc_v (va_runV (As := [.ref (ad 13), .ref (ad 14), .ref (ad 15)]) (rest := []) ⟨hx, hb, hml, hown, hts⟩ (c_X5_divisor l dC dI ad ck L ln pr hok H.size (nI 0) (ad 13) (ad 14) (ad 15) (hok.1.2.2 13 (by decide) (by decide)) (hok.1.2.2 14 (by decide) (by decide)) (hok.1.2.2 15 (by decide) (by decide))) (cwV 3 hts (gMv (by decide +kernel)) rfl rfl rfl (by decide +kernel) ⟨Nat.le_of_ble_eq_true rfl, Nat.le_of_ble_eq_true rfl⟩) ⟨mP_blind, va_recv hK hP (ci := 6) (q0 := 0) rfl rfl, mP_of hP hK hD⟩ rfl rfl hl.1 rfl (lv_room (Nat.le_of_ble_eq_true rfl)) dX5_gcd_78 ⟨Nat.le_of_ble_eq_true rfl, Nat.le_of_ble_eq_true rfl⟩) hS (cF hD hS hA) (fun H locs hw_7 hP hS => ?_)
      refine lv_aload_n hx hb dX5_gcd_81 rfl (lv_at hl 0 rfl) ?_
      refine lv_aload_n hx hb dX5_gcd_82 rfl (lv_at hl 0 rfl) ?_
      refine va_get (D := (dC, dI)) (ci := 6) (v := .ref (ad 15)) (C := RX5) (T := TX5) (N := 36) hx hb hts hinX5 hown hK hP 0 rfl rfl 15 (by decide) (hts (.fieldLink RX5 41 "ResidueRowsModel" "answer" "[J") (by decide +kernel)) (fun _ h9 => h9) rfl dX5_gcd_83 ?_
      refine cm_i (va_runV (As := [.ref (ad 15)]) (rest := []) ⟨hx, hb, hml, hown, hts⟩ (c_X5_give l dC dI ad ck L ln pr hok H.size (nI 0) (ad 15) (hok.1.2.2 15 (by decide) (by decide))) (cwV 1 hts (gMv (by decide +kernel)) rfl rfl rfl (by decide +kernel) ⟨Nat.le_of_ble_eq_true rfl, Nat.le_of_ble_eq_true rfl⟩) ⟨mP_blind, va_recv hK hP (ci := 6) (q0 := 0) rfl rfl, mP_of hP hK hD⟩ rfl rfl hl.1 rfl (lv_room (Nat.le_of_ble_eq_true rfl)) dX5_gcd_86 ⟨Nat.le_of_ble_eq_true rfl, Nat.le_of_ble_eq_true rfl⟩) hS (cF hD hS hA) (fun r_9 th_10 gv_11 H locs hw_8 hP hS => ?_)
      obtain ⟨rfl, e9⟩ := hw_8
      dsimp only at e9
      subst e9
      refine W.iret hx hb hr (fun t ht hW => eMi (nI 0) gv_11 ?_ hP ht (hS.F ht)) hS.2.2 dX5_gcd_89
      exact Or.inl ⟨rfl, ⟨h0, h1⟩, rfl⟩
    · skip
      refine lv_aload_n hx hb dX5_gcd_0 rfl (lv_at hl 0 rfl) ?_
      refine lv_aload_n hx hb dX5_gcd_1 rfl (lv_at hl 0 rfl) ?_
      refine lv_iload_n hx hb dX5_gcd_2 rfl (lv_at hl 1 rfl) ?_
      refine cc_i (va_runV (As := [.int p0]) (rest := [.ref (ad 0)]) ⟨hx, hb, hml, hown, hts⟩ (c_X5_isRow l dC dI ad ck L ln pr hok H.size th p0) (cwV 1 hts (gMv (by decide +kernel)) rfl rfl rfl (by decide +kernel) ⟨Nat.le_of_ble_eq_true rfl, Nat.le_of_ble_eq_true rfl⟩) ⟨mP_blind, va_recv hK hP (ci := 6) (q0 := 0) rfl rfl, mP_of hP hK hD⟩ rfl rfl hl.1 rfl (lv_room (Nat.le_of_ble_eq_true rfl)) dX5_gcd_3 ⟨Nat.le_of_ble_eq_true rfl, Nat.le_of_ble_eq_true rfl⟩) hS (cF hD hS hA) (fun r_13 H locs hw_12 hP hS => ?_)
      have e9 : r_13 = nI 1 := hw_12.elim (fun h9 => h9.1) (fun h9 => absurd h0 h9.2)
      subst e9
      refine lv_if_eq (tgt := 17) hx hb dX5_gcd_6 (by decide) (fun hcc => absurd hcc (by decide +kernel)) (fun _ => ?_)
      refine lv_aload_n hx hb dX5_gcd_9 rfl (lv_at hl 0 rfl) ?_
      refine lv_iload_n hx hb dX5_gcd_10 rfl (lv_at hl 2 rfl) ?_
      refine cc_i (va_runV (As := [.int p1]) (rest := [.ref (ad 0)]) ⟨hx, hb, hml, hown, hts⟩ (c_X5_isRow l dC dI ad ck L ln pr hok H.size th p1) (cwV 1 hts (gMv (by decide +kernel)) rfl rfl rfl (by decide +kernel) ⟨Nat.le_of_ble_eq_true rfl, Nat.le_of_ble_eq_true rfl⟩) ⟨mP_blind, va_recv hK hP (ci := 6) (q0 := 0) rfl rfl, mP_of hP hK hD⟩ rfl rfl hl.1 rfl (lv_room (Nat.le_of_ble_eq_true rfl)) dX5_gcd_11 ⟨Nat.le_of_ble_eq_true rfl, Nat.le_of_ble_eq_true rfl⟩) hS (cF hD hS hA) (fun r_15 H locs hw_14 hP hS => ?_)
      have e9 : r_15 = nI 0 := hw_14.elim (fun h9 => absurd h9.2 h1) (fun h9 => h9.1)
      subst e9
      refine lv_if_ne (tgt := 21) hx hb dX5_gcd_14 (by decide) (fun hcc => absurd (by decide +kernel) hcc) (fun _ => ?_)
      refine lv_iconst (v := nI 1) hx hb dX5_gcd_17 (by decide +kernel) ?_
      refine lv_goto (tgt := 35) hx hb dX5_gcd_18 (by decide) ?_
      refine va_put (D := (dC, dI)) (ci := 6) (v := .int (nI 1)) (ty := .int) (C := RX5) (T := TX5) (N := 36) hx hb hts hinX5 tyX5 tyX5_ok nmX5 hown hK hP hD hS 0 rfl rfl 0 (by decide) (hts (.fieldLink RX5 108 "ResidueRowsModel" "thrown" "I") (by decide +kernel)) (fun _ h9 => h9) rfl (by decide +kernel) rfl rfl (Nat.le_of_ble_eq_true rfl) dX5_gcd_35 (fun H locs hP hD hS => ?_)
      have hP : va_P (dC, dI) vwCl (mW ad ck L ln pr (nI 1) (nI 0)) H := hP
      have hD : va_D A (mW ad ck L ln pr (nI 1) (nI 0)) := hD
      refine lv_aload_n hx hb dX5_gcd_38 rfl (lv_at hl 0 rfl) ?_
      refine va_get (D := (dC, dI)) (ci := 6) (v := .int (nI 1)) (C := RX5) (T := TX5) (N := 36) hx hb hts hinX5 hown hK hP 0 rfl rfl 0 (by decide) (hts (.fieldLink RX5 108 "ResidueRowsModel" "thrown" "I") (by decide +kernel)) (fun _ h9 => h9) rfl dX5_gcd_39 ?_
      refine lv_if_le (tgt := 47) hx hb dX5_gcd_42 (by decide) (fun hcc => absurd hcc (by decide +kernel)) (fun _ => ?_)
      refine lv_iconst (v := nI 0) hx hb dX5_gcd_45 (by decide +kernel) ?_
      refine W.iret hx hb hr (fun t ht hW => eMi (nI 1) (nI 0) ?_ (hP.sub [0] rfl) ht (hS.F ht)) hS.2.2 dX5_gcd_46
      exact Or.inr ⟨rfl, fun h => h1 h.2⟩
  · skip
    refine lv_aload_n hx hb dX5_gcd_0 rfl (lv_at hl 0 rfl) ?_
    refine lv_aload_n hx hb dX5_gcd_1 rfl (lv_at hl 0 rfl) ?_
    refine lv_iload_n hx hb dX5_gcd_2 rfl (lv_at hl 1 rfl) ?_
    refine cc_i (va_runV (As := [.int p0]) (rest := [.ref (ad 0)]) ⟨hx, hb, hml, hown, hts⟩ (c_X5_isRow l dC dI ad ck L ln pr hok H.size th p0) (cwV 1 hts (gMv (by decide +kernel)) rfl rfl rfl (by decide +kernel) ⟨Nat.le_of_ble_eq_true rfl, Nat.le_of_ble_eq_true rfl⟩) ⟨mP_blind, va_recv hK hP (ci := 6) (q0 := 0) rfl rfl, mP_of hP hK hD⟩ rfl rfl hl.1 rfl (lv_room (Nat.le_of_ble_eq_true rfl)) dX5_gcd_3 ⟨Nat.le_of_ble_eq_true rfl, Nat.le_of_ble_eq_true rfl⟩) hS (cF hD hS hA) (fun r_17 H locs hw_16 hP hS => ?_)
    have e9 : r_17 = nI 0 := hw_16.elim (fun h9 => absurd h9.2 h0) (fun h9 => h9.1)
    subst e9
    refine lv_if_eq (tgt := 17) hx hb dX5_gcd_6 (by decide) (fun _ => ?_) (fun hcc => absurd (by decide +kernel) hcc)
    refine lv_iconst (v := nI 1) hx hb dX5_gcd_17 (by decide +kernel) ?_
    refine lv_goto (tgt := 35) hx hb dX5_gcd_18 (by decide) ?_
    refine va_put (D := (dC, dI)) (ci := 6) (v := .int (nI 1)) (ty := .int) (C := RX5) (T := TX5) (N := 36) hx hb hts hinX5 tyX5 tyX5_ok nmX5 hown hK hP hD hS 0 rfl rfl 0 (by decide) (hts (.fieldLink RX5 108 "ResidueRowsModel" "thrown" "I") (by decide +kernel)) (fun _ h9 => h9) rfl (by decide +kernel) rfl rfl (Nat.le_of_ble_eq_true rfl) dX5_gcd_35 (fun H locs hP hD hS => ?_)
    have hP : va_P (dC, dI) vwCl (mW ad ck L ln pr (nI 1) (nI 0)) H := hP
    have hD : va_D A (mW ad ck L ln pr (nI 1) (nI 0)) := hD
    refine lv_aload_n hx hb dX5_gcd_38 rfl (lv_at hl 0 rfl) ?_
    refine va_get (D := (dC, dI)) (ci := 6) (v := .int (nI 1)) (C := RX5) (T := TX5) (N := 36) hx hb hts hinX5 hown hK hP 0 rfl rfl 0 (by decide) (hts (.fieldLink RX5 108 "ResidueRowsModel" "thrown" "I") (by decide +kernel)) (fun _ h9 => h9) rfl dX5_gcd_39 ?_
    refine lv_if_le (tgt := 47) hx hb dX5_gcd_42 (by decide) (fun hcc => absurd hcc (by decide +kernel)) (fun _ => ?_)
    refine lv_iconst (v := nI 0) hx hb dX5_gcd_45 (by decide +kernel) ?_
    refine W.iret hx hb hr (fun t ht hW => eMi (nI 1) (nI 0) ?_ (hP.sub [0] rfl) ht (hS.F ht)) hS.2.2 dX5_gcd_46
    exact Or.inr ⟨rfl, fun h => h0 h.1⟩

abbrev vX5_over : List Cond := .code yX5_over cX5_over 4 (some .int) :: mWS
set_option maxHeartbeats 4000000 in
set_option maxRecDepth 100000 in
/-- over(a, b, what), the first call: always refused -/
theorem c_X5_over (l : Launch) (dC : Nat → ClassId) (dI : Nat → Nat → Nat) (ad : Nat → Nat) (ck : Nat → ClassId) (L : List Nat) (ln : Nat → Nat) (pr : Nat) (hok : mOk ad L ln pr) (sz : Nat) (th : Int32) (p0 p1 p2 : Int32) : Met l yX5_over vX5_over ({ frames := 1, cells := 0, slots := 0, locals := 23 }) (va_Pc [.ref (ad 0), .int p0, .int p1, .int p2] (mP (dC, dI) ck (mW ad ck L ln pr th (nI 0)) sz)) (va_Qi (fun _ u => (u.1 = nI 1 ∧ ¬ (inR p0 96 ∧ inR p1 96)) ∨ (u.1 = nI 3 ∧ (inR p0 96 ∧ inR p1 96) ∧ ¬ (p2 = 0 ∨ p2 = nI 1)) ∨ (u.1 = nI 4 ∧ (inR p0 96 ∧ inR p1 96) ∧ (p2 = 0 ∨ p2 = nI 1)) : Int32 → Int32 × Int32 → Prop) (fun u t => va_P (dC, dI) vwCl (mO ad pr u.1 u.2) t.heap) (va_A (mW ad ck L ln pr th (nI 0)) sz)) 0 0 (va_A (mW ad ck L ln pr th (nI 0)) sz) := by
  refine Met.ofW (cc := cX5_over) (maxL := 4) (ret := (some .int)) (by decide +kernel) rfl ?_
  intro p e s m args below meth c s₁ B hml hv
  obtain ⟨rfl, hsz, hP, hK, hD0⟩ := hv
  have hx := B.exec
  have hb := B.bytes
  have hr := B.returns
  have hts := atoms_spec (ws := vX5_over) B.pre
  have hown : s.vm.findClass RX5 = some m.cls := findClass_of_methodNamed B.named
  have hlocks := B.notSynchronized
  subst hsz
  have hD := hD0.self (sz := s.heap.size)
  generalize hAe : va_A (mW ad ck L ln pr th (nI 0)) s.heap.size = A at hD ⊢
  have hA : ∀ q : Nat, s.heap.size ≤ q → A q := fun q h => by rw [← hAe]; exact Or.inr h
  have hS : va_S A s.heap s.heap [] := va_S.rf
  have hinX5 : ∀ w ∈ wsX50, w ∈ vX5_over := fun w h => List.mem_cons_of_mem _ (inMX5 w h)
  have hpr2 := hok.2.1.1
  have hpr31 := hok.2.2
  have hl := lv_entry ([.ref (ad 0), .int p0, .int p1, .int p2]) (n := 4) (Nat.le_of_ble_eq_true rfl)
  rw [lg_entry_eq]
  generalize (lg_sl ([.ref (ad 0), .int p0, .int p1, .int p2]) ++ List.replicate (4 - (lg_sl ([.ref (ad 0), .int p0, .int p1, .int p2])).length) Slot.unset).toArray = ls at hl ⊢
  have hl : lv_has ls 4 [(0, .ref (ad 0)), (1, .int p0), (2, .int p1), (3, .int p2)] := hl
  obtain ⟨H, hHe⟩ : ∃ H : Heap, H = s.heap := ⟨_, rfl⟩
  have hP : va_P (dC, dI) vwCl (mW ad ck L ln pr th (nI 0)) H := by rw [hHe]; exact hP
  have hS : va_S A s.heap H [] := by rw [hHe]; exact hS
  suffices hgo : W p l e (headSpec vX5_over ({ frames := 1, cells := 0, slots := 0, locals := 23 })).room s m ([.ref (ad 0), .int p0, .int p1, .int p2] : List Value).toArray below meth c H [] 0 0 (MQ below (va_Qi (fun _ u => (u.1 = nI 1 ∧ ¬ (inR p0 96 ∧ inR p1 96)) ∨ (u.1 = nI 3 ∧ (inR p0 96 ∧ inR p1 96) ∧ ¬ (p2 = 0 ∨ p2 = nI 1)) ∨ (u.1 = nI 4 ∧ (inR p0 96 ∧ inR p1 96) ∧ (p2 = 0 ∨ p2 = nI 1)) : Int32 → Int32 × Int32 → Prop) (fun u t => va_P (dC, dI) vwCl (mO ad pr u.1 u.2) t.heap) A) ([.ref (ad 0), .int p0, .int p1, .int p2] : List Value).toArray s 0 0 A) (F0 m 0 ls []) by rw [hHe] at hgo; exact hgo
  by_cases h0 : inR p0 96
  · skip
    by_cases h1 : inR p1 96
    · skip
      obtain ⟨i, hi, rfl⟩ := id h0
      obtain ⟨k, hk, rfl⟩ := id h1
      refine lv_aload_n hx hb dX5_over_0 rfl (lv_at hl 0 rfl) ?_
      refine lv_aload_n hx hb dX5_over_1 rfl (lv_at hl 0 rfl) ?_
      refine lv_iload_n hx hb dX5_over_2 rfl (lv_at hl 1 rfl) ?_
      refine cc_i (va_runV (As := [.int (nI i)]) (rest := [.ref (ad 0)]) ⟨hx, hb, hml, hown, hts⟩ (c_X5_isRow l dC dI ad ck L ln pr hok H.size th (nI i)) (cwV 1 hts (gMv (by decide +kernel)) rfl rfl rfl (by decide +kernel) ⟨Nat.le_of_ble_eq_true rfl, Nat.le_of_ble_eq_true rfl⟩) ⟨mP_blind, va_recv hK hP (ci := 6) (q0 := 0) rfl rfl, mP_of hP hK hD⟩ rfl rfl hl.1 rfl (lv_room (Nat.le_of_ble_eq_true rfl)) dX5_over_3 ⟨Nat.le_of_ble_eq_true rfl, Nat.le_of_ble_eq_true rfl⟩) hS (cF hD hS hA) (fun r_2 H locs hw_1 hP hS => ?_)
      have e9 : r_2 = nI 1 := hw_1.elim (fun h9 => h9.1) (fun h9 => absurd h0 h9.2)
      subst e9
      refine lv_if_eq (tgt := 17) hx hb dX5_over_6 (by decide) (fun hcc => absurd hcc (by decide +kernel)) (fun _ => ?_)
      refine lv_aload_n hx hb dX5_over_9 rfl (lv_at hl 0 rfl) ?_
      refine lv_iload_n hx hb dX5_over_10 rfl (lv_at hl 2 rfl) ?_
      refine cc_i (va_runV (As := [.int (nI k)]) (rest := [.ref (ad 0)]) ⟨hx, hb, hml, hown, hts⟩ (c_X5_isRow l dC dI ad ck L ln pr hok H.size th (nI k)) (cwV 1 hts (gMv (by decide +kernel)) rfl rfl rfl (by decide +kernel) ⟨Nat.le_of_ble_eq_true rfl, Nat.le_of_ble_eq_true rfl⟩) ⟨mP_blind, va_recv hK hP (ci := 6) (q0 := 0) rfl rfl, mP_of hP hK hD⟩ rfl rfl hl.1 rfl (lv_room (Nat.le_of_ble_eq_true rfl)) dX5_over_11 ⟨Nat.le_of_ble_eq_true rfl, Nat.le_of_ble_eq_true rfl⟩) hS (cF hD hS hA) (fun r_4 H locs hw_3 hP hS => ?_)
      have e9 : r_4 = nI 1 := hw_3.elim (fun h9 => h9.1) (fun h9 => absurd h1 h9.2)
      subst e9
      refine lv_if_ne (tgt := 21) hx hb dX5_over_14 (by decide) (fun _ => ?_) (fun hcc => absurd hcc (by decide +kernel))
      refine lv_aload_n hx hb dX5_over_21 rfl (lv_at hl 0 rfl) ?_
      refine va_get (D := (dC, dI)) (ci := 6) (v := .int (nI 0)) (C := RX5) (T := TX5) (N := 36) hx hb hts hinX5 hown hK hP 0 rfl rfl 3 (by decide) (hts (.fieldLink RX5 112 "ResidueRowsModel" "given" "I") (by decide +kernel)) (fun _ h9 => h9) rfl dX5_over_22 ?_
      refine lv_bipush (v := nI 96) hx hb dX5_over_25 (by decide +kernel) ?_
      refine lv_icmp_ne (tgt := 34) hx hb dX5_over_27 (by decide) (fun _ => ?_) (fun hcc => absurd hcc (by decide +kernel))
      refine lv_iload_n hx hb dX5_over_34 rfl (lv_at hl 3 rfl) ?_
      refine lv_if_lt (tgt := 43) hx hb dX5_over_35 (by decide) (fun hc35 => ?_) (fun hc35 => ?_)
      · have hw9 : ¬ (p2 = 0 ∨ p2 = nI 1) := by rintro (h | h) <;> rw [h] at hc35 <;> exact absurd hc35 (by decide +kernel)
        refine lv_iconst (v := nI 3) hx hb dX5_over_43 (by decide +kernel) ?_
        refine lv_goto (tgt := 48) hx hb dX5_over_44 (by decide) ?_
        refine va_put (D := (dC, dI)) (ci := 6) (v := .int (nI 3)) (ty := .int) (C := RX5) (T := TX5) (N := 36) hx hb hts hinX5 tyX5 tyX5_ok nmX5 hown hK hP hD hS 0 rfl rfl 0 (by decide) (hts (.fieldLink RX5 108 "ResidueRowsModel" "thrown" "I") (by decide +kernel)) (fun _ h9 => h9) rfl (by decide +kernel) rfl rfl (Nat.le_of_ble_eq_true rfl) dX5_over_48 (fun H locs hP hD hS => ?_)
        have hP : va_P (dC, dI) vwCl (mW ad ck L ln pr (nI 3) (nI 0)) H := hP
        have hD : va_D A (mW ad ck L ln pr (nI 3) (nI 0)) := hD
        refine lv_aload_n hx hb dX5_over_51 rfl (lv_at hl 0 rfl) ?_
        refine va_get (D := (dC, dI)) (ci := 6) (v := .int (nI 3)) (C := RX5) (T := TX5) (N := 36) hx hb hts hinX5 hown hK hP 0 rfl rfl 0 (by decide) (hts (.fieldLink RX5 108 "ResidueRowsModel" "thrown" "I") (by decide +kernel)) (fun _ h9 => h9) rfl dX5_over_52 ?_
        refine lv_if_le (tgt := 60) hx hb dX5_over_55 (by decide) (fun hcc => absurd hcc (by decide +kernel)) (fun _ => ?_)
        refine lv_iconst (v := nI 0) hx hb dX5_over_58 (by decide +kernel) ?_
        refine W.iret hx hb hr (fun t ht hW => eMi (nI 3) (nI 0) ?_ (hP.sub [0] rfl) ht (hS.F ht)) hS.2.2 dX5_over_59
        exact Or.inr (Or.inl ⟨rfl, ⟨h0, h1⟩, hw9⟩)
      · refine lv_iload_n hx hb dX5_over_38 rfl (lv_at hl 3 rfl) ?_
        refine lv_iconst (v := nI 1) hx hb dX5_over_39 (by decide +kernel) ?_
        refine lv_icmp_le (tgt := 47) hx hb dX5_over_40 (by decide) (fun hc40 => ?_) (fun hc40 => ?_)
        · have hw9 : p2 = 0 ∨ p2 = nI 1 := by
            obtain ⟨j, hj, rfl⟩ := nI_of hc35
            have h9 := (nI_leI hj (by decide)).mp hc40
            rcases (show j = 0 ∨ j = 1 by omega) with h | h
            · exact Or.inl (by rw [h]; exact nI_0)
            · exact Or.inr (by rw [h])
          refine lv_iconst (v := nI 0) hx hb dX5_over_47 (by decide +kernel) ?_
          refine va_put (D := (dC, dI)) (ci := 6) (v := .int (nI 0)) (ty := .int) (C := RX5) (T := TX5) (N := 36) hx hb hts hinX5 tyX5 tyX5_ok nmX5 hown hK hP hD hS 0 rfl rfl 0 (by decide) (hts (.fieldLink RX5 108 "ResidueRowsModel" "thrown" "I") (by decide +kernel)) (fun _ h9 => h9) rfl (by decide +kernel) rfl rfl (Nat.le_of_ble_eq_true rfl) dX5_over_48 (fun H locs hP hD hS => ?_)
          have hP : va_P (dC, dI) vwCl (mW ad ck L ln pr (nI 0) (nI 0)) H := hP
          have hD : va_D A (mW ad ck L ln pr (nI 0) (nI 0)) := hD
          refine lv_aload_n hx hb dX5_over_51 rfl (lv_at hl 0 rfl) ?_
          refine va_get (D := (dC, dI)) (ci := 6) (v := .int (nI 0)) (C := RX5) (T := TX5) (N := 36) hx hb hts hinX5 hown hK hP 0 rfl rfl 0 (by decide) (hts (.fieldLink RX5 108 "ResidueRowsModel" "thrown" "I") (by decide +kernel)) (fun _ h9 => h9) rfl dX5_over_52 ?_
          refine lv_if_le (tgt := 60) hx hb dX5_over_55 (by decide) (fun _ => ?_) (fun hcc => absurd (by decide +kernel) hcc)
          refine lv_aload_n hx hb dX5_over_60 rfl (lv_at hl 0 rfl) ?_
          refine lv_iload_n hx hb dX5_over_61 rfl (lv_at hl 1 rfl) ?_
          refine lv_aload_n hx hb dX5_over_62 rfl (lv_at hl 0 rfl) ?_
          refine va_get (D := (dC, dI)) (ci := 6) (v := .ref (ad 13)) (C := RX5) (T := TX5) (N := 36) hx hb hts hinX5 hown hK hP 0 rfl rfl 13 (by decide) (hts (.fieldLink RX5 35 "ResidueRowsModel" "one" "[J") (by decide +kernel)) (fun _ h9 => h9) rfl dX5_over_63 ?_
          refine cc_v (va_runV (As := [.int (nI i), .ref (ad 13)]) (rest := []) ⟨hx, hb, hml, hown, hts⟩ (c_X5_take l dC dI ad ck L ln pr hok H.size (nI 0) i hi (ad 13) (hok.1.2.2 13 (by decide) (by decide))) (cwV 2 hts (gMv (by decide +kernel)) rfl rfl rfl (by decide +kernel) ⟨Nat.le_of_ble_eq_true rfl, Nat.le_of_ble_eq_true rfl⟩) ⟨mP_blind, va_recv hK hP (ci := 6) (q0 := 0) rfl rfl, mP_of hP hK hD⟩ rfl rfl hl.1 rfl (lv_room (Nat.le_of_ble_eq_true rfl)) dX5_over_66 ⟨Nat.le_of_ble_eq_true rfl, Nat.le_of_ble_eq_true rfl⟩) hS (cF hD hS hA) (fun H locs hw_5 hP hS => ?_)
          refine lv_aload_n hx hb dX5_over_69 rfl (lv_at hl 0 rfl) ?_
          refine lv_iload_n hx hb dX5_over_70 rfl (lv_at hl 2 rfl) ?_
          refine lv_aload_n hx hb dX5_over_71 rfl (lv_at hl 0 rfl) ?_
          refine va_get (D := (dC, dI)) (ci := 6) (v := .ref (ad 14)) (C := RX5) (T := TX5) (N := 36) hx hb hts hinX5 hown hK hP 0 rfl rfl 14 (by decide) (hts (.fieldLink RX5 38 "ResidueRowsModel" "two" "[J") (by decide +kernel)) (fun _ h9 => h9) rfl dX5_over_72 ?_
          refine cc_v (va_runV (As := [.int (nI k), .ref (ad 14)]) (rest := []) ⟨hx, hb, hml, hown, hts⟩ (c_X5_take l dC dI ad ck L ln pr hok H.size (nI 0) k hk (ad 14) (hok.1.2.2 14 (by decide) (by decide))) (cwV 2 hts (gMv (by decide +kernel)) rfl rfl rfl (by decide +kernel) ⟨Nat.le_of_ble_eq_true rfl, Nat.le_of_ble_eq_true rfl⟩) ⟨mP_blind, va_recv hK hP (ci := 6) (q0 := 0) rfl rfl, mP_of hP hK hD⟩ rfl rfl hl.1 rfl (lv_room (Nat.le_of_ble_eq_true rfl)) dX5_over_75 ⟨Nat.le_of_ble_eq_true rfl, Nat.le_of_ble_eq_true rfl⟩) hS (cF hD hS hA) (fun H locs hw_6 hP hS => ?_)
          refine lv_aload_n hx hb dX5_over_78 rfl (lv_at hl 0 rfl) ?_
          refine va_get (D := (dC, dI)) (ci := 6) (v := .ref (ad 14)) (C := RX5) (T := TX5) (N := 36) hx hb hts hinX5 hown hK hP 0 rfl rfl 14 (by decide) (hts (.fieldLink RX5 38 "ResidueRowsModel" "two" "[J") (by decide +kernel)) (fun _ h9 => h9) rfl dX5_over_79 ?_
          refine cc_i (va_runS (As := [.ref (ad 14)]) (rest := []) ⟨hx, hb, hml, hown, hts⟩ (c_X5_degree l dC dI ad ck L ln pr hok H.size (nI 0) (ad 14) (hok.1.2.2 14 (by decide) (by decide))) (va_cwS 1 hts (gMs (by decide +kernel)) rfl rfl rfl (by decide +kernel) ⟨Nat.le_of_ble_eq_true rfl, Nat.le_of_ble_eq_true rfl⟩) ⟨mP_blind, mP_of hP hK hD⟩ rfl rfl hl.1 rfl (lv_room (Nat.le_of_ble_eq_true rfl)) dX5_over_82 ⟨Nat.le_of_ble_eq_true rfl, Nat.le_of_ble_eq_true rfl⟩) hS (cF hD hS hA) (fun r_8 H locs hw_7 hP hS => ?_)
          subst hw_7
          refine lv_if_ge (tgt := 94) hx hb dX5_over_85 (by decide) (fun hcc => absurd hcc (by decide +kernel)) (fun _ => ?_)
          refine lv_aload_n hx hb dX5_over_88 rfl (lv_at hl 0 rfl) ?_
          refine lv_iconst (v := nI 4) hx hb dX5_over_89 (by decide +kernel) ?_
          refine cm_i (va_runV (As := [.int (nI 4)]) (rest := []) ⟨hx, hb, hml, hown, hts⟩ (c_X5_raise l dC dI ad ck L ln pr hok H.size (nI 0) (nI 4)) (cwV 1 hts (gMv (by decide +kernel)) rfl rfl rfl (by decide +kernel) ⟨Nat.le_of_ble_eq_true rfl, Nat.le_of_ble_eq_true rfl⟩) ⟨mP_blind, va_recv hK hP (ci := 6) (q0 := 0) rfl rfl, mP_of hP hK hD⟩ rfl rfl hl.1 rfl (lv_room (Nat.le_of_ble_eq_true rfl)) dX5_over_90 ⟨Nat.le_of_ble_eq_true rfl, Nat.le_of_ble_eq_true rfl⟩) hS (cF hD hS hA) (fun r_10 th_11 gv_12 H locs hw_9 hP hS => ?_)
          obtain ⟨rfl, e9⟩ := hw_9
          dsimp only at e9
          subst e9
          refine W.iret hx hb hr (fun t ht hW => eMi (nI 4) gv_12 ?_ hP ht (hS.F ht)) hS.2.2 dX5_over_93
          exact Or.inr (Or.inr ⟨rfl, ⟨h0, h1⟩, hw9⟩)
        · have hw9 : ¬ (p2 = 0 ∨ p2 = nI 1) := by rintro (h | h) <;> rw [h] at hc40 <;> exact absurd hc40 (by decide +kernel)
          refine lv_iconst (v := nI 3) hx hb dX5_over_43 (by decide +kernel) ?_
          refine lv_goto (tgt := 48) hx hb dX5_over_44 (by decide) ?_
          refine va_put (D := (dC, dI)) (ci := 6) (v := .int (nI 3)) (ty := .int) (C := RX5) (T := TX5) (N := 36) hx hb hts hinX5 tyX5 tyX5_ok nmX5 hown hK hP hD hS 0 rfl rfl 0 (by decide) (hts (.fieldLink RX5 108 "ResidueRowsModel" "thrown" "I") (by decide +kernel)) (fun _ h9 => h9) rfl (by decide +kernel) rfl rfl (Nat.le_of_ble_eq_true rfl) dX5_over_48 (fun H locs hP hD hS => ?_)
          have hP : va_P (dC, dI) vwCl (mW ad ck L ln pr (nI 3) (nI 0)) H := hP
          have hD : va_D A (mW ad ck L ln pr (nI 3) (nI 0)) := hD
          refine lv_aload_n hx hb dX5_over_51 rfl (lv_at hl 0 rfl) ?_
          refine va_get (D := (dC, dI)) (ci := 6) (v := .int (nI 3)) (C := RX5) (T := TX5) (N := 36) hx hb hts hinX5 hown hK hP 0 rfl rfl 0 (by decide) (hts (.fieldLink RX5 108 "ResidueRowsModel" "thrown" "I") (by decide +kernel)) (fun _ h9 => h9) rfl dX5_over_52 ?_
          refine lv_if_le (tgt := 60) hx hb dX5_over_55 (by decide) (fun hcc => absurd hcc (by decide +kernel)) (fun _ => ?_)
          refine lv_iconst (v := nI 0) hx hb dX5_over_58 (by decide +kernel) ?_
          refine W.iret hx hb hr (fun t ht hW => eMi (nI 3) (nI 0) ?_ (hP.sub [0] rfl) ht (hS.F ht)) hS.2.2 dX5_over_59
          exact Or.inr (Or.inl ⟨rfl, ⟨h0, h1⟩, hw9⟩)
    · skip
      refine lv_aload_n hx hb dX5_over_0 rfl (lv_at hl 0 rfl) ?_
      refine lv_aload_n hx hb dX5_over_1 rfl (lv_at hl 0 rfl) ?_
      refine lv_iload_n hx hb dX5_over_2 rfl (lv_at hl 1 rfl) ?_
      refine cc_i (va_runV (As := [.int p0]) (rest := [.ref (ad 0)]) ⟨hx, hb, hml, hown, hts⟩ (c_X5_isRow l dC dI ad ck L ln pr hok H.size th p0) (cwV 1 hts (gMv (by decide +kernel)) rfl rfl rfl (by decide +kernel) ⟨Nat.le_of_ble_eq_true rfl, Nat.le_of_ble_eq_true rfl⟩) ⟨mP_blind, va_recv hK hP (ci := 6) (q0 := 0) rfl rfl, mP_of hP hK hD⟩ rfl rfl hl.1 rfl (lv_room (Nat.le_of_ble_eq_true rfl)) dX5_over_3 ⟨Nat.le_of_ble_eq_true rfl, Nat.le_of_ble_eq_true rfl⟩) hS (cF hD hS hA) (fun r_14 H locs hw_13 hP hS => ?_)
      have e9 : r_14 = nI 1 := hw_13.elim (fun h9 => h9.1) (fun h9 => absurd h0 h9.2)
      subst e9
      refine lv_if_eq (tgt := 17) hx hb dX5_over_6 (by decide) (fun hcc => absurd hcc (by decide +kernel)) (fun _ => ?_)
      refine lv_aload_n hx hb dX5_over_9 rfl (lv_at hl 0 rfl) ?_
      refine lv_iload_n hx hb dX5_over_10 rfl (lv_at hl 2 rfl) ?_
      refine cc_i (va_runV (As := [.int p1]) (rest := [.ref (ad 0)]) ⟨hx, hb, hml, hown, hts⟩ (c_X5_isRow l dC dI ad ck L ln pr hok H.size th p1) (cwV 1 hts (gMv (by decide +kernel)) rfl rfl rfl (by decide +kernel) ⟨Nat.le_of_ble_eq_true rfl, Nat.le_of_ble_eq_true rfl⟩) ⟨mP_blind, va_recv hK hP (ci := 6) (q0 := 0) rfl rfl, mP_of hP hK hD⟩ rfl rfl hl.1 rfl (lv_room (Nat.le_of_ble_eq_true rfl)) dX5_over_11 ⟨Nat.le_of_ble_eq_true rfl, Nat.le_of_ble_eq_true rfl⟩) hS (cF hD hS hA) (fun r_16 H locs hw_15 hP hS => ?_)
      have e9 : r_16 = nI 0 := hw_15.elim (fun h9 => absurd h9.2 h1) (fun h9 => h9.1)
      subst e9
      refine lv_if_ne (tgt := 21) hx hb dX5_over_14 (by decide) (fun hcc => absurd (by decide +kernel) hcc) (fun _ => ?_)
      refine lv_iconst (v := nI 1) hx hb dX5_over_17 (by decide +kernel) ?_
      refine lv_goto (tgt := 48) hx hb dX5_over_18 (by decide) ?_
      refine va_put (D := (dC, dI)) (ci := 6) (v := .int (nI 1)) (ty := .int) (C := RX5) (T := TX5) (N := 36) hx hb hts hinX5 tyX5 tyX5_ok nmX5 hown hK hP hD hS 0 rfl rfl 0 (by decide) (hts (.fieldLink RX5 108 "ResidueRowsModel" "thrown" "I") (by decide +kernel)) (fun _ h9 => h9) rfl (by decide +kernel) rfl rfl (Nat.le_of_ble_eq_true rfl) dX5_over_48 (fun H locs hP hD hS => ?_)
      have hP : va_P (dC, dI) vwCl (mW ad ck L ln pr (nI 1) (nI 0)) H := hP
      have hD : va_D A (mW ad ck L ln pr (nI 1) (nI 0)) := hD
      refine lv_aload_n hx hb dX5_over_51 rfl (lv_at hl 0 rfl) ?_
      refine va_get (D := (dC, dI)) (ci := 6) (v := .int (nI 1)) (C := RX5) (T := TX5) (N := 36) hx hb hts hinX5 hown hK hP 0 rfl rfl 0 (by decide) (hts (.fieldLink RX5 108 "ResidueRowsModel" "thrown" "I") (by decide +kernel)) (fun _ h9 => h9) rfl dX5_over_52 ?_
      refine lv_if_le (tgt := 60) hx hb dX5_over_55 (by decide) (fun hcc => absurd hcc (by decide +kernel)) (fun _ => ?_)
      refine lv_iconst (v := nI 0) hx hb dX5_over_58 (by decide +kernel) ?_
      refine W.iret hx hb hr (fun t ht hW => eMi (nI 1) (nI 0) ?_ (hP.sub [0] rfl) ht (hS.F ht)) hS.2.2 dX5_over_59
      exact Or.inl ⟨rfl, fun h => h1 h.2⟩
  · skip
    refine lv_aload_n hx hb dX5_over_0 rfl (lv_at hl 0 rfl) ?_
    refine lv_aload_n hx hb dX5_over_1 rfl (lv_at hl 0 rfl) ?_
    refine lv_iload_n hx hb dX5_over_2 rfl (lv_at hl 1 rfl) ?_
    refine cc_i (va_runV (As := [.int p0]) (rest := [.ref (ad 0)]) ⟨hx, hb, hml, hown, hts⟩ (c_X5_isRow l dC dI ad ck L ln pr hok H.size th p0) (cwV 1 hts (gMv (by decide +kernel)) rfl rfl rfl (by decide +kernel) ⟨Nat.le_of_ble_eq_true rfl, Nat.le_of_ble_eq_true rfl⟩) ⟨mP_blind, va_recv hK hP (ci := 6) (q0 := 0) rfl rfl, mP_of hP hK hD⟩ rfl rfl hl.1 rfl (lv_room (Nat.le_of_ble_eq_true rfl)) dX5_over_3 ⟨Nat.le_of_ble_eq_true rfl, Nat.le_of_ble_eq_true rfl⟩) hS (cF hD hS hA) (fun r_18 H locs hw_17 hP hS => ?_)
    have e9 : r_18 = nI 0 := hw_17.elim (fun h9 => absurd h9.2 h0) (fun h9 => h9.1)
    subst e9
    refine lv_if_eq (tgt := 17) hx hb dX5_over_6 (by decide) (fun _ => ?_) (fun hcc => absurd (by decide +kernel) hcc)
    refine lv_iconst (v := nI 1) hx hb dX5_over_17 (by decide +kernel) ?_
    refine lv_goto (tgt := 48) hx hb dX5_over_18 (by decide) ?_
    refine va_put (D := (dC, dI)) (ci := 6) (v := .int (nI 1)) (ty := .int) (C := RX5) (T := TX5) (N := 36) hx hb hts hinX5 tyX5 tyX5_ok nmX5 hown hK hP hD hS 0 rfl rfl 0 (by decide) (hts (.fieldLink RX5 108 "ResidueRowsModel" "thrown" "I") (by decide +kernel)) (fun _ h9 => h9) rfl (by decide +kernel) rfl rfl (Nat.le_of_ble_eq_true rfl) dX5_over_48 (fun H locs hP hD hS => ?_)
    have hP : va_P (dC, dI) vwCl (mW ad ck L ln pr (nI 1) (nI 0)) H := hP
    have hD : va_D A (mW ad ck L ln pr (nI 1) (nI 0)) := hD
    refine lv_aload_n hx hb dX5_over_51 rfl (lv_at hl 0 rfl) ?_
    refine va_get (D := (dC, dI)) (ci := 6) (v := .int (nI 1)) (C := RX5) (T := TX5) (N := 36) hx hb hts hinX5 hown hK hP 0 rfl rfl 0 (by decide) (hts (.fieldLink RX5 108 "ResidueRowsModel" "thrown" "I") (by decide +kernel)) (fun _ h9 => h9) rfl dX5_over_52 ?_
    refine lv_if_le (tgt := 60) hx hb dX5_over_55 (by decide) (fun hcc => absurd hcc (by decide +kernel)) (fun _ => ?_)
    refine lv_iconst (v := nI 0) hx hb dX5_over_58 (by decide +kernel) ?_
    refine W.iret hx hb hr (fun t ht hW => eMi (nI 1) (nI 0) ?_ (hP.sub [0] rfl) ht (hS.F ht)) hS.2.2 dX5_over_59
    exact Or.inl ⟨rfl, fun h => h0 h.1⟩

abbrev vX5_factor : List Cond := .code yX5_factor cX5_factor 6 (some .int) :: mWS
set_option maxHeartbeats 4000000 in
set_option maxRecDepth 100000 in
/-- factor(p, seed), the first call -/
theorem c_X5_factor (l : Launch) (dC : Nat → ClassId) (dI : Nat → Nat → Nat) (ad : Nat → Nat) (ck : Nat → ClassId) (L : List Nat) (ln : Nat → Nat) (pr : Nat) (hok : mOk ad L ln pr) (sz : Nat) (th : Int32) (p0 : Int32) (sd : Int64) : Met l yX5_factor vX5_factor ({ frames := 1, cells := 0, slots := 0, locals := 23 }) (va_Pc [.ref (ad 0), .int p0, .long sd] (mP (dC, dI) ck (mW ad ck L ln pr th (nI 0)) sz)) (va_Qi (fun r u => (u.1 = nI 0 ∧ inR p0 96 ∧ r = (-1)) ∨ (u.1 = nI 1 ∧ ¬ inR p0 96) : Int32 → Int32 × Int32 → Prop) (fun u t => va_P (dC, dI) vwCl (mO ad pr u.1 u.2) t.heap) (va_A (mW ad ck L ln pr th (nI 0)) sz)) 0 0 (va_A (mW ad ck L ln pr th (nI 0)) sz) := by
  refine Met.ofW (cc := cX5_factor) (maxL := 6) (ret := (some .int)) (by decide +kernel) rfl ?_
  intro p e s m args below meth c s₁ B hml hv
  obtain ⟨rfl, hsz, hP, hK, hD0⟩ := hv
  have hx := B.exec
  have hb := B.bytes
  have hr := B.returns
  have hts := atoms_spec (ws := vX5_factor) B.pre
  have hown : s.vm.findClass RX5 = some m.cls := findClass_of_methodNamed B.named
  have hlocks := B.notSynchronized
  subst hsz
  have hD := hD0.self (sz := s.heap.size)
  generalize hAe : va_A (mW ad ck L ln pr th (nI 0)) s.heap.size = A at hD ⊢
  have hA : ∀ q : Nat, s.heap.size ≤ q → A q := fun q h => by rw [← hAe]; exact Or.inr h
  have hS : va_S A s.heap s.heap [] := va_S.rf
  have hinX5 : ∀ w ∈ wsX50, w ∈ vX5_factor := fun w h => List.mem_cons_of_mem _ (inMX5 w h)
  have hpr2 := hok.2.1.1
  have hpr31 := hok.2.2
  have hl := lv_entry ([.ref (ad 0), .int p0, .long sd]) (n := 6) (Nat.le_of_ble_eq_true rfl)
  rw [lg_entry_eq]
  generalize (lg_sl ([.ref (ad 0), .int p0, .long sd]) ++ List.replicate (6 - (lg_sl ([.ref (ad 0), .int p0, .long sd])).length) Slot.unset).toArray = ls at hl ⊢
  have hl : lv_has ls 6 [(0, .ref (ad 0)), (1, .int p0), (2, .long sd)] := hl
  obtain ⟨H, hHe⟩ : ∃ H : Heap, H = s.heap := ⟨_, rfl⟩
  have hP : va_P (dC, dI) vwCl (mW ad ck L ln pr th (nI 0)) H := by rw [hHe]; exact hP
  have hS : va_S A s.heap H [] := by rw [hHe]; exact hS
  suffices hgo : W p l e (headSpec vX5_factor ({ frames := 1, cells := 0, slots := 0, locals := 23 })).room s m ([.ref (ad 0), .int p0, .long sd] : List Value).toArray below meth c H [] 0 0 (MQ below (va_Qi (fun r u => (u.1 = nI 0 ∧ inR p0 96 ∧ r = (-1)) ∨ (u.1 = nI 1 ∧ ¬ inR p0 96) : Int32 → Int32 × Int32 → Prop) (fun u t => va_P (dC, dI) vwCl (mO ad pr u.1 u.2) t.heap) A) ([.ref (ad 0), .int p0, .long sd] : List Value).toArray s 0 0 A) (F0 m 0 ls []) by rw [hHe] at hgo; exact hgo
  by_cases h0 : inR p0 96
  · skip
    obtain ⟨i, hi, rfl⟩ := id h0
    refine lv_aload_n hx hb dX5_factor_0 rfl (lv_at hl 0 rfl) ?_
    refine lv_aload_n hx hb dX5_factor_1 rfl (lv_at hl 0 rfl) ?_
    refine lv_iload_n hx hb dX5_factor_2 rfl (lv_at hl 1 rfl) ?_
    refine cc_i (va_runV (As := [.int (nI i)]) (rest := [.ref (ad 0)]) ⟨hx, hb, hml, hown, hts⟩ (c_X5_isRow l dC dI ad ck L ln pr hok H.size th (nI i)) (cwV 1 hts (gMv (by decide +kernel)) rfl rfl rfl (by decide +kernel) ⟨Nat.le_of_ble_eq_true rfl, Nat.le_of_ble_eq_true rfl⟩) ⟨mP_blind, va_recv hK hP (ci := 6) (q0 := 0) rfl rfl, mP_of hP hK hD⟩ rfl rfl hl.1 rfl (lv_room (Nat.le_of_ble_eq_true rfl)) dX5_factor_3 ⟨Nat.le_of_ble_eq_true rfl, Nat.le_of_ble_eq_true rfl⟩) hS (cF hD hS hA) (fun r_2 H locs hw_1 hP hS => ?_)
    have e9 : r_2 = nI 1 := hw_1.elim (fun h9 => h9.1) (fun h9 => absurd h0 h9.2)
    subst e9
    refine lv_if_ne (tgt := 13) hx hb dX5_factor_6 (by decide) (fun _ => ?_) (fun hcc => absurd hcc (by decide +kernel))
    refine lv_iconst (v := nI 0) hx hb dX5_factor_13 (by decide +kernel) ?_
    refine va_put (D := (dC, dI)) (ci := 6) (v := .int (nI 0)) (ty := .int) (C := RX5) (T := TX5) (N := 36) hx hb hts hinX5 tyX5 tyX5_ok nmX5 hown hK hP hD hS 0 rfl rfl 0 (by decide) (hts (.fieldLink RX5 108 "ResidueRowsModel" "thrown" "I") (by decide +kernel)) (fun _ h9 => h9) rfl (by decide +kernel) rfl rfl (Nat.le_of_ble_eq_true rfl) dX5_factor_14 (fun H locs hP hD hS => ?_)
    have hP : va_P (dC, dI) vwCl (mW ad ck L ln pr (nI 0) (nI 0)) H := hP
    have hD : va_D A (mW ad ck L ln pr (nI 0) (nI 0)) := hD
    refine lv_aload_n hx hb dX5_factor_17 rfl (lv_at hl 0 rfl) ?_
    refine va_get (D := (dC, dI)) (ci := 6) (v := .int (nI 0)) (C := RX5) (T := TX5) (N := 36) hx hb hts hinX5 hown hK hP 0 rfl rfl 0 (by decide) (hts (.fieldLink RX5 108 "ResidueRowsModel" "thrown" "I") (by decide +kernel)) (fun _ h9 => h9) rfl dX5_factor_18 ?_
    refine lv_if_le (tgt := 26) hx hb dX5_factor_21 (by decide) (fun _ => ?_) (fun hcc => absurd (by decide +kernel) hcc)
    refine lv_aload_n hx hb dX5_factor_26 rfl (lv_at hl 0 rfl) ?_
    refine lv_iload_n hx hb dX5_factor_27 rfl (lv_at hl 1 rfl) ?_
    refine lv_aload_n hx hb dX5_factor_28 rfl (lv_at hl 0 rfl) ?_
    refine va_get (D := (dC, dI)) (ci := 6) (v := .ref (ad 15)) (C := RX5) (T := TX5) (N := 36) hx hb hts hinX5 hown hK hP 0 rfl rfl 15 (by decide) (hts (.fieldLink RX5 41 "ResidueRowsModel" "answer" "[J") (by decide +kernel)) (fun _ h9 => h9) rfl dX5_factor_29 ?_
    refine cc_v (va_runV (As := [.int (nI i), .ref (ad 15)]) (rest := []) ⟨hx, hb, hml, hown, hts⟩ (c_X5_take l dC dI ad ck L ln pr hok H.size (nI 0) i hi (ad 15) (hok.1.2.2 15 (by decide) (by decide))) (cwV 2 hts (gMv (by decide +kernel)) rfl rfl rfl (by decide +kernel) ⟨Nat.le_of_ble_eq_true rfl, Nat.le_of_ble_eq_true rfl⟩) ⟨mP_blind, va_recv hK hP (ci := 6) (q0 := 0) rfl rfl, mP_of hP hK hD⟩ rfl rfl hl.1 rfl (lv_room (Nat.le_of_ble_eq_true rfl)) dX5_factor_32 ⟨Nat.le_of_ble_eq_true rfl, Nat.le_of_ble_eq_true rfl⟩) hS (cF hD hS hA) (fun H locs hw_3 hP hS => ?_)
    refine lv_aload_n hx hb dX5_factor_35 rfl (lv_at hl 0 rfl) ?_
    refine va_get (D := (dC, dI)) (ci := 6) (v := .ref (ad 15)) (C := RX5) (T := TX5) (N := 36) hx hb hts hinX5 hown hK hP 0 rfl rfl 15 (by decide) (hts (.fieldLink RX5 41 "ResidueRowsModel" "answer" "[J") (by decide +kernel)) (fun _ h9 => h9) rfl dX5_factor_36 ?_
    refine cc_i (va_runS (As := [.ref (ad 15)]) (rest := []) ⟨hx, hb, hml, hown, hts⟩ (c_X5_degree l dC dI ad ck L ln pr hok H.size (nI 0) (ad 15) (hok.1.2.2 15 (by decide) (by decide))) (va_cwS 1 hts (gMs (by decide +kernel)) rfl rfl rfl (by decide +kernel) ⟨Nat.le_of_ble_eq_true rfl, Nat.le_of_ble_eq_true rfl⟩) ⟨mP_blind, mP_of hP hK hD⟩ rfl rfl hl.1 rfl (lv_room (Nat.le_of_ble_eq_true rfl)) dX5_factor_39 ⟨Nat.le_of_ble_eq_true rfl, Nat.le_of_ble_eq_true rfl⟩) hS (cF hD hS hA) (fun r_5 H locs hw_4 hP hS => ?_)
    subst hw_4
    refine lv_istore (lv' := [(4, .int (-1)), (0, .ref (ad 0)), (1, .int (nI i)), (2, .long sd)]) hx hb dX5_factor_42 hl (by decide) rfl (fun ls hl => ?_)
    refine lv_bipush (v := nI 96) hx hb dX5_factor_44 (by decide +kernel) ?_
    refine lv_aload_n hx hb dX5_factor_46 rfl (lv_at hl 1 rfl) ?_
    refine va_get (D := (dC, dI)) (ci := 6) (v := .int (nI 0)) (C := RX5) (T := TX5) (N := 36) hx hb hts hinX5 hown hK hP 0 rfl rfl 3 (by decide) (hts (.fieldLink RX5 112 "ResidueRowsModel" "given" "I") (by decide +kernel)) (fun _ h9 => h9) rfl dX5_factor_47 ?_
    refine lv_isub hx hb dX5_factor_50 ?_
    refine zz_i (y := nI 96) (by decide +kernel) ?_
    refine lv_iload hx hb dX5_factor_51 (lv_at hl 0 rfl) ?_
    refine lv_icmp_ge (tgt := 62) hx hb dX5_factor_53 (by decide) (fun _ => ?_) (fun hcc => absurd (by decide +kernel) hcc)
    refine lv_iload hx hb dX5_factor_62 (lv_at hl 0 rfl) ?_
    refine lv_if_ge (tgt := 69) hx hb dX5_factor_64 (by decide) (fun hcc => absurd hcc (by decide +kernel)) (fun _ => ?_)
    refine lv_iconst (v := (-1)) hx hb dX5_factor_67 (by decide +kernel) ?_
    refine W.iret hx hb hr (fun t ht hW => eMi (nI 0) (nI 0) ?_ (hP.sub [0] rfl) ht (hS.F ht)) hS.2.2 dX5_factor_68
    exact Or.inl ⟨rfl, h0, rfl⟩
  · skip
    refine lv_aload_n hx hb dX5_factor_0 rfl (lv_at hl 0 rfl) ?_
    refine lv_aload_n hx hb dX5_factor_1 rfl (lv_at hl 0 rfl) ?_
    refine lv_iload_n hx hb dX5_factor_2 rfl (lv_at hl 1 rfl) ?_
    refine cc_i (va_runV (As := [.int p0]) (rest := [.ref (ad 0)]) ⟨hx, hb, hml, hown, hts⟩ (c_X5_isRow l dC dI ad ck L ln pr hok H.size th p0) (cwV 1 hts (gMv (by decide +kernel)) rfl rfl rfl (by decide +kernel) ⟨Nat.le_of_ble_eq_true rfl, Nat.le_of_ble_eq_true rfl⟩) ⟨mP_blind, va_recv hK hP (ci := 6) (q0 := 0) rfl rfl, mP_of hP hK hD⟩ rfl rfl hl.1 rfl (lv_room (Nat.le_of_ble_eq_true rfl)) dX5_factor_3 ⟨Nat.le_of_ble_eq_true rfl, Nat.le_of_ble_eq_true rfl⟩) hS (cF hD hS hA) (fun r_7 H locs hw_6 hP hS => ?_)
    have e9 : r_7 = nI 0 := hw_6.elim (fun h9 => absurd h9.2 h0) (fun h9 => h9.1)
    subst e9
    refine lv_if_ne (tgt := 13) hx hb dX5_factor_6 (by decide) (fun hcc => absurd (by decide +kernel) hcc) (fun _ => ?_)
    refine lv_iconst (v := nI 1) hx hb dX5_factor_9 (by decide +kernel) ?_
    refine lv_goto (tgt := 14) hx hb dX5_factor_10 (by decide) ?_
    refine va_put (D := (dC, dI)) (ci := 6) (v := .int (nI 1)) (ty := .int) (C := RX5) (T := TX5) (N := 36) hx hb hts hinX5 tyX5 tyX5_ok nmX5 hown hK hP hD hS 0 rfl rfl 0 (by decide) (hts (.fieldLink RX5 108 "ResidueRowsModel" "thrown" "I") (by decide +kernel)) (fun _ h9 => h9) rfl (by decide +kernel) rfl rfl (Nat.le_of_ble_eq_true rfl) dX5_factor_14 (fun H locs hP hD hS => ?_)
    have hP : va_P (dC, dI) vwCl (mW ad ck L ln pr (nI 1) (nI 0)) H := hP
    have hD : va_D A (mW ad ck L ln pr (nI 1) (nI 0)) := hD
    refine lv_aload_n hx hb dX5_factor_17 rfl (lv_at hl 0 rfl) ?_
    refine va_get (D := (dC, dI)) (ci := 6) (v := .int (nI 1)) (C := RX5) (T := TX5) (N := 36) hx hb hts hinX5 hown hK hP 0 rfl rfl 0 (by decide) (hts (.fieldLink RX5 108 "ResidueRowsModel" "thrown" "I") (by decide +kernel)) (fun _ h9 => h9) rfl dX5_factor_18 ?_
    refine lv_if_le (tgt := 26) hx hb dX5_factor_21 (by decide) (fun hcc => absurd hcc (by decide +kernel)) (fun _ => ?_)
    refine lv_iconst (v := nI 0) hx hb dX5_factor_24 (by decide +kernel) ?_
    refine W.iret hx hb hr (fun t ht hW => eMi (nI 1) (nI 0) ?_ (hP.sub [0] rfl) ht (hS.F ht)) hS.2.2 dX5_factor_25
    exact Or.inr ⟨rfl, h0⟩

abbrev vX5_root : List Cond := .code yX5_root cX5_root 6 (some .int) :: mWS
set_option maxHeartbeats 4000000 in
set_option maxRecDepth 100000 in
/-- root(p, k), the first call -/
theorem c_X5_root (l : Launch) (dC : Nat → ClassId) (dI : Nat → Nat → Nat) (ad : Nat → Nat) (ck : Nat → ClassId) (L : List Nat) (ln : Nat → Nat) (pr : Nat) (hok : mOk ad L ln pr) (sz : Nat) (th : Int32) (p0 p1 : Int32) : Met l yX5_root vX5_root ({ frames := 1, cells := 0, slots := 0, locals := 23 }) (va_Pc [.ref (ad 0), .int p0, .int p1] (mP (dC, dI) ck (mW ad ck L ln pr th (nI 0)) sz)) (va_Qi (fun r u => (u.1 = nI 0 ∧ inR p0 96 ∧ ((r = p1 ∧ inR p1 pr) ∨ (r = (-1) ∧ ¬ inR p1 pr))) ∨ (u.1 = nI 1 ∧ ¬ inR p0 96) : Int32 → Int32 × Int32 → Prop) (fun u t => va_P (dC, dI) vwCl (mO ad pr u.1 u.2) t.heap) (va_A (mW ad ck L ln pr th (nI 0)) sz)) 0 0 (va_A (mW ad ck L ln pr th (nI 0)) sz) := by
  refine Met.ofW (cc := cX5_root) (maxL := 6) (ret := (some .int)) (by decide +kernel) rfl ?_
  intro p e s m args below meth c s₁ B hml hv
  obtain ⟨rfl, hsz, hP, hK, hD0⟩ := hv
  have hx := B.exec
  have hb := B.bytes
  have hr := B.returns
  have hts := atoms_spec (ws := vX5_root) B.pre
  have hown : s.vm.findClass RX5 = some m.cls := findClass_of_methodNamed B.named
  have hlocks := B.notSynchronized
  subst hsz
  have hD := hD0.self (sz := s.heap.size)
  generalize hAe : va_A (mW ad ck L ln pr th (nI 0)) s.heap.size = A at hD ⊢
  have hA : ∀ q : Nat, s.heap.size ≤ q → A q := fun q h => by rw [← hAe]; exact Or.inr h
  have hS : va_S A s.heap s.heap [] := va_S.rf
  have hinX5 : ∀ w ∈ wsX50, w ∈ vX5_root := fun w h => List.mem_cons_of_mem _ (inMX5 w h)
  have hpr2 := hok.2.1.1
  have hpr31 := hok.2.2
  have hl := lv_entry ([.ref (ad 0), .int p0, .int p1]) (n := 6) (Nat.le_of_ble_eq_true rfl)
  rw [lg_entry_eq]
  generalize (lg_sl ([.ref (ad 0), .int p0, .int p1]) ++ List.replicate (6 - (lg_sl ([.ref (ad 0), .int p0, .int p1])).length) Slot.unset).toArray = ls at hl ⊢
  have hl : lv_has ls 6 [(0, .ref (ad 0)), (1, .int p0), (2, .int p1)] := hl
  obtain ⟨H, hHe⟩ : ∃ H : Heap, H = s.heap := ⟨_, rfl⟩
  have hP : va_P (dC, dI) vwCl (mW ad ck L ln pr th (nI 0)) H := by rw [hHe]; exact hP
  have hS : va_S A s.heap H [] := by rw [hHe]; exact hS
  suffices hgo : W p l e (headSpec vX5_root ({ frames := 1, cells := 0, slots := 0, locals := 23 })).room s m ([.ref (ad 0), .int p0, .int p1] : List Value).toArray below meth c H [] 0 0 (MQ below (va_Qi (fun r u => (u.1 = nI 0 ∧ inR p0 96 ∧ ((r = p1 ∧ inR p1 pr) ∨ (r = (-1) ∧ ¬ inR p1 pr))) ∨ (u.1 = nI 1 ∧ ¬ inR p0 96) : Int32 → Int32 × Int32 → Prop) (fun u t => va_P (dC, dI) vwCl (mO ad pr u.1 u.2) t.heap) A) ([.ref (ad 0), .int p0, .int p1] : List Value).toArray s 0 0 A) (F0 m 0 ls []) by rw [hHe] at hgo; exact hgo
  by_cases h0 : inR p0 96
  · skip
    obtain ⟨i, hi, rfl⟩ := id h0
    refine lv_aload_n hx hb dX5_root_0 rfl (lv_at hl 0 rfl) ?_
    refine lv_aload_n hx hb dX5_root_1 rfl (lv_at hl 0 rfl) ?_
    refine lv_iload_n hx hb dX5_root_2 rfl (lv_at hl 1 rfl) ?_
    refine cc_i (va_runV (As := [.int (nI i)]) (rest := [.ref (ad 0)]) ⟨hx, hb, hml, hown, hts⟩ (c_X5_isRow l dC dI ad ck L ln pr hok H.size th (nI i)) (cwV 1 hts (gMv (by decide +kernel)) rfl rfl rfl (by decide +kernel) ⟨Nat.le_of_ble_eq_true rfl, Nat.le_of_ble_eq_true rfl⟩) ⟨mP_blind, va_recv hK hP (ci := 6) (q0 := 0) rfl rfl, mP_of hP hK hD⟩ rfl rfl hl.1 rfl (lv_room (Nat.le_of_ble_eq_true rfl)) dX5_root_3 ⟨Nat.le_of_ble_eq_true rfl, Nat.le_of_ble_eq_true rfl⟩) hS (cF hD hS hA) (fun r_2 H locs hw_1 hP hS => ?_)
    have e9 : r_2 = nI 1 := hw_1.elim (fun h9 => h9.1) (fun h9 => absurd h0 h9.2)
    subst e9
    refine lv_if_ne (tgt := 13) hx hb dX5_root_6 (by decide) (fun _ => ?_) (fun hcc => absurd hcc (by decide +kernel))
    refine lv_iconst (v := nI 0) hx hb dX5_root_13 (by decide +kernel) ?_
    refine va_put (D := (dC, dI)) (ci := 6) (v := .int (nI 0)) (ty := .int) (C := RX5) (T := TX5) (N := 36) hx hb hts hinX5 tyX5 tyX5_ok nmX5 hown hK hP hD hS 0 rfl rfl 0 (by decide) (hts (.fieldLink RX5 108 "ResidueRowsModel" "thrown" "I") (by decide +kernel)) (fun _ h9 => h9) rfl (by decide +kernel) rfl rfl (Nat.le_of_ble_eq_true rfl) dX5_root_14 (fun H locs hP hD hS => ?_)
    have hP : va_P (dC, dI) vwCl (mW ad ck L ln pr (nI 0) (nI 0)) H := hP
    have hD : va_D A (mW ad ck L ln pr (nI 0) (nI 0)) := hD
    refine lv_aload_n hx hb dX5_root_17 rfl (lv_at hl 0 rfl) ?_
    refine va_get (D := (dC, dI)) (ci := 6) (v := .int (nI 0)) (C := RX5) (T := TX5) (N := 36) hx hb hts hinX5 hown hK hP 0 rfl rfl 0 (by decide) (hts (.fieldLink RX5 108 "ResidueRowsModel" "thrown" "I") (by decide +kernel)) (fun _ h9 => h9) rfl dX5_root_18 ?_
    refine lv_if_le (tgt := 26) hx hb dX5_root_21 (by decide) (fun _ => ?_) (fun hcc => absurd (by decide +kernel) hcc)
    refine lv_aload_n hx hb dX5_root_26 rfl (lv_at hl 0 rfl) ?_
    refine lv_iload_n hx hb dX5_root_27 rfl (lv_at hl 1 rfl) ?_
    refine lv_aload_n hx hb dX5_root_28 rfl (lv_at hl 0 rfl) ?_
    refine va_get (D := (dC, dI)) (ci := 6) (v := .ref (ad 15)) (C := RX5) (T := TX5) (N := 36) hx hb hts hinX5 hown hK hP 0 rfl rfl 15 (by decide) (hts (.fieldLink RX5 41 "ResidueRowsModel" "answer" "[J") (by decide +kernel)) (fun _ h9 => h9) rfl dX5_root_29 ?_
    refine cc_v (va_runV (As := [.int (nI i), .ref (ad 15)]) (rest := []) ⟨hx, hb, hml, hown, hts⟩ (c_X5_take l dC dI ad ck L ln pr hok H.size (nI 0) i hi (ad 15) (hok.1.2.2 15 (by decide) (by decide))) (cwV 2 hts (gMv (by decide +kernel)) rfl rfl rfl (by decide +kernel) ⟨Nat.le_of_ble_eq_true rfl, Nat.le_of_ble_eq_true rfl⟩) ⟨mP_blind, va_recv hK hP (ci := 6) (q0 := 0) rfl rfl, mP_of hP hK hD⟩ rfl rfl hl.1 rfl (lv_room (Nat.le_of_ble_eq_true rfl)) dX5_root_32 ⟨Nat.le_of_ble_eq_true rfl, Nat.le_of_ble_eq_true rfl⟩) hS (cF hD hS hA) (fun H locs hw_3 hP hS => ?_)
    refine lv_aload_n hx hb dX5_root_35 rfl (lv_at hl 0 rfl) ?_
    refine va_get (D := (dC, dI)) (ci := 6) (v := .ref (ad 15)) (C := RX5) (T := TX5) (N := 36) hx hb hts hinX5 hown hK hP 0 rfl rfl 15 (by decide) (hts (.fieldLink RX5 41 "ResidueRowsModel" "answer" "[J") (by decide +kernel)) (fun _ h9 => h9) rfl dX5_root_36 ?_
    refine cc_i (va_runS (As := [.ref (ad 15)]) (rest := []) ⟨hx, hb, hml, hown, hts⟩ (c_X5_degree l dC dI ad ck L ln pr hok H.size (nI 0) (ad 15) (hok.1.2.2 15 (by decide) (by decide))) (va_cwS 1 hts (gMs (by decide +kernel)) rfl rfl rfl (by decide +kernel) ⟨Nat.le_of_ble_eq_true rfl, Nat.le_of_ble_eq_true rfl⟩) ⟨mP_blind, mP_of hP hK hD⟩ rfl rfl hl.1 rfl (lv_room (Nat.le_of_ble_eq_true rfl)) dX5_root_39 ⟨Nat.le_of_ble_eq_true rfl, Nat.le_of_ble_eq_true rfl⟩) hS (cF hD hS hA) (fun r_5 H locs hw_4 hP hS => ?_)
    subst hw_4
    refine lv_if_ge (tgt := 65) hx hb dX5_root_42 (by decide) (fun hcc => absurd hcc (by decide +kernel)) (fun _ => ?_)
    refine lv_iload_n hx hb dX5_root_45 rfl (lv_at hl 2 rfl) ?_
    refine lv_if_lt (tgt := 63) hx hb dX5_root_46 (by decide) (fun hc46 => ?_) (fun hc46 => ?_)
    · refine lv_iconst (v := (-1)) hx hb dX5_root_63 (by decide +kernel) ?_
      refine W.iret hx hb hr (fun t ht hW => eMi (nI 0) (nI 0) ?_ (hP.sub [0] rfl) ht (hS.F ht)) hS.2.2 dX5_root_64
      exact Or.inl ⟨rfl, h0, Or.inr ⟨rfl, inR_neg hpr31 hc46⟩⟩
    · obtain ⟨j, hj, rfl⟩ := nI_of hc46
      refine lv_iload_n hx hb dX5_root_49 rfl (lv_at hl 2 rfl) ?_
      refine lv_i2l (v := lN j) hx hb dX5_root_50 (nI_l hj) ?_
      refine lv_aload_n hx hb dX5_root_51 rfl (lv_at hl 0 rfl) ?_
      refine va_get (D := (dC, dI)) (ci := 6) (v := .long (lN pr)) (C := RX5) (T := TX5) (N := 36) hx hb hts hinX5 hown hK hP 0 rfl rfl 1 (by decide) (hts (.fieldLink RX5 104 "ResidueRowsModel" "prime" "J") (by decide +kernel)) (fun _ h9 => h9) rfl dX5_root_52 ?_
      refine W.lcmp hx hb dX5_root_55 ?_
      refine lv_if_ge (tgt := 63) hx hb dX5_root_56 (by decide) (fun hc56 => ?_) (fun hc56 => ?_)
      · have hge : pr ≤ j := (pk_lLE (by omega) (by omega)).mp ((lc_ge _ _).mp hc56)
        refine lv_iconst (v := (-1)) hx hb dX5_root_63 (by decide +kernel) ?_
        refine W.iret hx hb hr (fun t ht hW => eMi (nI 0) (nI 0) ?_ (hP.sub [0] rfl) ht (hS.F ht)) hS.2.2 dX5_root_64
        exact Or.inl ⟨rfl, h0, Or.inr ⟨rfl, inR_big hpr31 (nI_nlt hge hj)⟩⟩
      · have hlt : j < pr := Nat.lt_of_not_le fun h => hc56 ((lc_ge _ _).mpr ((pk_lLE (by omega) (by omega)).mpr h))
        refine lv_iload_n hx hb dX5_root_59 rfl (lv_at hl 2 rfl) ?_
        refine lv_goto (tgt := 64) hx hb dX5_root_60 (by decide) ?_
        refine W.iret hx hb hr (fun t ht hW => eMi (nI 0) (nI 0) ?_ (hP.sub [0] rfl) ht (hS.F ht)) hS.2.2 dX5_root_64
        exact Or.inl ⟨rfl, h0, Or.inl ⟨rfl, j, hlt, rfl⟩⟩
  · skip
    refine lv_aload_n hx hb dX5_root_0 rfl (lv_at hl 0 rfl) ?_
    refine lv_aload_n hx hb dX5_root_1 rfl (lv_at hl 0 rfl) ?_
    refine lv_iload_n hx hb dX5_root_2 rfl (lv_at hl 1 rfl) ?_
    refine cc_i (va_runV (As := [.int p0]) (rest := [.ref (ad 0)]) ⟨hx, hb, hml, hown, hts⟩ (c_X5_isRow l dC dI ad ck L ln pr hok H.size th p0) (cwV 1 hts (gMv (by decide +kernel)) rfl rfl rfl (by decide +kernel) ⟨Nat.le_of_ble_eq_true rfl, Nat.le_of_ble_eq_true rfl⟩) ⟨mP_blind, va_recv hK hP (ci := 6) (q0 := 0) rfl rfl, mP_of hP hK hD⟩ rfl rfl hl.1 rfl (lv_room (Nat.le_of_ble_eq_true rfl)) dX5_root_3 ⟨Nat.le_of_ble_eq_true rfl, Nat.le_of_ble_eq_true rfl⟩) hS (cF hD hS hA) (fun r_7 H locs hw_6 hP hS => ?_)
    have e9 : r_7 = nI 0 := hw_6.elim (fun h9 => absurd h9.2 h0) (fun h9 => h9.1)
    subst e9
    refine lv_if_ne (tgt := 13) hx hb dX5_root_6 (by decide) (fun hcc => absurd (by decide +kernel) hcc) (fun _ => ?_)
    refine lv_iconst (v := nI 1) hx hb dX5_root_9 (by decide +kernel) ?_
    refine lv_goto (tgt := 14) hx hb dX5_root_10 (by decide) ?_
    refine va_put (D := (dC, dI)) (ci := 6) (v := .int (nI 1)) (ty := .int) (C := RX5) (T := TX5) (N := 36) hx hb hts hinX5 tyX5 tyX5_ok nmX5 hown hK hP hD hS 0 rfl rfl 0 (by decide) (hts (.fieldLink RX5 108 "ResidueRowsModel" "thrown" "I") (by decide +kernel)) (fun _ h9 => h9) rfl (by decide +kernel) rfl rfl (Nat.le_of_ble_eq_true rfl) dX5_root_14 (fun H locs hP hD hS => ?_)
    have hP : va_P (dC, dI) vwCl (mW ad ck L ln pr (nI 1) (nI 0)) H := hP
    have hD : va_D A (mW ad ck L ln pr (nI 1) (nI 0)) := hD
    refine lv_aload_n hx hb dX5_root_17 rfl (lv_at hl 0 rfl) ?_
    refine va_get (D := (dC, dI)) (ci := 6) (v := .int (nI 1)) (C := RX5) (T := TX5) (N := 36) hx hb hts hinX5 hown hK hP 0 rfl rfl 0 (by decide) (hts (.fieldLink RX5 108 "ResidueRowsModel" "thrown" "I") (by decide +kernel)) (fun _ h9 => h9) rfl dX5_root_18 ?_
    refine lv_if_le (tgt := 26) hx hb dX5_root_21 (by decide) (fun hcc => absurd hcc (by decide +kernel)) (fun _ => ?_)
    refine lv_iconst (v := nI 0) hx hb dX5_root_24 (by decide +kernel) ?_
    refine W.iret hx hb hr (fun t ht hW => eMi (nI 1) (nI 0) ?_ (hP.sub [0] rfl) ht (hS.F ht)) hS.2.2 dX5_root_25
    exact Or.inr ⟨rfl, h0⟩

abbrev vX5_factorOf : List Cond := .code yX5_factorOf cX5_factorOf 2 (some .int) :: mWS
set_option maxHeartbeats 4000000 in
set_option maxRecDepth 100000 in
/-- factorOf, the first call: nothing was factored -/
theorem c_X5_factorOf (l : Launch) (dC : Nat → ClassId) (dI : Nat → Nat → Nat) (ad : Nat → Nat) (ck : Nat → ClassId) (L : List Nat) (ln : Nat → Nat) (pr : Nat) (hok : mOk ad L ln pr) (sz : Nat) (th : Int32) (p0 : Int32) : Met l yX5_factorOf vX5_factorOf ({ frames := 0, cells := 0, slots := 0, locals := 0 }) (va_Pc [.ref (ad 0), .int p0] (mP (dC, dI) ck (mW ad ck L ln pr th (nI 0)) sz)) (va_Qi (fun _ u => u.1 = nI 1 : Int32 → Int32 × Int32 → Prop) (fun u t => va_P (dC, dI) vwCl (mO ad pr u.1 u.2) t.heap) (va_A (mW ad ck L ln pr th (nI 0)) sz)) 0 0 (va_A (mW ad ck L ln pr th (nI 0)) sz) := by
  refine Met.ofW (cc := cX5_factorOf) (maxL := 2) (ret := (some .int)) (by decide +kernel) rfl ?_
  intro p e s m args below meth c s₁ B hml hv
  obtain ⟨rfl, hsz, hP, hK, hD0⟩ := hv
  have hx := B.exec
  have hb := B.bytes
  have hr := B.returns
  have hts := atoms_spec (ws := vX5_factorOf) B.pre
  have hown : s.vm.findClass RX5 = some m.cls := findClass_of_methodNamed B.named
  have hlocks := B.notSynchronized
  subst hsz
  have hD := hD0.self (sz := s.heap.size)
  generalize hAe : va_A (mW ad ck L ln pr th (nI 0)) s.heap.size = A at hD ⊢
  have hA : ∀ q : Nat, s.heap.size ≤ q → A q := fun q h => by rw [← hAe]; exact Or.inr h
  have hS : va_S A s.heap s.heap [] := va_S.rf
  have hinX5 : ∀ w ∈ wsX50, w ∈ vX5_factorOf := fun w h => List.mem_cons_of_mem _ (inMX5 w h)
  have hpr2 := hok.2.1.1
  have hpr31 := hok.2.2
  have hl := lv_entry ([.ref (ad 0), .int p0]) (n := 2) (Nat.le_of_ble_eq_true rfl)
  rw [lg_entry_eq]
  generalize (lg_sl ([.ref (ad 0), .int p0]) ++ List.replicate (2 - (lg_sl ([.ref (ad 0), .int p0])).length) Slot.unset).toArray = ls at hl ⊢
  have hl : lv_has ls 2 [(0, .ref (ad 0)), (1, .int p0)] := hl
  obtain ⟨H, hHe⟩ : ∃ H : Heap, H = s.heap := ⟨_, rfl⟩
  have hP : va_P (dC, dI) vwCl (mW ad ck L ln pr th (nI 0)) H := by rw [hHe]; exact hP
  have hS : va_S A s.heap H [] := by rw [hHe]; exact hS
  suffices hgo : W p l e (headSpec vX5_factorOf ({ frames := 0, cells := 0, slots := 0, locals := 0 })).room s m ([.ref (ad 0), .int p0] : List Value).toArray below meth c H [] 0 0 (MQ below (va_Qi (fun _ u => u.1 = nI 1 : Int32 → Int32 × Int32 → Prop) (fun u t => va_P (dC, dI) vwCl (mO ad pr u.1 u.2) t.heap) A) ([.ref (ad 0), .int p0] : List Value).toArray s 0 0 A) (F0 m 0 ls []) by rw [hHe] at hgo; exact hgo
  refine lv_aload_n hx hb dX5_factorOf_0 rfl (lv_at hl 0 rfl) ?_
  refine lv_iload_n hx hb dX5_factorOf_1 rfl (lv_at hl 1 rfl) ?_
  refine lv_if_lt (tgt := 13) hx hb dX5_factorOf_2 (by decide) (fun hc2 => ?_) (fun hc2 => ?_)
  · refine lv_iconst (v := nI 1) hx hb dX5_factorOf_13 (by decide +kernel) ?_
    refine lv_goto (tgt := 18) hx hb dX5_factorOf_14 (by decide) ?_
    refine va_put (D := (dC, dI)) (ci := 6) (v := .int (nI 1)) (ty := .int) (C := RX5) (T := TX5) (N := 36) hx hb hts hinX5 tyX5 tyX5_ok nmX5 hown hK hP hD hS 0 rfl rfl 0 (by decide) (hts (.fieldLink RX5 108 "ResidueRowsModel" "thrown" "I") (by decide +kernel)) (fun _ h9 => h9) rfl (by decide +kernel) rfl rfl (Nat.le_of_ble_eq_true rfl) dX5_factorOf_18 (fun H locs hP hD hS => ?_)
    have hP : va_P (dC, dI) vwCl (mW ad ck L ln pr (nI 1) (nI 0)) H := hP
    have hD : va_D A (mW ad ck L ln pr (nI 1) (nI 0)) := hD
    refine lv_aload_n hx hb dX5_factorOf_21 rfl (lv_at hl 0 rfl) ?_
    refine va_get (D := (dC, dI)) (ci := 6) (v := .int (nI 1)) (C := RX5) (T := TX5) (N := 36) hx hb hts hinX5 hown hK hP 0 rfl rfl 0 (by decide) (hts (.fieldLink RX5 108 "ResidueRowsModel" "thrown" "I") (by decide +kernel)) (fun _ h9 => h9) rfl dX5_factorOf_22 ?_
    refine lv_if_le (tgt := 32) hx hb dX5_factorOf_25 (by decide) (fun hcc => absurd hcc (by decide +kernel)) (fun _ => ?_)
    refine lv_iconst (v := nI 0) hx hb dX5_factorOf_28 (by decide +kernel) ?_
    refine lv_goto (tgt := 38) hx hb dX5_factorOf_29 (by decide) ?_
    refine W.iret hx hb hr (fun t ht hW => eMi (nI 1) (nI 0) ?_ (hP.sub [0] rfl) ht (hS.F ht)) hS.2.2 dX5_factorOf_38
    exact rfl
  · refine lv_iload_n hx hb dX5_factorOf_5 rfl (lv_at hl 1 rfl) ?_
    refine lv_aload_n hx hb dX5_factorOf_6 rfl (lv_at hl 0 rfl) ?_
    refine va_get (D := (dC, dI)) (ci := 6) (v := .int 0) (C := RX5) (T := TX5) (N := 36) hx hb hts hinX5 hown hK hP 0 rfl rfl 8 (by decide) (hts (.fieldLink RX5 224 "ResidueRowsModel" "keptMany" "I") (by decide +kernel)) (fun _ h9 => h9) rfl dX5_factorOf_7 ?_
    refine lv_icmp_lt (tgt := 17) hx hb dX5_factorOf_10 (by decide) (fun hc10 => ?_) (fun hc10 => ?_)
    · exact absurd hc10 hc2
    · refine lv_iconst (v := nI 1) hx hb dX5_factorOf_13 (by decide +kernel) ?_
      refine lv_goto (tgt := 18) hx hb dX5_factorOf_14 (by decide) ?_
      refine va_put (D := (dC, dI)) (ci := 6) (v := .int (nI 1)) (ty := .int) (C := RX5) (T := TX5) (N := 36) hx hb hts hinX5 tyX5 tyX5_ok nmX5 hown hK hP hD hS 0 rfl rfl 0 (by decide) (hts (.fieldLink RX5 108 "ResidueRowsModel" "thrown" "I") (by decide +kernel)) (fun _ h9 => h9) rfl (by decide +kernel) rfl rfl (Nat.le_of_ble_eq_true rfl) dX5_factorOf_18 (fun H locs hP hD hS => ?_)
      have hP : va_P (dC, dI) vwCl (mW ad ck L ln pr (nI 1) (nI 0)) H := hP
      have hD : va_D A (mW ad ck L ln pr (nI 1) (nI 0)) := hD
      refine lv_aload_n hx hb dX5_factorOf_21 rfl (lv_at hl 0 rfl) ?_
      refine va_get (D := (dC, dI)) (ci := 6) (v := .int (nI 1)) (C := RX5) (T := TX5) (N := 36) hx hb hts hinX5 hown hK hP 0 rfl rfl 0 (by decide) (hts (.fieldLink RX5 108 "ResidueRowsModel" "thrown" "I") (by decide +kernel)) (fun _ h9 => h9) rfl dX5_factorOf_22 ?_
      refine lv_if_le (tgt := 32) hx hb dX5_factorOf_25 (by decide) (fun hcc => absurd hcc (by decide +kernel)) (fun _ => ?_)
      refine lv_iconst (v := nI 0) hx hb dX5_factorOf_28 (by decide +kernel) ?_
      refine lv_goto (tgt := 38) hx hb dX5_factorOf_29 (by decide) ?_
      refine W.iret hx hb hr (fun t ht hW => eMi (nI 1) (nI 0) ?_ (hP.sub [0] rfl) ht (hS.F ht)) hS.2.2 dX5_factorOf_38
      exact rfl

abbrev vX5_multiplicity : List Cond := .code yX5_multiplicity cX5_multiplicity 2 (some .int) :: mWS
set_option maxHeartbeats 4000000 in
set_option maxRecDepth 100000 in
/-- multiplicity, the first call: nothing was factored -/
theorem c_X5_multiplicity (l : Launch) (dC : Nat → ClassId) (dI : Nat → Nat → Nat) (ad : Nat → Nat) (ck : Nat → ClassId) (L : List Nat) (ln : Nat → Nat) (pr : Nat) (hok : mOk ad L ln pr) (sz : Nat) (th : Int32) (p0 : Int32) : Met l yX5_multiplicity vX5_multiplicity ({ frames := 0, cells := 0, slots := 0, locals := 0 }) (va_Pc [.ref (ad 0), .int p0] (mP (dC, dI) ck (mW ad ck L ln pr th (nI 0)) sz)) (va_Qi (fun _ u => u.1 = nI 1 : Int32 → Int32 × Int32 → Prop) (fun u t => va_P (dC, dI) vwCl (mO ad pr u.1 u.2) t.heap) (va_A (mW ad ck L ln pr th (nI 0)) sz)) 0 0 (va_A (mW ad ck L ln pr th (nI 0)) sz) := by
  refine Met.ofW (cc := cX5_multiplicity) (maxL := 2) (ret := (some .int)) (by decide +kernel) rfl ?_
  intro p e s m args below meth c s₁ B hml hv
  obtain ⟨rfl, hsz, hP, hK, hD0⟩ := hv
  have hx := B.exec
  have hb := B.bytes
  have hr := B.returns
  have hts := atoms_spec (ws := vX5_multiplicity) B.pre
  have hown : s.vm.findClass RX5 = some m.cls := findClass_of_methodNamed B.named
  have hlocks := B.notSynchronized
  subst hsz
  have hD := hD0.self (sz := s.heap.size)
  generalize hAe : va_A (mW ad ck L ln pr th (nI 0)) s.heap.size = A at hD ⊢
  have hA : ∀ q : Nat, s.heap.size ≤ q → A q := fun q h => by rw [← hAe]; exact Or.inr h
  have hS : va_S A s.heap s.heap [] := va_S.rf
  have hinX5 : ∀ w ∈ wsX50, w ∈ vX5_multiplicity := fun w h => List.mem_cons_of_mem _ (inMX5 w h)
  have hpr2 := hok.2.1.1
  have hpr31 := hok.2.2
  have hl := lv_entry ([.ref (ad 0), .int p0]) (n := 2) (Nat.le_of_ble_eq_true rfl)
  rw [lg_entry_eq]
  generalize (lg_sl ([.ref (ad 0), .int p0]) ++ List.replicate (2 - (lg_sl ([.ref (ad 0), .int p0])).length) Slot.unset).toArray = ls at hl ⊢
  have hl : lv_has ls 2 [(0, .ref (ad 0)), (1, .int p0)] := hl
  obtain ⟨H, hHe⟩ : ∃ H : Heap, H = s.heap := ⟨_, rfl⟩
  have hP : va_P (dC, dI) vwCl (mW ad ck L ln pr th (nI 0)) H := by rw [hHe]; exact hP
  have hS : va_S A s.heap H [] := by rw [hHe]; exact hS
  suffices hgo : W p l e (headSpec vX5_multiplicity ({ frames := 0, cells := 0, slots := 0, locals := 0 })).room s m ([.ref (ad 0), .int p0] : List Value).toArray below meth c H [] 0 0 (MQ below (va_Qi (fun _ u => u.1 = nI 1 : Int32 → Int32 × Int32 → Prop) (fun u t => va_P (dC, dI) vwCl (mO ad pr u.1 u.2) t.heap) A) ([.ref (ad 0), .int p0] : List Value).toArray s 0 0 A) (F0 m 0 ls []) by rw [hHe] at hgo; exact hgo
  refine lv_aload_n hx hb dX5_multiplicity_0 rfl (lv_at hl 0 rfl) ?_
  refine lv_iload_n hx hb dX5_multiplicity_1 rfl (lv_at hl 1 rfl) ?_
  refine lv_if_lt (tgt := 13) hx hb dX5_multiplicity_2 (by decide) (fun hc2 => ?_) (fun hc2 => ?_)
  · refine lv_iconst (v := nI 1) hx hb dX5_multiplicity_13 (by decide +kernel) ?_
    refine lv_goto (tgt := 18) hx hb dX5_multiplicity_14 (by decide) ?_
    refine va_put (D := (dC, dI)) (ci := 6) (v := .int (nI 1)) (ty := .int) (C := RX5) (T := TX5) (N := 36) hx hb hts hinX5 tyX5 tyX5_ok nmX5 hown hK hP hD hS 0 rfl rfl 0 (by decide) (hts (.fieldLink RX5 108 "ResidueRowsModel" "thrown" "I") (by decide +kernel)) (fun _ h9 => h9) rfl (by decide +kernel) rfl rfl (Nat.le_of_ble_eq_true rfl) dX5_multiplicity_18 (fun H locs hP hD hS => ?_)
    have hP : va_P (dC, dI) vwCl (mW ad ck L ln pr (nI 1) (nI 0)) H := hP
    have hD : va_D A (mW ad ck L ln pr (nI 1) (nI 0)) := hD
    refine lv_aload_n hx hb dX5_multiplicity_21 rfl (lv_at hl 0 rfl) ?_
    refine va_get (D := (dC, dI)) (ci := 6) (v := .int (nI 1)) (C := RX5) (T := TX5) (N := 36) hx hb hts hinX5 hown hK hP 0 rfl rfl 0 (by decide) (hts (.fieldLink RX5 108 "ResidueRowsModel" "thrown" "I") (by decide +kernel)) (fun _ h9 => h9) rfl dX5_multiplicity_22 ?_
    refine lv_if_le (tgt := 32) hx hb dX5_multiplicity_25 (by decide) (fun hcc => absurd hcc (by decide +kernel)) (fun _ => ?_)
    refine lv_iconst (v := nI 0) hx hb dX5_multiplicity_28 (by decide +kernel) ?_
    refine lv_goto (tgt := 38) hx hb dX5_multiplicity_29 (by decide) ?_
    refine W.iret hx hb hr (fun t ht hW => eMi (nI 1) (nI 0) ?_ (hP.sub [0] rfl) ht (hS.F ht)) hS.2.2 dX5_multiplicity_38
    exact rfl
  · refine lv_iload_n hx hb dX5_multiplicity_5 rfl (lv_at hl 1 rfl) ?_
    refine lv_aload_n hx hb dX5_multiplicity_6 rfl (lv_at hl 0 rfl) ?_
    refine va_get (D := (dC, dI)) (ci := 6) (v := .int 0) (C := RX5) (T := TX5) (N := 36) hx hb hts hinX5 hown hK hP 0 rfl rfl 8 (by decide) (hts (.fieldLink RX5 224 "ResidueRowsModel" "keptMany" "I") (by decide +kernel)) (fun _ h9 => h9) rfl dX5_multiplicity_7 ?_
    refine lv_icmp_lt (tgt := 17) hx hb dX5_multiplicity_10 (by decide) (fun hc10 => ?_) (fun hc10 => ?_)
    · exact absurd hc10 hc2
    · refine lv_iconst (v := nI 1) hx hb dX5_multiplicity_13 (by decide +kernel) ?_
      refine lv_goto (tgt := 18) hx hb dX5_multiplicity_14 (by decide) ?_
      refine va_put (D := (dC, dI)) (ci := 6) (v := .int (nI 1)) (ty := .int) (C := RX5) (T := TX5) (N := 36) hx hb hts hinX5 tyX5 tyX5_ok nmX5 hown hK hP hD hS 0 rfl rfl 0 (by decide) (hts (.fieldLink RX5 108 "ResidueRowsModel" "thrown" "I") (by decide +kernel)) (fun _ h9 => h9) rfl (by decide +kernel) rfl rfl (Nat.le_of_ble_eq_true rfl) dX5_multiplicity_18 (fun H locs hP hD hS => ?_)
      have hP : va_P (dC, dI) vwCl (mW ad ck L ln pr (nI 1) (nI 0)) H := hP
      have hD : va_D A (mW ad ck L ln pr (nI 1) (nI 0)) := hD
      refine lv_aload_n hx hb dX5_multiplicity_21 rfl (lv_at hl 0 rfl) ?_
      refine va_get (D := (dC, dI)) (ci := 6) (v := .int (nI 1)) (C := RX5) (T := TX5) (N := 36) hx hb hts hinX5 hown hK hP 0 rfl rfl 0 (by decide) (hts (.fieldLink RX5 108 "ResidueRowsModel" "thrown" "I") (by decide +kernel)) (fun _ h9 => h9) rfl dX5_multiplicity_22 ?_
      refine lv_if_le (tgt := 32) hx hb dX5_multiplicity_25 (by decide) (fun hcc => absurd hcc (by decide +kernel)) (fun _ => ?_)
      refine lv_iconst (v := nI 0) hx hb dX5_multiplicity_28 (by decide +kernel) ?_
      refine lv_goto (tgt := 38) hx hb dX5_multiplicity_29 (by decide) ?_
      refine W.iret hx hb hr (fun t ht hW => eMi (nI 1) (nI 0) ?_ (hP.sub [0] rfl) ht (hS.F ht)) hS.2.2 dX5_multiplicity_38
      exact rfl

abbrev vX5_lift : List Cond := .code yX5_lift cX5_lift 11 (some .int) :: mWS
set_option maxHeartbeats 4000000 in
set_option maxRecDepth 100000 in
/-- lift, the first call: nothing was factored -/
theorem c_X5_lift (l : Launch) (dC : Nat → ClassId) (dI : Nat → Nat → Nat) (ad : Nat → Nat) (ck : Nat → ClassId) (L : List Nat) (ln : Nat → Nat) (pr : Nat) (hok : mOk ad L ln pr) (sz : Nat) (th : Int32) (p0 : Int32) (p1 : Int32) : Met l yX5_lift vX5_lift ({ frames := 0, cells := 0, slots := 0, locals := 0 }) (va_Pc [.ref (ad 0), .int p0, .int p1] (mP (dC, dI) ck (mW ad ck L ln pr th (nI 0)) sz)) (va_Qi (fun _ u => u.1 = nI 1 : Int32 → Int32 × Int32 → Prop) (fun u t => va_P (dC, dI) vwCl (mO ad pr u.1 u.2) t.heap) (va_A (mW ad ck L ln pr th (nI 0)) sz)) 0 0 (va_A (mW ad ck L ln pr th (nI 0)) sz) := by
  refine Met.ofW (cc := cX5_lift) (maxL := 11) (ret := (some .int)) (by decide +kernel) rfl ?_
  intro p e s m args below meth c s₁ B hml hv
  obtain ⟨rfl, hsz, hP, hK, hD0⟩ := hv
  have hx := B.exec
  have hb := B.bytes
  have hr := B.returns
  have hts := atoms_spec (ws := vX5_lift) B.pre
  have hown : s.vm.findClass RX5 = some m.cls := findClass_of_methodNamed B.named
  have hlocks := B.notSynchronized
  subst hsz
  have hD := hD0.self (sz := s.heap.size)
  generalize hAe : va_A (mW ad ck L ln pr th (nI 0)) s.heap.size = A at hD ⊢
  have hA : ∀ q : Nat, s.heap.size ≤ q → A q := fun q h => by rw [← hAe]; exact Or.inr h
  have hS : va_S A s.heap s.heap [] := va_S.rf
  have hinX5 : ∀ w ∈ wsX50, w ∈ vX5_lift := fun w h => List.mem_cons_of_mem _ (inMX5 w h)
  have hpr2 := hok.2.1.1
  have hpr31 := hok.2.2
  have hl := lv_entry ([.ref (ad 0), .int p0, .int p1]) (n := 11) (Nat.le_of_ble_eq_true rfl)
  rw [lg_entry_eq]
  generalize (lg_sl ([.ref (ad 0), .int p0, .int p1]) ++ List.replicate (11 - (lg_sl ([.ref (ad 0), .int p0, .int p1])).length) Slot.unset).toArray = ls at hl ⊢
  have hl : lv_has ls 11 [(0, .ref (ad 0)), (1, .int p0), (2, .int p1)] := hl
  obtain ⟨H, hHe⟩ : ∃ H : Heap, H = s.heap := ⟨_, rfl⟩
  have hP : va_P (dC, dI) vwCl (mW ad ck L ln pr th (nI 0)) H := by rw [hHe]; exact hP
  have hS : va_S A s.heap H [] := by rw [hHe]; exact hS
  suffices hgo : W p l e (headSpec vX5_lift ({ frames := 0, cells := 0, slots := 0, locals := 0 })).room s m ([.ref (ad 0), .int p0, .int p1] : List Value).toArray below meth c H [] 0 0 (MQ below (va_Qi (fun _ u => u.1 = nI 1 : Int32 → Int32 × Int32 → Prop) (fun u t => va_P (dC, dI) vwCl (mO ad pr u.1 u.2) t.heap) A) ([.ref (ad 0), .int p0, .int p1] : List Value).toArray s 0 0 A) (F0 m 0 ls []) by rw [hHe] at hgo; exact hgo
  refine lv_aload_n hx hb dX5_lift_0 rfl (lv_at hl 0 rfl) ?_
  refine lv_iload_n hx hb dX5_lift_1 rfl (lv_at hl 1 rfl) ?_
  refine lv_if_lt (tgt := 13) hx hb dX5_lift_2 (by decide) (fun hc2 => ?_) (fun hc2 => ?_)
  · refine lv_iconst (v := nI 1) hx hb dX5_lift_13 (by decide +kernel) ?_
    refine lv_goto (tgt := 50) hx hb dX5_lift_14 (by decide) ?_
    refine va_put (D := (dC, dI)) (ci := 6) (v := .int (nI 1)) (ty := .int) (C := RX5) (T := TX5) (N := 36) hx hb hts hinX5 tyX5 tyX5_ok nmX5 hown hK hP hD hS 0 rfl rfl 0 (by decide) (hts (.fieldLink RX5 108 "ResidueRowsModel" "thrown" "I") (by decide +kernel)) (fun _ h9 => h9) rfl (by decide +kernel) rfl rfl (Nat.le_of_ble_eq_true rfl) dX5_lift_50 (fun H locs hP hD hS => ?_)
    have hP : va_P (dC, dI) vwCl (mW ad ck L ln pr (nI 1) (nI 0)) H := hP
    have hD : va_D A (mW ad ck L ln pr (nI 1) (nI 0)) := hD
    refine lv_aload_n hx hb dX5_lift_53 rfl (lv_at hl 0 rfl) ?_
    refine va_get (D := (dC, dI)) (ci := 6) (v := .int (nI 1)) (C := RX5) (T := TX5) (N := 36) hx hb hts hinX5 hown hK hP 0 rfl rfl 0 (by decide) (hts (.fieldLink RX5 108 "ResidueRowsModel" "thrown" "I") (by decide +kernel)) (fun _ h9 => h9) rfl dX5_lift_54 ?_
    refine lv_if_le (tgt := 62) hx hb dX5_lift_57 (by decide) (fun hcc => absurd hcc (by decide +kernel)) (fun _ => ?_)
    refine lv_iconst (v := nI 0) hx hb dX5_lift_60 (by decide +kernel) ?_
    refine W.iret hx hb hr (fun t ht hW => eMi (nI 1) (nI 0) ?_ (hP.sub [0] rfl) ht (hS.F ht)) hS.2.2 dX5_lift_61
    exact rfl
  · refine lv_iload_n hx hb dX5_lift_5 rfl (lv_at hl 1 rfl) ?_
    refine lv_aload_n hx hb dX5_lift_6 rfl (lv_at hl 0 rfl) ?_
    refine va_get (D := (dC, dI)) (ci := 6) (v := .int 0) (C := RX5) (T := TX5) (N := 36) hx hb hts hinX5 hown hK hP 0 rfl rfl 8 (by decide) (hts (.fieldLink RX5 224 "ResidueRowsModel" "keptMany" "I") (by decide +kernel)) (fun _ h9 => h9) rfl dX5_lift_7 ?_
    refine lv_icmp_lt (tgt := 17) hx hb dX5_lift_10 (by decide) (fun hc10 => ?_) (fun hc10 => ?_)
    · exact absurd hc10 hc2
    · refine lv_iconst (v := nI 1) hx hb dX5_lift_13 (by decide +kernel) ?_
      refine lv_goto (tgt := 50) hx hb dX5_lift_14 (by decide) ?_
      refine va_put (D := (dC, dI)) (ci := 6) (v := .int (nI 1)) (ty := .int) (C := RX5) (T := TX5) (N := 36) hx hb hts hinX5 tyX5 tyX5_ok nmX5 hown hK hP hD hS 0 rfl rfl 0 (by decide) (hts (.fieldLink RX5 108 "ResidueRowsModel" "thrown" "I") (by decide +kernel)) (fun _ h9 => h9) rfl (by decide +kernel) rfl rfl (Nat.le_of_ble_eq_true rfl) dX5_lift_50 (fun H locs hP hD hS => ?_)
      have hP : va_P (dC, dI) vwCl (mW ad ck L ln pr (nI 1) (nI 0)) H := hP
      have hD : va_D A (mW ad ck L ln pr (nI 1) (nI 0)) := hD
      refine lv_aload_n hx hb dX5_lift_53 rfl (lv_at hl 0 rfl) ?_
      refine va_get (D := (dC, dI)) (ci := 6) (v := .int (nI 1)) (C := RX5) (T := TX5) (N := 36) hx hb hts hinX5 hown hK hP 0 rfl rfl 0 (by decide) (hts (.fieldLink RX5 108 "ResidueRowsModel" "thrown" "I") (by decide +kernel)) (fun _ h9 => h9) rfl dX5_lift_54 ?_
      refine lv_if_le (tgt := 62) hx hb dX5_lift_57 (by decide) (fun hcc => absurd hcc (by decide +kernel)) (fun _ => ?_)
      refine lv_iconst (v := nI 0) hx hb dX5_lift_60 (by decide +kernel) ?_
      refine W.iret hx hb hr (fun t ht hW => eMi (nI 1) (nI 0) ?_ (hP.sub [0] rfl) ht (hS.F ht)) hS.2.2 dX5_lift_61
      exact rfl

abbrev vX5_at : List Cond := .code yX5_at cX5_at 3 (some .int) :: mWS
set_option maxHeartbeats 4000000 in
set_option maxRecDepth 100000 in
/-- at(p, k), the first call -/
theorem c_X5_at (l : Launch) (dC : Nat → ClassId) (dI : Nat → Nat → Nat) (ad : Nat → Nat) (ck : Nat → ClassId) (L : List Nat) (ln : Nat → Nat) (pr : Nat) (hok : mOk ad L ln pr) (sz : Nat) (th : Int32) (p0 p1 : Int32) : Met l yX5_at vX5_at ({ frames := 1, cells := 0, slots := 0, locals := 21 }) (va_Pc [.ref (ad 0), .int p0, .int p1] (mP (dC, dI) ck (mW ad ck L ln pr th (nI 0)) sz)) (va_Qi (fun r u => (u.1 = nI 0 ∧ (inR p0 96 ∧ inR p1 32) ∧ r = nI 0) ∨ (u.1 = nI 1 ∧ ¬ (inR p0 96 ∧ inR p1 32)) : Int32 → Int32 × Int32 → Prop) (fun u t => va_P (dC, dI) vwCl (mO ad pr u.1 u.2) t.heap) (va_A (mW ad ck L ln pr th (nI 0)) sz)) 0 0 (va_A (mW ad ck L ln pr th (nI 0)) sz) := by
  refine Met.ofW (cc := cX5_at) (maxL := 3) (ret := (some .int)) (by decide +kernel) rfl ?_
  intro p e s m args below meth c s₁ B hml hv
  obtain ⟨rfl, hsz, hP, hK, hD0⟩ := hv
  have hx := B.exec
  have hb := B.bytes
  have hr := B.returns
  have hts := atoms_spec (ws := vX5_at) B.pre
  have hown : s.vm.findClass RX5 = some m.cls := findClass_of_methodNamed B.named
  have hlocks := B.notSynchronized
  subst hsz
  have hD := hD0.self (sz := s.heap.size)
  generalize hAe : va_A (mW ad ck L ln pr th (nI 0)) s.heap.size = A at hD ⊢
  have hA : ∀ q : Nat, s.heap.size ≤ q → A q := fun q h => by rw [← hAe]; exact Or.inr h
  have hS : va_S A s.heap s.heap [] := va_S.rf
  have hinX5 : ∀ w ∈ wsX50, w ∈ vX5_at := fun w h => List.mem_cons_of_mem _ (inMX5 w h)
  have hpr2 := hok.2.1.1
  have hpr31 := hok.2.2
  have hl := lv_entry ([.ref (ad 0), .int p0, .int p1]) (n := 3) (Nat.le_of_ble_eq_true rfl)
  rw [lg_entry_eq]
  generalize (lg_sl ([.ref (ad 0), .int p0, .int p1]) ++ List.replicate (3 - (lg_sl ([.ref (ad 0), .int p0, .int p1])).length) Slot.unset).toArray = ls at hl ⊢
  have hl : lv_has ls 3 [(0, .ref (ad 0)), (1, .int p0), (2, .int p1)] := hl
  obtain ⟨H, hHe⟩ : ∃ H : Heap, H = s.heap := ⟨_, rfl⟩
  have hP : va_P (dC, dI) vwCl (mW ad ck L ln pr th (nI 0)) H := by rw [hHe]; exact hP
  have hS : va_S A s.heap H [] := by rw [hHe]; exact hS
  suffices hgo : W p l e (headSpec vX5_at ({ frames := 1, cells := 0, slots := 0, locals := 21 })).room s m ([.ref (ad 0), .int p0, .int p1] : List Value).toArray below meth c H [] 0 0 (MQ below (va_Qi (fun r u => (u.1 = nI 0 ∧ (inR p0 96 ∧ inR p1 32) ∧ r = nI 0) ∨ (u.1 = nI 1 ∧ ¬ (inR p0 96 ∧ inR p1 32)) : Int32 → Int32 × Int32 → Prop) (fun u t => va_P (dC, dI) vwCl (mO ad pr u.1 u.2) t.heap) A) ([.ref (ad 0), .int p0, .int p1] : List Value).toArray s 0 0 A) (F0 m 0 ls []) by rw [hHe] at hgo; exact hgo
  by_cases h0 : inR p0 96
  · skip
    obtain ⟨i, hi, rfl⟩ := id h0
    refine lv_aload_n hx hb dX5_at_0 rfl (lv_at hl 0 rfl) ?_
    refine lv_aload_n hx hb dX5_at_1 rfl (lv_at hl 0 rfl) ?_
    refine lv_iload_n hx hb dX5_at_2 rfl (lv_at hl 1 rfl) ?_
    refine cc_i (va_runV (As := [.int (nI i)]) (rest := [.ref (ad 0)]) ⟨hx, hb, hml, hown, hts⟩ (c_X5_isRow l dC dI ad ck L ln pr hok H.size th (nI i)) (cwV 1 hts (gMv (by decide +kernel)) rfl rfl rfl (by decide +kernel) ⟨Nat.le_of_ble_eq_true rfl, Nat.le_of_ble_eq_true rfl⟩) ⟨mP_blind, va_recv hK hP (ci := 6) (q0 := 0) rfl rfl, mP_of hP hK hD⟩ rfl rfl hl.1 rfl (lv_room (Nat.le_of_ble_eq_true rfl)) dX5_at_3 ⟨Nat.le_of_ble_eq_true rfl, Nat.le_of_ble_eq_true rfl⟩) hS (cF hD hS hA) (fun r_2 H locs hw_1 hP hS => ?_)
    have e9 : r_2 = nI 1 := hw_1.elim (fun h9 => h9.1) (fun h9 => absurd h0 h9.2)
    subst e9
    refine lv_if_eq (tgt := 19) hx hb dX5_at_6 (by decide) (fun hcc => absurd hcc (by decide +kernel)) (fun _ => ?_)
    refine lv_iload_n hx hb dX5_at_9 rfl (lv_at hl 2 rfl) ?_
    refine lv_if_lt (tgt := 19) hx hb dX5_at_10 (by decide) (fun hc10 => ?_) (fun hc10 => ?_)
    · refine lv_iconst (v := nI 1) hx hb dX5_at_19 (by decide +kernel) ?_
      refine lv_goto (tgt := 24) hx hb dX5_at_20 (by decide) ?_
      refine va_put (D := (dC, dI)) (ci := 6) (v := .int (nI 1)) (ty := .int) (C := RX5) (T := TX5) (N := 36) hx hb hts hinX5 tyX5 tyX5_ok nmX5 hown hK hP hD hS 0 rfl rfl 0 (by decide) (hts (.fieldLink RX5 108 "ResidueRowsModel" "thrown" "I") (by decide +kernel)) (fun _ h9 => h9) rfl (by decide +kernel) rfl rfl (Nat.le_of_ble_eq_true rfl) dX5_at_24 (fun H locs hP hD hS => ?_)
      have hP : va_P (dC, dI) vwCl (mW ad ck L ln pr (nI 1) (nI 0)) H := hP
      have hD : va_D A (mW ad ck L ln pr (nI 1) (nI 0)) := hD
      refine lv_aload_n hx hb dX5_at_27 rfl (lv_at hl 0 rfl) ?_
      refine va_get (D := (dC, dI)) (ci := 6) (v := .int (nI 1)) (C := RX5) (T := TX5) (N := 36) hx hb hts hinX5 hown hK hP 0 rfl rfl 0 (by decide) (hts (.fieldLink RX5 108 "ResidueRowsModel" "thrown" "I") (by decide +kernel)) (fun _ h9 => h9) rfl dX5_at_28 ?_
      refine lv_if_le (tgt := 38) hx hb dX5_at_31 (by decide) (fun hcc => absurd hcc (by decide +kernel)) (fun _ => ?_)
      refine lv_iconst (v := nI 0) hx hb dX5_at_34 (by decide +kernel) ?_
      refine lv_goto (tgt := 50) hx hb dX5_at_35 (by decide) ?_
      refine W.iret hx hb hr (fun t ht hW => eMi (nI 1) (nI 0) ?_ (hP.sub [0] rfl) ht (hS.F ht)) hS.2.2 dX5_at_50
      exact Or.inr ⟨rfl, fun h => inR_neg (by decide) hc10 h.2⟩
    · refine lv_iload_n hx hb dX5_at_13 rfl (lv_at hl 2 rfl) ?_
      refine lv_bipush (v := nI 32) hx hb dX5_at_14 (by decide +kernel) ?_
      refine lv_icmp_lt (tgt := 23) hx hb dX5_at_16 (by decide) (fun hc16 => ?_) (fun hc16 => ?_)
      · have h1 : inR p1 32 := inR_yes (by decide) hc10 hc16
        obtain ⟨k, hk, rfl⟩ := id h1
        refine lv_iconst (v := nI 0) hx hb dX5_at_23 (by decide +kernel) ?_
        refine va_put (D := (dC, dI)) (ci := 6) (v := .int (nI 0)) (ty := .int) (C := RX5) (T := TX5) (N := 36) hx hb hts hinX5 tyX5 tyX5_ok nmX5 hown hK hP hD hS 0 rfl rfl 0 (by decide) (hts (.fieldLink RX5 108 "ResidueRowsModel" "thrown" "I") (by decide +kernel)) (fun _ h9 => h9) rfl (by decide +kernel) rfl rfl (Nat.le_of_ble_eq_true rfl) dX5_at_24 (fun H locs hP hD hS => ?_)
        have hP : va_P (dC, dI) vwCl (mW ad ck L ln pr (nI 0) (nI 0)) H := hP
        have hD : va_D A (mW ad ck L ln pr (nI 0) (nI 0)) := hD
        refine lv_aload_n hx hb dX5_at_27 rfl (lv_at hl 0 rfl) ?_
        refine va_get (D := (dC, dI)) (ci := 6) (v := .int (nI 0)) (C := RX5) (T := TX5) (N := 36) hx hb hts hinX5 hown hK hP 0 rfl rfl 0 (by decide) (hts (.fieldLink RX5 108 "ResidueRowsModel" "thrown" "I") (by decide +kernel)) (fun _ h9 => h9) rfl dX5_at_28 ?_
        refine lv_if_le (tgt := 38) hx hb dX5_at_31 (by decide) (fun _ => ?_) (fun hcc => absurd (by decide +kernel) hcc)
        refine lv_aload_n hx hb dX5_at_38 rfl (lv_at hl 0 rfl) ?_
        refine va_get (D := (dC, dI)) (ci := 6) (v := .ref (ad 2)) (C := RX5) (T := TX5) (N := 36) hx hb hts hinX5 hown hK hP 0 rfl rfl 2 (by decide) (hts (.fieldLink RX5 7 "ResidueRowsModel" "rows" "[J") (by decide +kernel)) (fun _ h9 => h9) rfl dX5_at_39 ?_
        refine lv_bipush (v := nI 32) hx hb dX5_at_42 (by decide +kernel) ?_
        refine lv_iload_n hx hb dX5_at_44 rfl (lv_at hl 1 rfl) ?_
        refine lv_imul hx hb dX5_at_45 ?_
        refine zz_i (y := nI (32 * i)) (pk_mul 32 i) ?_
        refine lv_iload_n hx hb dX5_at_46 rfl (lv_at hl 2 rfl) ?_
        refine lv_iadd hx hb dX5_at_47 ?_
        refine zz_i (y := nI (32 * i + k)) (nI_add _ _) ?_
        refine zq_ld hx hb hK hP 0 rfl hok.1.1 (vp_in_nI (by omega) (by decide)) dX5_at_48 ?_
        refine lv_l2i (v := nI 0) hx hb dX5_at_49 (by decide +kernel) ?_
        refine W.iret hx hb hr (fun t ht hW => eMi (nI 0) (nI 0) ?_ (hP.sub [0] rfl) ht (hS.F ht)) hS.2.2 dX5_at_50
        exact Or.inl ⟨rfl, ⟨h0, h1⟩, rfl⟩
      · refine lv_iconst (v := nI 1) hx hb dX5_at_19 (by decide +kernel) ?_
        refine lv_goto (tgt := 24) hx hb dX5_at_20 (by decide) ?_
        refine va_put (D := (dC, dI)) (ci := 6) (v := .int (nI 1)) (ty := .int) (C := RX5) (T := TX5) (N := 36) hx hb hts hinX5 tyX5 tyX5_ok nmX5 hown hK hP hD hS 0 rfl rfl 0 (by decide) (hts (.fieldLink RX5 108 "ResidueRowsModel" "thrown" "I") (by decide +kernel)) (fun _ h9 => h9) rfl (by decide +kernel) rfl rfl (Nat.le_of_ble_eq_true rfl) dX5_at_24 (fun H locs hP hD hS => ?_)
        have hP : va_P (dC, dI) vwCl (mW ad ck L ln pr (nI 1) (nI 0)) H := hP
        have hD : va_D A (mW ad ck L ln pr (nI 1) (nI 0)) := hD
        refine lv_aload_n hx hb dX5_at_27 rfl (lv_at hl 0 rfl) ?_
        refine va_get (D := (dC, dI)) (ci := 6) (v := .int (nI 1)) (C := RX5) (T := TX5) (N := 36) hx hb hts hinX5 hown hK hP 0 rfl rfl 0 (by decide) (hts (.fieldLink RX5 108 "ResidueRowsModel" "thrown" "I") (by decide +kernel)) (fun _ h9 => h9) rfl dX5_at_28 ?_
        refine lv_if_le (tgt := 38) hx hb dX5_at_31 (by decide) (fun hcc => absurd hcc (by decide +kernel)) (fun _ => ?_)
        refine lv_iconst (v := nI 0) hx hb dX5_at_34 (by decide +kernel) ?_
        refine lv_goto (tgt := 50) hx hb dX5_at_35 (by decide) ?_
        refine W.iret hx hb hr (fun t ht hW => eMi (nI 1) (nI 0) ?_ (hP.sub [0] rfl) ht (hS.F ht)) hS.2.2 dX5_at_50
        exact Or.inr ⟨rfl, fun h => inR_big (by decide) hc16 h.2⟩
  · skip
    refine lv_aload_n hx hb dX5_at_0 rfl (lv_at hl 0 rfl) ?_
    refine lv_aload_n hx hb dX5_at_1 rfl (lv_at hl 0 rfl) ?_
    refine lv_iload_n hx hb dX5_at_2 rfl (lv_at hl 1 rfl) ?_
    refine cc_i (va_runV (As := [.int p0]) (rest := [.ref (ad 0)]) ⟨hx, hb, hml, hown, hts⟩ (c_X5_isRow l dC dI ad ck L ln pr hok H.size th p0) (cwV 1 hts (gMv (by decide +kernel)) rfl rfl rfl (by decide +kernel) ⟨Nat.le_of_ble_eq_true rfl, Nat.le_of_ble_eq_true rfl⟩) ⟨mP_blind, va_recv hK hP (ci := 6) (q0 := 0) rfl rfl, mP_of hP hK hD⟩ rfl rfl hl.1 rfl (lv_room (Nat.le_of_ble_eq_true rfl)) dX5_at_3 ⟨Nat.le_of_ble_eq_true rfl, Nat.le_of_ble_eq_true rfl⟩) hS (cF hD hS hA) (fun r_4 H locs hw_3 hP hS => ?_)
    have e9 : r_4 = nI 0 := hw_3.elim (fun h9 => absurd h9.2 h0) (fun h9 => h9.1)
    subst e9
    refine lv_if_eq (tgt := 19) hx hb dX5_at_6 (by decide) (fun _ => ?_) (fun hcc => absurd (by decide +kernel) hcc)
    refine lv_iconst (v := nI 1) hx hb dX5_at_19 (by decide +kernel) ?_
    refine lv_goto (tgt := 24) hx hb dX5_at_20 (by decide) ?_
    refine va_put (D := (dC, dI)) (ci := 6) (v := .int (nI 1)) (ty := .int) (C := RX5) (T := TX5) (N := 36) hx hb hts hinX5 tyX5 tyX5_ok nmX5 hown hK hP hD hS 0 rfl rfl 0 (by decide) (hts (.fieldLink RX5 108 "ResidueRowsModel" "thrown" "I") (by decide +kernel)) (fun _ h9 => h9) rfl (by decide +kernel) rfl rfl (Nat.le_of_ble_eq_true rfl) dX5_at_24 (fun H locs hP hD hS => ?_)
    have hP : va_P (dC, dI) vwCl (mW ad ck L ln pr (nI 1) (nI 0)) H := hP
    have hD : va_D A (mW ad ck L ln pr (nI 1) (nI 0)) := hD
    refine lv_aload_n hx hb dX5_at_27 rfl (lv_at hl 0 rfl) ?_
    refine va_get (D := (dC, dI)) (ci := 6) (v := .int (nI 1)) (C := RX5) (T := TX5) (N := 36) hx hb hts hinX5 hown hK hP 0 rfl rfl 0 (by decide) (hts (.fieldLink RX5 108 "ResidueRowsModel" "thrown" "I") (by decide +kernel)) (fun _ h9 => h9) rfl dX5_at_28 ?_
    refine lv_if_le (tgt := 38) hx hb dX5_at_31 (by decide) (fun hcc => absurd hcc (by decide +kernel)) (fun _ => ?_)
    refine lv_iconst (v := nI 0) hx hb dX5_at_34 (by decide +kernel) ?_
    refine lv_goto (tgt := 50) hx hb dX5_at_35 (by decide) ?_
    refine W.iret hx hb hr (fun t ht hW => eMi (nI 1) (nI 0) ?_ (hP.sub [0] rfl) ht (hS.F ht)) hS.2.2 dX5_at_50
    exact Or.inr ⟨rfl, fun h => h0 h.1⟩

abbrev vX5_set : List Cond := .code yX5_set cX5_set 7 (some .boolean) :: mWS
set_option maxHeartbeats 4000000 in
set_option maxRecDepth 100000 in
/-- set(p, k, v), the first call -/
theorem c_X5_set (l : Launch) (dC : Nat → ClassId) (dI : Nat → Nat → Nat) (ad : Nat → Nat) (ck : Nat → ClassId) (L : List Nat) (ln : Nat → Nat) (pr : Nat) (hok : mOk ad L ln pr) (sz : Nat) (th : Int32) (p0 p1 p2 : Int32) : Met l yX5_set vX5_set ({ frames := 1, cells := 0, slots := 0, locals := 24 }) (va_Pc [.ref (ad 0), .int p0, .int p1, .int p2] (mP (dC, dI) ck (mW ad ck L ln pr th (nI 0)) sz)) (va_Qi (fun r u => (u.1 = nI 0 ∧ (inR p0 96 ∧ inR p1 32) ∧ ((r = nI 1 ∧ (p2.toInt % pr).toNat ≠ 0) ∨ (r = nI 0 ∧ (p2.toInt % pr).toNat = 0))) ∨ (u.1 = nI 1 ∧ ¬ (inR p0 96 ∧ inR p1 32)) : Int32 → Int32 × Int32 → Prop) (fun u t => va_P (dC, dI) vwCl (mO ad pr u.1 u.2) t.heap) (va_A (mW ad ck L ln pr th (nI 0)) sz)) 0 0 (va_A (mW ad ck L ln pr th (nI 0)) sz) := by
  refine Met.ofW (cc := cX5_set) (maxL := 7) (ret := (some .boolean)) (by decide +kernel) rfl ?_
  intro p e s m args below meth c s₁ B hml hv
  obtain ⟨rfl, hsz, hP, hK, hD0⟩ := hv
  have hx := B.exec
  have hb := B.bytes
  have hr := B.returns
  have hts := atoms_spec (ws := vX5_set) B.pre
  have hown : s.vm.findClass RX5 = some m.cls := findClass_of_methodNamed B.named
  have hlocks := B.notSynchronized
  subst hsz
  have hD := hD0.self (sz := s.heap.size)
  generalize hAe : va_A (mW ad ck L ln pr th (nI 0)) s.heap.size = A at hD ⊢
  have hA : ∀ q : Nat, s.heap.size ≤ q → A q := fun q h => by rw [← hAe]; exact Or.inr h
  have hS : va_S A s.heap s.heap [] := va_S.rf
  have hinX5 : ∀ w ∈ wsX50, w ∈ vX5_set := fun w h => List.mem_cons_of_mem _ (inMX5 w h)
  have hpr2 := hok.2.1.1
  have hpr31 := hok.2.2
  have hl := lv_entry ([.ref (ad 0), .int p0, .int p1, .int p2]) (n := 7) (Nat.le_of_ble_eq_true rfl)
  rw [lg_entry_eq]
  generalize (lg_sl ([.ref (ad 0), .int p0, .int p1, .int p2]) ++ List.replicate (7 - (lg_sl ([.ref (ad 0), .int p0, .int p1, .int p2])).length) Slot.unset).toArray = ls at hl ⊢
  have hl : lv_has ls 7 [(0, .ref (ad 0)), (1, .int p0), (2, .int p1), (3, .int p2)] := hl
  obtain ⟨H, hHe⟩ : ∃ H : Heap, H = s.heap := ⟨_, rfl⟩
  have hP : va_P (dC, dI) vwCl (mW ad ck L ln pr th (nI 0)) H := by rw [hHe]; exact hP
  have hS : va_S A s.heap H [] := by rw [hHe]; exact hS
  suffices hgo : W p l e (headSpec vX5_set ({ frames := 1, cells := 0, slots := 0, locals := 24 })).room s m ([.ref (ad 0), .int p0, .int p1, .int p2] : List Value).toArray below meth c H [] 0 0 (MQ below (va_Qi (fun r u => (u.1 = nI 0 ∧ (inR p0 96 ∧ inR p1 32) ∧ ((r = nI 1 ∧ (p2.toInt % pr).toNat ≠ 0) ∨ (r = nI 0 ∧ (p2.toInt % pr).toNat = 0))) ∨ (u.1 = nI 1 ∧ ¬ (inR p0 96 ∧ inR p1 32)) : Int32 → Int32 × Int32 → Prop) (fun u t => va_P (dC, dI) vwCl (mO ad pr u.1 u.2) t.heap) A) ([.ref (ad 0), .int p0, .int p1, .int p2] : List Value).toArray s 0 0 A) (F0 m 0 ls []) by rw [hHe] at hgo; exact hgo
  by_cases h0 : inR p0 96
  · skip
    obtain ⟨i, hi, rfl⟩ := id h0
    refine lv_aload_n hx hb dX5_set_0 rfl (lv_at hl 0 rfl) ?_
    refine lv_aload_n hx hb dX5_set_1 rfl (lv_at hl 0 rfl) ?_
    refine lv_iload_n hx hb dX5_set_2 rfl (lv_at hl 1 rfl) ?_
    refine cc_i (va_runV (As := [.int (nI i)]) (rest := [.ref (ad 0)]) ⟨hx, hb, hml, hown, hts⟩ (c_X5_isRow l dC dI ad ck L ln pr hok H.size th (nI i)) (cwV 1 hts (gMv (by decide +kernel)) rfl rfl rfl (by decide +kernel) ⟨Nat.le_of_ble_eq_true rfl, Nat.le_of_ble_eq_true rfl⟩) ⟨mP_blind, va_recv hK hP (ci := 6) (q0 := 0) rfl rfl, mP_of hP hK hD⟩ rfl rfl hl.1 rfl (lv_room (Nat.le_of_ble_eq_true rfl)) dX5_set_3 ⟨Nat.le_of_ble_eq_true rfl, Nat.le_of_ble_eq_true rfl⟩) hS (cF hD hS hA) (fun r_2 H locs hw_1 hP hS => ?_)
    have e9 : r_2 = nI 1 := hw_1.elim (fun h9 => h9.1) (fun h9 => absurd h0 h9.2)
    subst e9
    refine lv_if_eq (tgt := 19) hx hb dX5_set_6 (by decide) (fun hcc => absurd hcc (by decide +kernel)) (fun _ => ?_)
    refine lv_iload_n hx hb dX5_set_9 rfl (lv_at hl 2 rfl) ?_
    refine lv_if_lt (tgt := 19) hx hb dX5_set_10 (by decide) (fun hc10 => ?_) (fun hc10 => ?_)
    · refine lv_iconst (v := nI 1) hx hb dX5_set_19 (by decide +kernel) ?_
      refine lv_goto (tgt := 24) hx hb dX5_set_20 (by decide) ?_
      refine va_put (D := (dC, dI)) (ci := 6) (v := .int (nI 1)) (ty := .int) (C := RX5) (T := TX5) (N := 36) hx hb hts hinX5 tyX5 tyX5_ok nmX5 hown hK hP hD hS 0 rfl rfl 0 (by decide) (hts (.fieldLink RX5 108 "ResidueRowsModel" "thrown" "I") (by decide +kernel)) (fun _ h9 => h9) rfl (by decide +kernel) rfl rfl (Nat.le_of_ble_eq_true rfl) dX5_set_24 (fun H locs hP hD hS => ?_)
      have hP : va_P (dC, dI) vwCl (mW ad ck L ln pr (nI 1) (nI 0)) H := hP
      have hD : va_D A (mW ad ck L ln pr (nI 1) (nI 0)) := hD
      refine lv_aload_n hx hb dX5_set_27 rfl (lv_at hl 0 rfl) ?_
      refine va_get (D := (dC, dI)) (ci := 6) (v := .int (nI 1)) (C := RX5) (T := TX5) (N := 36) hx hb hts hinX5 hown hK hP 0 rfl rfl 0 (by decide) (hts (.fieldLink RX5 108 "ResidueRowsModel" "thrown" "I") (by decide +kernel)) (fun _ h9 => h9) rfl dX5_set_28 ?_
      refine lv_if_le (tgt := 36) hx hb dX5_set_31 (by decide) (fun hcc => absurd hcc (by decide +kernel)) (fun _ => ?_)
      refine lv_iconst (v := nI 0) hx hb dX5_set_34 (by decide +kernel) ?_
      refine W.zret hx hb hr (by rfl) (fun t ht hW => eMi (nI 1) (nI 0) ?_ (hP.sub [0] rfl) ht (hS.F ht)) hS.2.2 dX5_set_35
      exact Or.inr ⟨rfl, fun h => inR_neg (by decide) hc10 h.2⟩
    · refine lv_iload_n hx hb dX5_set_13 rfl (lv_at hl 2 rfl) ?_
      refine lv_bipush (v := nI 32) hx hb dX5_set_14 (by decide +kernel) ?_
      refine lv_icmp_lt (tgt := 23) hx hb dX5_set_16 (by decide) (fun hc16 => ?_) (fun hc16 => ?_)
      · have h1 : inR p1 32 := inR_yes (by decide) hc10 hc16
        obtain ⟨k, hk, rfl⟩ := id h1
        refine lv_iconst (v := nI 0) hx hb dX5_set_23 (by decide +kernel) ?_
        refine va_put (D := (dC, dI)) (ci := 6) (v := .int (nI 0)) (ty := .int) (C := RX5) (T := TX5) (N := 36) hx hb hts hinX5 tyX5 tyX5_ok nmX5 hown hK hP hD hS 0 rfl rfl 0 (by decide) (hts (.fieldLink RX5 108 "ResidueRowsModel" "thrown" "I") (by decide +kernel)) (fun _ h9 => h9) rfl (by decide +kernel) rfl rfl (Nat.le_of_ble_eq_true rfl) dX5_set_24 (fun H locs hP hD hS => ?_)
        have hP : va_P (dC, dI) vwCl (mW ad ck L ln pr (nI 0) (nI 0)) H := hP
        have hD : va_D A (mW ad ck L ln pr (nI 0) (nI 0)) := hD
        refine lv_aload_n hx hb dX5_set_27 rfl (lv_at hl 0 rfl) ?_
        refine va_get (D := (dC, dI)) (ci := 6) (v := .int (nI 0)) (C := RX5) (T := TX5) (N := 36) hx hb hts hinX5 hown hK hP 0 rfl rfl 0 (by decide) (hts (.fieldLink RX5 108 "ResidueRowsModel" "thrown" "I") (by decide +kernel)) (fun _ h9 => h9) rfl dX5_set_28 ?_
        refine lv_if_le (tgt := 36) hx hb dX5_set_31 (by decide) (fun _ => ?_) (fun hcc => absurd (by decide +kernel) hcc)
        refine lv_aload_n hx hb dX5_set_36 rfl (lv_at hl 0 rfl) ?_
        refine va_get (D := (dC, dI)) (ci := 6) (v := .ref (ad 2)) (C := RX5) (T := TX5) (N := 36) hx hb hts hinX5 hown hK hP 0 rfl rfl 2 (by decide) (hts (.fieldLink RX5 7 "ResidueRowsModel" "rows" "[J") (by decide +kernel)) (fun _ h9 => h9) rfl dX5_set_37 ?_
        refine lv_bipush (v := nI 32) hx hb dX5_set_40 (by decide +kernel) ?_
        refine lv_iload_n hx hb dX5_set_42 rfl (lv_at hl 1 rfl) ?_
        refine lv_imul hx hb dX5_set_43 ?_
        refine zz_i (y := nI (32 * i)) (pk_mul 32 i) ?_
        refine lv_iload_n hx hb dX5_set_44 rfl (lv_at hl 2 rfl) ?_
        refine lv_iadd hx hb dX5_set_45 ?_
        refine zz_i (y := nI (32 * i + k)) (nI_add _ _) ?_
        refine zq_ld hx hb hK hP 0 rfl hok.1.1 (vp_in_nI (by omega) (by decide)) dX5_set_46 ?_
        refine lv_lstore (lv' := [(4, .long (lN 0)), (0, .ref (ad 0)), (1, .int (nI i)), (2, .int (nI k)), (3, .int p2)]) hx hb dX5_set_47 hl (by decide) rfl (fun ls hl => ?_)
        refine lv_iconst (v := nI 0) hx hb dX5_set_49 (by decide +kernel) ?_
        refine lv_istore (lv' := [(6, .int (nI 0)), (4, .long (lN 0)), (0, .ref (ad 0)), (1, .int (nI i)), (2, .int (nI k)), (3, .int p2)]) hx hb dX5_set_50 hl (by decide) rfl (fun ls hl => ?_)
        have LOOP52 : ∀ (f : Nat) (j : Nat), 32 - j < f → j ≤ 32 → ∀ (H : Heap) (locs : List Loc), va_P (dC, dI) vwCl (mW ad ck L ln pr (nI 0) (nI 0)) H → va_S A s.heap H locs → ∀ (ls : Array Slot), lv_has ls 7 [(6, .int (nI j)), (4, .long (lN 0)), (0, .ref (ad 0)), (1, .int (nI i)), (2, .int (nI k)), (3, .int p2)] → W p l e (headSpec vX5_set ({ frames := 1, cells := 0, slots := 0, locals := 24 })).room s m ([.ref (ad 0), .int (nI i), .int (nI k), .int p2] : List Value).toArray below meth c H locs 0 0 (MQ below (va_Qi (fun r u => (u.1 = nI 0 ∧ (inR (nI i) 96 ∧ inR (nI k) 32) ∧ ((r = nI 1 ∧ (p2.toInt % pr).toNat ≠ 0) ∨ (r = nI 0 ∧ (p2.toInt % pr).toNat = 0))) ∨ (u.1 = nI 1 ∧ ¬ (inR (nI i) 96 ∧ inR (nI k) 32)) : Int32 → Int32 × Int32 → Prop) (fun u t => va_P (dC, dI) vwCl (mO ad pr u.1 u.2) t.heap) A) ([.ref (ad 0), .int (nI i), .int (nI k), .int p2] : List Value).toArray s 0 0 A) (F0 m 52 ls []) := by
          intro f
          induction f with
          | zero => intro j hf; exact absurd hf (Nat.not_lt_zero _)
          | succ f ih =>
            intro j hf hjb H locs hP hS ls hl
            refine lv_iload hx hb dX5_set_52 (lv_at hl 0 rfl) ?_
            refine lv_bipush (v := nI 32) hx hb dX5_set_54 (by decide +kernel) ?_
            refine lv_icmp_ge (tgt := 84) hx hb dX5_set_56 (by decide) (fun hc56 => ?_) (fun hc56 => ?_)
            · refine lv_aload_n hx hb dX5_set_84 rfl (lv_at hl 2 rfl) ?_
              refine va_get (D := (dC, dI)) (ci := 6) (v := .ref (ad 2)) (C := RX5) (T := TX5) (N := 36) hx hb hts hinX5 hown hK hP 0 rfl rfl 2 (by decide) (hts (.fieldLink RX5 7 "ResidueRowsModel" "rows" "[J") (by decide +kernel)) (fun _ h9 => h9) rfl dX5_set_85 ?_
              refine lv_bipush (v := nI 32) hx hb dX5_set_88 (by decide +kernel) ?_
              refine lv_iload_n hx hb dX5_set_90 rfl (lv_at hl 3 rfl) ?_
              refine lv_imul hx hb dX5_set_91 ?_
              refine zz_i (y := nI (32 * i)) (pk_mul 32 i) ?_
              refine lv_iload_n hx hb dX5_set_92 rfl (lv_at hl 4 rfl) ?_
              refine lv_iadd hx hb dX5_set_93 ?_
              refine zz_i (y := nI (32 * i + k)) (nI_add _ _) ?_
              refine lv_aload_n hx hb dX5_set_94 rfl (lv_at hl 2 rfl) ?_
              refine lv_iload_n hx hb dX5_set_95 rfl (lv_at hl 5 rfl) ?_
              refine lv_i2l (v := p2.toInt64) hx hb dX5_set_96 (rfl) ?_
              refine cc_l (va_runV (As := [.long p2.toInt64]) (rest := [.int (nI (32 * i + k)), .ref (ad 2)]) ⟨hx, hb, hml, hown, hts⟩ (c_X5_modulo l dC dI ad ck L ln pr hok H.size (nI 0) p2.toInt64) (cwV 1 hts (gMv (by decide +kernel)) rfl rfl rfl (by decide +kernel) ⟨Nat.le_of_ble_eq_true rfl, Nat.le_of_ble_eq_true rfl⟩) ⟨mP_blind, va_recv hK hP (ci := 6) (q0 := 0) rfl rfl, mP_of hP hK hD⟩ rfl rfl hl.1 rfl (lv_room (Nat.le_of_ble_eq_true rfl)) dX5_set_97 ⟨Nat.le_of_ble_eq_true rfl, Nat.le_of_ble_eq_true rfl⟩) hS (cF hD hS hA) (fun r_4 H locs hw_3 hP hS => ?_)
              rw [Int32.toInt_toInt64] at hw_3
              have hq9 : (p2.toInt % pr).toNat < 2 ^ 31 := by have h1 := Int.emod_lt_of_pos p2.toInt (show (0 : Int) < pr by omega); omega
              refine zq_put hx hb hK hP hD hS 0 rfl hok.1.1 (fun k9 q9 h9 => ?_) (vp_in_nI (by omega) (by decide)) dX5_set_100 (fun H locs hP hS => ?_)
              · match k9, h9 with
                | 0, h9 => cases h9; exact fun h => nomatch h
                | k9 + 1, h9 => simp at h9
              refine lv_aload_n hx hb dX5_set_101 rfl (lv_at hl 2 rfl) ?_
              refine va_get (D := (dC, dI)) (ci := 6) (v := .ref (ad 2)) (C := RX5) (T := TX5) (N := 36) hx hb hts hinX5 hown hK hP 0 rfl rfl 2 (by decide) (hts (.fieldLink RX5 7 "ResidueRowsModel" "rows" "[J") (by decide +kernel)) (fun _ h9 => h9) rfl dX5_set_102 ?_
              refine lv_bipush (v := nI 32) hx hb dX5_set_105 (by decide +kernel) ?_
              refine lv_iload_n hx hb dX5_set_107 rfl (lv_at hl 3 rfl) ?_
              refine lv_imul hx hb dX5_set_108 ?_
              refine zz_i (y := nI (32 * i)) (pk_mul 32 i) ?_
              refine lv_iload_n hx hb dX5_set_109 rfl (lv_at hl 4 rfl) ?_
              refine lv_iadd hx hb dX5_set_110 ?_
              refine zz_i (y := nI (32 * i + k)) (nI_add _ _) ?_
              refine va_lald hx hb hK hP 1 0 rfl rfl (vp_in_nI (by omega) (by decide)) dX5_set_111 ?_
              refine zz_l (y := r_4) (pk_uLs) ?_
              refine lv_lload hx hb dX5_set_112 (lv_at hl 1 rfl) ?_
              refine W.lcmp hx hb dX5_set_114 ?_
              refine lv_if_eq (tgt := 122) hx hb dX5_set_115 (by decide) (fun hc115 => ?_) (fun hc115 => ?_)
              · refine lv_iconst (v := nI 0) hx hb dX5_set_122 (by decide +kernel) ?_
                refine W.zret hx hb hr (by rfl) (fun t ht hW => eMi (nI 0) (nI 0) ?_ (hP.sub [0] rfl) ht (hS.F ht)) hS.2.2 dX5_set_123
                exact Or.inl ⟨rfl, ⟨h0, h1⟩, Or.inr ⟨rfl, (pk_lEQ (by omega) (by decide)).mp (hw_3.symm.trans ((lc_eq _ _).mp hc115))⟩⟩
              · refine lv_iconst (v := nI 1) hx hb dX5_set_118 (by decide +kernel) ?_
                refine lv_goto (tgt := 123) hx hb dX5_set_119 (by decide) ?_
                refine W.zret hx hb hr (by rfl) (fun t ht hW => eMi (nI 0) (nI 0) ?_ (hP.sub [0] rfl) ht (hS.F ht)) hS.2.2 dX5_set_123
                exact Or.inl ⟨rfl, ⟨h0, h1⟩, Or.inl ⟨rfl, fun h => hc115 ((lc_eq _ _).mpr (by rw [hw_3, h]))⟩⟩
            · have hj : j < 32 := Nat.lt_of_not_le fun h => hc56 (nI_le h (by omega))
              refine lv_aload_n hx hb dX5_set_59 rfl (lv_at hl 2 rfl) ?_
              refine va_get (D := (dC, dI)) (ci := 6) (v := .ref (ad 2)) (C := RX5) (T := TX5) (N := 36) hx hb hts hinX5 hown hK hP 0 rfl rfl 2 (by decide) (hts (.fieldLink RX5 7 "ResidueRowsModel" "rows" "[J") (by decide +kernel)) (fun _ h9 => h9) rfl dX5_set_60 ?_
              refine lv_bipush (v := nI 32) hx hb dX5_set_63 (by decide +kernel) ?_
              refine lv_iload_n hx hb dX5_set_65 rfl (lv_at hl 3 rfl) ?_
              refine lv_imul hx hb dX5_set_66 ?_
              refine zz_i (y := nI (32 * i)) (pk_mul 32 i) ?_
              refine lv_iload hx hb dX5_set_67 (lv_at hl 0 rfl) ?_
              refine lv_iadd hx hb dX5_set_69 ?_
              refine zz_i (y := nI (32 * i + j)) (nI_add _ _) ?_
              refine lv_dup2_11 hx hb dX5_set_70 rfl rfl ?_
              refine zq_ld hx hb hK hP 0 rfl hok.1.1 (vp_in_nI (by omega) (by decide)) dX5_set_71 ?_
              refine lv_aload_n hx hb dX5_set_72 rfl (lv_at hl 2 rfl) ?_
              refine va_get (D := (dC, dI)) (ci := 6) (v := .long (lN pr)) (C := RX5) (T := TX5) (N := 36) hx hb hts hinX5 hown hK hP 0 rfl rfl 1 (by decide) (hts (.fieldLink RX5 104 "ResidueRowsModel" "prime" "J") (by decide +kernel)) (fun _ h9 => h9) rfl dX5_set_73 ?_
              refine lv_lrem hx hb dX5_set_76 (fun h => absurd ((pk_lEQ (b := 0) (by omega) (by decide)).mp h) (by omega)) ?_
              refine zz_l (y := lN 0) ((pk_lRem (by decide) (by omega) (by omega)).trans (congrArg lN (Nat.zero_mod pr))) ?_
              refine zq_st hx hb hK hP hD hS 0 rfl hok.1.1 (vp_in_nI (by omega) (by decide)) dX5_set_77 (fun H locs hP hS => ?_)
              refine lv_iinc (v := nI (j + 1)) (lv' := [(6, .int (nI (j + 1))), (4, .long (lN 0)), (0, .ref (ad 0)), (1, .int (nI i)), (2, .int (nI k)), (3, .int p2)]) hx hb dX5_set_78 hl (k := 0) rfl (nI_1 j) (by decide) rfl (fun ls hl => ?_)
              refine lv_goto (tgt := 52) hx hb dX5_set_81 (by decide) ?_
              exact ih (j + 1) (by omega) (by omega) H locs hP hS ls (lv_sub hl [0, 1, 2, 3, 4, 5] rfl)
        exact LOOP52 33 0 (by decide) (by decide) H locs hP hS ls (lv_sub hl [0, 1, 2, 3, 4, 5] rfl)
      · refine lv_iconst (v := nI 1) hx hb dX5_set_19 (by decide +kernel) ?_
        refine lv_goto (tgt := 24) hx hb dX5_set_20 (by decide) ?_
        refine va_put (D := (dC, dI)) (ci := 6) (v := .int (nI 1)) (ty := .int) (C := RX5) (T := TX5) (N := 36) hx hb hts hinX5 tyX5 tyX5_ok nmX5 hown hK hP hD hS 0 rfl rfl 0 (by decide) (hts (.fieldLink RX5 108 "ResidueRowsModel" "thrown" "I") (by decide +kernel)) (fun _ h9 => h9) rfl (by decide +kernel) rfl rfl (Nat.le_of_ble_eq_true rfl) dX5_set_24 (fun H locs hP hD hS => ?_)
        have hP : va_P (dC, dI) vwCl (mW ad ck L ln pr (nI 1) (nI 0)) H := hP
        have hD : va_D A (mW ad ck L ln pr (nI 1) (nI 0)) := hD
        refine lv_aload_n hx hb dX5_set_27 rfl (lv_at hl 0 rfl) ?_
        refine va_get (D := (dC, dI)) (ci := 6) (v := .int (nI 1)) (C := RX5) (T := TX5) (N := 36) hx hb hts hinX5 hown hK hP 0 rfl rfl 0 (by decide) (hts (.fieldLink RX5 108 "ResidueRowsModel" "thrown" "I") (by decide +kernel)) (fun _ h9 => h9) rfl dX5_set_28 ?_
        refine lv_if_le (tgt := 36) hx hb dX5_set_31 (by decide) (fun hcc => absurd hcc (by decide +kernel)) (fun _ => ?_)
        refine lv_iconst (v := nI 0) hx hb dX5_set_34 (by decide +kernel) ?_
        refine W.zret hx hb hr (by rfl) (fun t ht hW => eMi (nI 1) (nI 0) ?_ (hP.sub [0] rfl) ht (hS.F ht)) hS.2.2 dX5_set_35
        exact Or.inr ⟨rfl, fun h => inR_big (by decide) hc16 h.2⟩
  · skip
    refine lv_aload_n hx hb dX5_set_0 rfl (lv_at hl 0 rfl) ?_
    refine lv_aload_n hx hb dX5_set_1 rfl (lv_at hl 0 rfl) ?_
    refine lv_iload_n hx hb dX5_set_2 rfl (lv_at hl 1 rfl) ?_
    refine cc_i (va_runV (As := [.int p0]) (rest := [.ref (ad 0)]) ⟨hx, hb, hml, hown, hts⟩ (c_X5_isRow l dC dI ad ck L ln pr hok H.size th p0) (cwV 1 hts (gMv (by decide +kernel)) rfl rfl rfl (by decide +kernel) ⟨Nat.le_of_ble_eq_true rfl, Nat.le_of_ble_eq_true rfl⟩) ⟨mP_blind, va_recv hK hP (ci := 6) (q0 := 0) rfl rfl, mP_of hP hK hD⟩ rfl rfl hl.1 rfl (lv_room (Nat.le_of_ble_eq_true rfl)) dX5_set_3 ⟨Nat.le_of_ble_eq_true rfl, Nat.le_of_ble_eq_true rfl⟩) hS (cF hD hS hA) (fun r_6 H locs hw_5 hP hS => ?_)
    have e9 : r_6 = nI 0 := hw_5.elim (fun h9 => absurd h9.2 h0) (fun h9 => h9.1)
    subst e9
    refine lv_if_eq (tgt := 19) hx hb dX5_set_6 (by decide) (fun _ => ?_) (fun hcc => absurd (by decide +kernel) hcc)
    refine lv_iconst (v := nI 1) hx hb dX5_set_19 (by decide +kernel) ?_
    refine lv_goto (tgt := 24) hx hb dX5_set_20 (by decide) ?_
    refine va_put (D := (dC, dI)) (ci := 6) (v := .int (nI 1)) (ty := .int) (C := RX5) (T := TX5) (N := 36) hx hb hts hinX5 tyX5 tyX5_ok nmX5 hown hK hP hD hS 0 rfl rfl 0 (by decide) (hts (.fieldLink RX5 108 "ResidueRowsModel" "thrown" "I") (by decide +kernel)) (fun _ h9 => h9) rfl (by decide +kernel) rfl rfl (Nat.le_of_ble_eq_true rfl) dX5_set_24 (fun H locs hP hD hS => ?_)
    have hP : va_P (dC, dI) vwCl (mW ad ck L ln pr (nI 1) (nI 0)) H := hP
    have hD : va_D A (mW ad ck L ln pr (nI 1) (nI 0)) := hD
    refine lv_aload_n hx hb dX5_set_27 rfl (lv_at hl 0 rfl) ?_
    refine va_get (D := (dC, dI)) (ci := 6) (v := .int (nI 1)) (C := RX5) (T := TX5) (N := 36) hx hb hts hinX5 hown hK hP 0 rfl rfl 0 (by decide) (hts (.fieldLink RX5 108 "ResidueRowsModel" "thrown" "I") (by decide +kernel)) (fun _ h9 => h9) rfl dX5_set_28 ?_
    refine lv_if_le (tgt := 36) hx hb dX5_set_31 (by decide) (fun hcc => absurd hcc (by decide +kernel)) (fun _ => ?_)
    refine lv_iconst (v := nI 0) hx hb dX5_set_34 (by decide +kernel) ?_
    refine W.zret hx hb hr (by rfl) (fun t ht hW => eMi (nI 1) (nI 0) ?_ (hP.sub [0] rfl) ht (hS.F ht)) hS.2.2 dX5_set_35
    exact Or.inr ⟨rfl, fun h => h0 h.1⟩

abbrev vX5_inverse : List Cond := .code yX5_inverse cX5_inverse 2 (some .int) :: mWS
set_option maxHeartbeats 4000000 in
set_option maxRecDepth 100000 in
/-- inverse(v) -/
theorem c_X5_inverse (l : Launch) (dC : Nat → ClassId) (dI : Nat → Nat → Nat) (ad : Nat → Nat) (ck : Nat → ClassId) (L : List Nat) (ln : Nat → Nat) (pr : Nat) (hok : mOk ad L ln pr) (sz : Nat) (th : Int32) (p0 : Int32) : Met l yX5_inverse vX5_inverse ({ frames := 1, cells := 0, slots := 0, locals := 37 }) (va_Pc [.ref (ad 0), .int p0] (mP (dC, dI) ck (mW ad ck L ln pr th (nI 0)) sz)) (va_Qi (fun r u => (u.1 = nI 0 ∧ (p0.toInt % pr).toNat ≠ 0 ∧ ∃ z : Nat, r = nI z ∧ invOf pr (p0.toInt % pr).toNat z) ∨ (u.1 = nI 1 ∧ (p0.toInt % pr).toNat = 0) : Int32 → Int32 × Int32 → Prop) (fun u t => va_P (dC, dI) vwCl (mO ad pr u.1 u.2) t.heap) (va_A (mW ad ck L ln pr th (nI 0)) sz)) 0 0 (va_A (mW ad ck L ln pr th (nI 0)) sz) := by
  refine Met.ofW (cc := cX5_inverse) (maxL := 2) (ret := (some .int)) (by decide +kernel) rfl ?_
  intro p e s m args below meth c s₁ B hml hv
  obtain ⟨rfl, hsz, hP, hK, hD0⟩ := hv
  have hx := B.exec
  have hb := B.bytes
  have hr := B.returns
  have hts := atoms_spec (ws := vX5_inverse) B.pre
  have hown : s.vm.findClass RX5 = some m.cls := findClass_of_methodNamed B.named
  have hlocks := B.notSynchronized
  subst hsz
  have hD := hD0.self (sz := s.heap.size)
  generalize hAe : va_A (mW ad ck L ln pr th (nI 0)) s.heap.size = A at hD ⊢
  have hA : ∀ q : Nat, s.heap.size ≤ q → A q := fun q h => by rw [← hAe]; exact Or.inr h
  have hS : va_S A s.heap s.heap [] := va_S.rf
  have hinX5 : ∀ w ∈ wsX50, w ∈ vX5_inverse := fun w h => List.mem_cons_of_mem _ (inMX5 w h)
  have hpr2 := hok.2.1.1
  have hpr31 := hok.2.2
  have hl := lv_entry ([.ref (ad 0), .int p0]) (n := 2) (Nat.le_of_ble_eq_true rfl)
  rw [lg_entry_eq]
  generalize (lg_sl ([.ref (ad 0), .int p0]) ++ List.replicate (2 - (lg_sl ([.ref (ad 0), .int p0])).length) Slot.unset).toArray = ls at hl ⊢
  have hl : lv_has ls 2 [(0, .ref (ad 0)), (1, .int p0)] := hl
  obtain ⟨H, hHe⟩ : ∃ H : Heap, H = s.heap := ⟨_, rfl⟩
  have hP : va_P (dC, dI) vwCl (mW ad ck L ln pr th (nI 0)) H := by rw [hHe]; exact hP
  have hS : va_S A s.heap H [] := by rw [hHe]; exact hS
  suffices hgo : W p l e (headSpec vX5_inverse ({ frames := 1, cells := 0, slots := 0, locals := 37 })).room s m ([.ref (ad 0), .int p0] : List Value).toArray below meth c H [] 0 0 (MQ below (va_Qi (fun r u => (u.1 = nI 0 ∧ (p0.toInt % pr).toNat ≠ 0 ∧ ∃ z : Nat, r = nI z ∧ invOf pr (p0.toInt % pr).toNat z) ∨ (u.1 = nI 1 ∧ (p0.toInt % pr).toNat = 0) : Int32 → Int32 × Int32 → Prop) (fun u t => va_P (dC, dI) vwCl (mO ad pr u.1 u.2) t.heap) A) ([.ref (ad 0), .int p0] : List Value).toArray s 0 0 A) (F0 m 0 ls []) by rw [hHe] at hgo; exact hgo
  have hq0 := Int.emod_nonneg p0.toInt (show (pr : Int) ≠ 0 by omega)
  have hq1 := Int.emod_lt_of_pos p0.toInt (show (0 : Int) < pr by omega)
  refine lv_aload_n hx hb dX5_inverse_0 rfl (lv_at hl 0 rfl) ?_
  refine lv_aload_n hx hb dX5_inverse_1 rfl (lv_at hl 0 rfl) ?_
  refine lv_iload_n hx hb dX5_inverse_2 rfl (lv_at hl 1 rfl) ?_
  refine lv_i2l (v := p0.toInt64) hx hb dX5_inverse_3 (rfl) ?_
  refine cc_l (va_runV (As := [.long p0.toInt64]) (rest := [.ref (ad 0)]) ⟨hx, hb, hml, hown, hts⟩ (c_X5_modulo l dC dI ad ck L ln pr hok H.size th p0.toInt64) (cwV 1 hts (gMv (by decide +kernel)) rfl rfl rfl (by decide +kernel) ⟨Nat.le_of_ble_eq_true rfl, Nat.le_of_ble_eq_true rfl⟩) ⟨mP_blind, va_recv hK hP (ci := 6) (q0 := 0) rfl rfl, mP_of hP hK hD⟩ rfl rfl hl.1 rfl (lv_room (Nat.le_of_ble_eq_true rfl)) dX5_inverse_4 ⟨Nat.le_of_ble_eq_true rfl, Nat.le_of_ble_eq_true rfl⟩) hS (cF hD hS hA) (fun r_2 H locs hw_1 hP hS => ?_)
  rw [Int32.toInt_toInt64] at hw_1
  subst hw_1
  refine lv_lconst (v := lN 0) hx hb dX5_inverse_7 (by decide +kernel) ?_
  refine W.lcmp hx hb dX5_inverse_8 ?_
  refine lv_if_ne (tgt := 16) hx hb dX5_inverse_9 (by decide) (fun hc9 => ?_) (fun hc9 => ?_)
  · have hne : (p0.toInt % pr).toNat ≠ 0 := fun h => hc9 ((lc_eq _ _).mpr (by rw [h]))
    refine lv_iconst (v := nI 0) hx hb dX5_inverse_16 (by decide +kernel) ?_
    refine va_put (D := (dC, dI)) (ci := 6) (v := .int (nI 0)) (ty := .int) (C := RX5) (T := TX5) (N := 36) hx hb hts hinX5 tyX5 tyX5_ok nmX5 hown hK hP hD hS 0 rfl rfl 0 (by decide) (hts (.fieldLink RX5 108 "ResidueRowsModel" "thrown" "I") (by decide +kernel)) (fun _ h9 => h9) rfl (by decide +kernel) rfl rfl (Nat.le_of_ble_eq_true rfl) dX5_inverse_17 (fun H locs hP hD hS => ?_)
    have hP : va_P (dC, dI) vwCl (mW ad ck L ln pr (nI 0) (nI 0)) H := hP
    have hD : va_D A (mW ad ck L ln pr (nI 0) (nI 0)) := hD
    refine lv_aload_n hx hb dX5_inverse_20 rfl (lv_at hl 0 rfl) ?_
    refine va_get (D := (dC, dI)) (ci := 6) (v := .int (nI 0)) (C := RX5) (T := TX5) (N := 36) hx hb hts hinX5 hown hK hP 0 rfl rfl 0 (by decide) (hts (.fieldLink RX5 108 "ResidueRowsModel" "thrown" "I") (by decide +kernel)) (fun _ h9 => h9) rfl dX5_inverse_21 ?_
    refine lv_if_le (tgt := 31) hx hb dX5_inverse_24 (by decide) (fun _ => ?_) (fun hcc => absurd (by decide +kernel) hcc)
    refine lv_aload_n hx hb dX5_inverse_31 rfl (lv_at hl 0 rfl) ?_
    refine lv_iload_n hx hb dX5_inverse_32 rfl (lv_at hl 1 rfl) ?_
    refine lv_i2l (v := p0.toInt64) hx hb dX5_inverse_33 (rfl) ?_
    refine cc_l (va_runV (As := [.long p0.toInt64]) (rest := []) ⟨hx, hb, hml, hown, hts⟩ (c_X5_modulo l dC dI ad ck L ln pr hok H.size (nI 0) p0.toInt64) (cwV 1 hts (gMv (by decide +kernel)) rfl rfl rfl (by decide +kernel) ⟨Nat.le_of_ble_eq_true rfl, Nat.le_of_ble_eq_true rfl⟩) ⟨mP_blind, va_recv hK hP (ci := 6) (q0 := 0) rfl rfl, mP_of hP hK hD⟩ rfl rfl hl.1 rfl (lv_room (Nat.le_of_ble_eq_true rfl)) dX5_inverse_34 ⟨Nat.le_of_ble_eq_true rfl, Nat.le_of_ble_eq_true rfl⟩) hS (cF hD hS hA) (fun r_4 H locs hw_3 hP hS => ?_)
    rw [Int32.toInt_toInt64] at hw_3
    subst hw_3
    refine lv_aload_n hx hb dX5_inverse_37 rfl (lv_at hl 0 rfl) ?_
    refine va_get (D := (dC, dI)) (ci := 6) (v := .long (lN pr)) (C := RX5) (T := TX5) (N := 36) hx hb hts hinX5 hown hK hP 0 rfl rfl 1 (by decide) (hts (.fieldLink RX5 104 "ResidueRowsModel" "prime" "J") (by decide +kernel)) (fun _ h9 => h9) rfl dX5_inverse_38 ?_
    refine pc_l (va_runS (As := [.long (lN (p0.toInt % pr).toNat), .long (lN pr)]) (rest := []) ⟨hx, hb, hml, hown, hts⟩ (c_X5_inverseOf l (v := (p0.toInt % pr).toNat) (mo := pr) (by omega) hpr31 (pr_gcd hok.2.1 (by omega) (by omega))) (va_cwS 2 hts (gMp (by decide +kernel) inMX5_inverseOf) rfl rfl rfl (by decide +kernel) ⟨Nat.le_of_ble_eq_true rfl, Nat.le_of_ble_eq_true rfl⟩) pPc_S rfl rfl hl.1 rfl (lv_room (Nat.le_of_ble_eq_true rfl)) dX5_inverse_41 ⟨Nat.le_of_ble_eq_true rfl, Nat.le_of_ble_eq_true rfl⟩) hS (fun rz H9 locs9 hz hz9 hk9 hS => ?_)
    have hP := hP.kept (fun k x hx => hk9 x.1 ((hP k x hx).lt))
    generalize H9 = H at hP hS ⊢
    obtain ⟨z, rfl, hzi⟩ := hz
    refine lv_l2i (v := nI z) hx hb dX5_inverse_44 (lN_i z) ?_
    refine W.iret hx hb hr (fun t ht hW => eMi (nI 0) (nI 0) ?_ (hP.sub [0] rfl) ht (hS.F ht)) hS.2.2 dX5_inverse_45
    exact Or.inl ⟨rfl, hne, z, rfl, hzi⟩
  · refine lv_iconst (v := nI 1) hx hb dX5_inverse_12 (by decide +kernel) ?_
    refine lv_goto (tgt := 17) hx hb dX5_inverse_13 (by decide) ?_
    refine va_put (D := (dC, dI)) (ci := 6) (v := .int (nI 1)) (ty := .int) (C := RX5) (T := TX5) (N := 36) hx hb hts hinX5 tyX5 tyX5_ok nmX5 hown hK hP hD hS 0 rfl rfl 0 (by decide) (hts (.fieldLink RX5 108 "ResidueRowsModel" "thrown" "I") (by decide +kernel)) (fun _ h9 => h9) rfl (by decide +kernel) rfl rfl (Nat.le_of_ble_eq_true rfl) dX5_inverse_17 (fun H locs hP hD hS => ?_)
    have hP : va_P (dC, dI) vwCl (mW ad ck L ln pr (nI 1) (nI 0)) H := hP
    have hD : va_D A (mW ad ck L ln pr (nI 1) (nI 0)) := hD
    refine lv_aload_n hx hb dX5_inverse_20 rfl (lv_at hl 0 rfl) ?_
    refine va_get (D := (dC, dI)) (ci := 6) (v := .int (nI 1)) (C := RX5) (T := TX5) (N := 36) hx hb hts hinX5 hown hK hP 0 rfl rfl 0 (by decide) (hts (.fieldLink RX5 108 "ResidueRowsModel" "thrown" "I") (by decide +kernel)) (fun _ h9 => h9) rfl dX5_inverse_21 ?_
    refine lv_if_le (tgt := 31) hx hb dX5_inverse_24 (by decide) (fun hcc => absurd hcc (by decide +kernel)) (fun _ => ?_)
    refine lv_iconst (v := nI 0) hx hb dX5_inverse_27 (by decide +kernel) ?_
    refine lv_goto (tgt := 45) hx hb dX5_inverse_28 (by decide) ?_
    refine W.iret hx hb hr (fun t ht hW => eMi (nI 1) (nI 0) ?_ (hP.sub [0] rfl) ht (hS.F ht)) hS.2.2 dX5_inverse_45
    exact Or.inr ⟨rfl, (pk_lEQ (by omega) (by decide)).mp ((lc_eq _ _).mp hc9)⟩
