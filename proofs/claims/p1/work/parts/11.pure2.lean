set_option maxHeartbeats 4000000 in
set_option maxRecDepth 100000 in
/-- Math.floorMod(int, int), the divisor above 0 -/
theorem c_J9_floorMod_7cf53 (l : Launch) (x : Int32) {mo : Nat} (h0 : 0 < mo) (hm : mo < 2 ^ 31) : Met l yJ9_floorMod_7cf53 wsJ9_floorMod_7cf53 ({ frames := 0, cells := 0, slots := 0, locals := 0 }) (pPc [.int x, .int (nI mo)]) (pQi (fun r => r = nI (x.toInt % mo).toNat)) 0 0 (fun _ => False) := by
  refine Met.ofWF (cc := cJ9_floorMod_7cf53) (maxL := 3) (ret := (some .int)) (by decide +kernel) rfl ?_
  intro p e s m args below meth c s₁ B hml hv
  obtain ⟨rfl, -⟩ := hv
  have hx := B.exec
  have hb := B.bytes
  have hr := B.returns
  have hts := atoms_spec (ws := wsJ9_floorMod_7cf53) B.pre
  have hown : s.vm.findClass RJ9 = some m.cls := findClass_of_methodNamed B.named
  have hlocks := B.notSynchronized
  have hS : va_S (fun _ => False) s.heap s.heap [] := va_S.rf
  have hl := lv_entry ([.int x, .int (nI mo)]) (n := 3) (Nat.le_of_ble_eq_true rfl)
  rw [lg_entry_eq]
  generalize (lg_sl ([.int x, .int (nI mo)]) ++ List.replicate (3 - (lg_sl ([.int x, .int (nI mo)])).length) Slot.unset).toArray = ls at hl ⊢
  have hl : lv_has ls 3 [(0, .int x), (1, .int (nI mo))] := hl
  refine lv_iload_n hx hb dJ9_floorMod_7cf53_0 rfl (lv_at hl 0 rfl) ?_
  refine lv_iload_n hx hb dJ9_floorMod_7cf53_1 rfl (lv_at hl 1 rfl) ?_
  refine lv_irem hx hb dJ9_floorMod_7cf53_2 (nI_ne0 h0 hm) ?_
  refine zz_i (y := iZ (x.toInt.tmod mo)) (ir_rem hm) ?_
  refine lv_istore_n (lv' := [(2, .int (iZ (x.toInt.tmod mo))), (0, .int x), (1, .int (nI mo))]) hx hb dJ9_floorMod_7cf53_3 rfl hl (by decide) rfl (fun ls hl => ?_)
  refine lv_iload_n hx hb dJ9_floorMod_7cf53_4 rfl (lv_at hl 1 rfl) ?_
  refine lv_iload_n hx hb dJ9_floorMod_7cf53_5 rfl (lv_at hl 2 rfl) ?_
  refine lv_ixor hx hb dJ9_floorMod_7cf53_6 ?_
  refine lv_if_ge (tgt := 18) hx hb dJ9_floorMod_7cf53_7 (by decide) (fun hc7 => ?_) (fun hc7 => ?_)
  · have hc0 : 0 ≤ x := (ir_xor hm).mp hc7
    refine lv_iload_n hx hb dJ9_floorMod_7cf53_18 rfl (lv_at hl 0 rfl) ?_
    refine W.iret hx hb hr (fun t ht hW => pQi_end ?_ (hS.F ht)) hS.2.2 dJ9_floorMod_7cf53_19
    exact ir_pos h0 hc0
  · have hc0 : ¬ 0 ≤ x := fun h => hc7 ((ir_xor hm).mpr h)
    refine lv_iload_n hx hb dJ9_floorMod_7cf53_10 rfl (lv_at hl 0 rfl) ?_
    refine lv_if_eq (tgt := 18) hx hb dJ9_floorMod_7cf53_11 (by decide) (fun hc11 => ?_) (fun hc11 => ?_)
    · refine lv_iload_n hx hb dJ9_floorMod_7cf53_18 rfl (lv_at hl 0 rfl) ?_
      refine W.iret hx hb hr (fun t ht hW => pQi_end ?_ (hS.F ht)) hS.2.2 dJ9_floorMod_7cf53_19
      exact ir_neg0 h0 hm hc11
    · refine lv_iload_n hx hb dJ9_floorMod_7cf53_14 rfl (lv_at hl 0 rfl) ?_
      refine lv_iload_n hx hb dJ9_floorMod_7cf53_15 rfl (lv_at hl 2 rfl) ?_
      refine lv_iadd hx hb dJ9_floorMod_7cf53_16 ?_
      refine W.iret hx hb hr (fun t ht hW => pQi_end ?_ (hS.F ht)) hS.2.2 dJ9_floorMod_7cf53_17
      exact ir_neg h0 hc0 hc11

set_option maxHeartbeats 4000000 in
set_option maxRecDepth 100000 in
/-- Math.floorMod(long, long), the divisor above 0 -/
theorem c_J9_floorMod_f86c9 (l : Launch) (x : Int64) {mo : Nat} (h0 : 0 < mo) (hm : mo < 2 ^ 31) : Met l yJ9_floorMod_f86c9 wsJ9_floorMod_f86c9 ({ frames := 0, cells := 0, slots := 0, locals := 0 }) (pPc [.long x, .long (lN mo)]) (pQl (fun r => r = lN (x.toInt % mo).toNat)) 0 0 (fun _ => False) := by
  refine Met.ofWF (cc := cJ9_floorMod_f86c9) (maxL := 6) (ret := (some .long)) (by decide +kernel) rfl ?_
  intro p e s m args below meth c s₁ B hml hv
  obtain ⟨rfl, -⟩ := hv
  have hx := B.exec
  have hb := B.bytes
  have hr := B.returns
  have hts := atoms_spec (ws := wsJ9_floorMod_f86c9) B.pre
  have hown : s.vm.findClass RJ9 = some m.cls := findClass_of_methodNamed B.named
  have hlocks := B.notSynchronized
  have hS : va_S (fun _ => False) s.heap s.heap [] := va_S.rf
  have hl := lv_entry ([.long x, .long (lN mo)]) (n := 6) (Nat.le_of_ble_eq_true rfl)
  rw [lg_entry_eq]
  generalize (lg_sl ([.long x, .long (lN mo)]) ++ List.replicate (6 - (lg_sl ([.long x, .long (lN mo)])).length) Slot.unset).toArray = ls at hl ⊢
  have hl : lv_has ls 6 [(0, .long x), (2, .long (lN mo))] := hl
  refine lv_lload_n hx hb dJ9_floorMod_f86c9_0 rfl (lv_at hl 0 rfl) ?_
  refine lv_lload_n hx hb dJ9_floorMod_f86c9_1 rfl (lv_at hl 1 rfl) ?_
  refine lv_lrem hx hb dJ9_floorMod_f86c9_2 (fun h => absurd ((pk_lEQ (b := 0) (by omega) (by decide)).mp h) (by omega)) ?_
  refine zz_l (y := lZ (x.toInt.tmod mo)) (lr_rem hm) ?_
  refine lv_lstore (lv' := [(4, .long (lZ (x.toInt.tmod mo))), (0, .long x), (2, .long (lN mo))]) hx hb dJ9_floorMod_f86c9_3 hl (by decide) rfl (fun ls hl => ?_)
  refine lv_lload_n hx hb dJ9_floorMod_f86c9_5 rfl (lv_at hl 1 rfl) ?_
  refine lv_lload_n hx hb dJ9_floorMod_f86c9_6 rfl (lv_at hl 2 rfl) ?_
  refine lv_lxor hx hb dJ9_floorMod_f86c9_7 ?_
  refine lv_lconst (v := lN 0) hx hb dJ9_floorMod_f86c9_8 (by decide +kernel) ?_
  refine W.lcmp hx hb dJ9_floorMod_f86c9_9 ?_
  refine lv_if_ge (tgt := 25) hx hb dJ9_floorMod_f86c9_10 (by decide) (fun hc10 => ?_) (fun hc10 => ?_)
  · have hc0 : 0 ≤ x := (lr_xor hm).mp ((lc_ge _ _).mp hc10)
    refine lv_lload hx hb dJ9_floorMod_f86c9_25 (lv_at hl 0 rfl) ?_
    refine W.lret hx hb hr (fun t ht hW => pQl_end ?_ (hS.F ht)) hS.2.2 dJ9_floorMod_f86c9_27
    exact lr_pos h0 hc0
  · have hc0 : ¬ 0 ≤ x := fun h => hc10 ((lc_ge _ _).mpr ((lr_xor hm).mpr h))
    refine lv_lload hx hb dJ9_floorMod_f86c9_13 (lv_at hl 0 rfl) ?_
    refine lv_lconst (v := lN 0) hx hb dJ9_floorMod_f86c9_15 (by decide +kernel) ?_
    refine W.lcmp hx hb dJ9_floorMod_f86c9_16 ?_
    refine lv_if_eq (tgt := 25) hx hb dJ9_floorMod_f86c9_17 (by decide) (fun hc17 => ?_) (fun hc17 => ?_)
    · have hc1 : lZ (x.toInt.tmod mo) = 0 := (lc_eq _ _).mp hc17
      refine lv_lload hx hb dJ9_floorMod_f86c9_25 (lv_at hl 0 rfl) ?_
      refine W.lret hx hb hr (fun t ht hW => pQl_end ?_ (hS.F ht)) hS.2.2 dJ9_floorMod_f86c9_27
      exact lr_neg0 h0 hm hc1
    · have hc1 : ¬ lZ (x.toInt.tmod mo) = 0 := fun h => hc17 ((lc_eq _ _).mpr h)
      refine lv_lload hx hb dJ9_floorMod_f86c9_20 (lv_at hl 0 rfl) ?_
      refine lv_lload_n hx hb dJ9_floorMod_f86c9_22 rfl (lv_at hl 2 rfl) ?_
      refine lv_ladd hx hb dJ9_floorMod_f86c9_23 ?_
      refine W.lret hx hb hr (fun t ht hW => pQl_end ?_ (hS.F ht)) hS.2.2 dJ9_floorMod_f86c9_24
      exact lr_neg h0 hc0 hc1

set_option maxHeartbeats 4000000 in
set_option maxRecDepth 100000 in
/-- Residues.reciprocal(v, modulus), both without a common divisor -/
theorem c_X2_reciprocal (l : Launch) {v mo : Nat} (hv0 : 0 < v) (hv : v < mo) (hm : mo < 2 ^ 31) (hg : Nat.gcd mo v = 1) : Met l yX2_reciprocal wsX2_reciprocal ({ frames := 1, cells := 0, slots := 0, locals := 25 }) (pPc [.long (lN v), .long (lN mo)]) (pQl (fun r => ∃ q : Nat, r = lN q ∧ invOf mo v q)) 0 0 (fun _ => False) := by
  refine Met.ofW (cc := cX2_reciprocal) (maxL := 19) (ret := (some .long)) (by decide +kernel) rfl ?_
  intro p e s m args below meth c s₁ B hml hv
  obtain ⟨rfl, -⟩ := hv
  have hx := B.exec
  have hb := B.bytes
  have hr := B.returns
  have hts := atoms_spec (ws := wsX2_reciprocal) B.pre
  have hown : s.vm.findClass RX2 = some m.cls := findClass_of_methodNamed B.named
  have hlocks := B.notSynchronized
  have hS : va_S (fun _ => False) s.heap s.heap [] := va_S.rf
  have hl := lv_entry ([.long (lN v), .long (lN mo)]) (n := 19) (Nat.le_of_ble_eq_true rfl)
  rw [lg_entry_eq]
  generalize (lg_sl ([.long (lN v), .long (lN mo)]) ++ List.replicate (19 - (lg_sl ([.long (lN v), .long (lN mo)])).length) Slot.unset).toArray = ls at hl ⊢
  have hl : lv_has ls 19 [(0, .long (lN v)), (2, .long (lN mo))] := hl
  refine lv_lload_n hx hb dX2_reciprocal_0 rfl (lv_at hl 1 rfl) ?_
  refine lv_lstore (lv' := [(4, .long (lN mo)), (0, .long (lN v)), (2, .long (lN mo))]) hx hb dX2_reciprocal_1 hl (by decide) rfl (fun ls hl => ?_)
  refine lv_lload_n hx hb dX2_reciprocal_3 rfl (lv_at hl 1 rfl) ?_
  refine lv_lstore (lv' := [(6, .long (lN v)), (4, .long (lN mo)), (0, .long (lN v)), (2, .long (lN mo))]) hx hb dX2_reciprocal_4 hl (by decide) rfl (fun ls hl => ?_)
  refine lv_lconst (v := lZ 0) hx hb dX2_reciprocal_6 (by decide +kernel) ?_
  refine lv_lstore (lv' := [(8, .long (lZ 0)), (6, .long (lN v)), (4, .long (lN mo)), (0, .long (lN v)), (2, .long (lN mo))]) hx hb dX2_reciprocal_7 hl (by decide) rfl (fun ls hl => ?_)
  refine lv_lconst (v := lZ 1) hx hb dX2_reciprocal_9 (by decide +kernel) ?_
  refine lv_lstore (lv' := [(10, .long (lZ 1)), (8, .long (lZ 0)), (6, .long (lN v)), (4, .long (lN mo)), (0, .long (lN v)), (2, .long (lN mo))]) hx hb dX2_reciprocal_10 hl (by decide) rfl (fun ls hl => ?_)
  refine lv_iconst (v := nI 0) hx hb dX2_reciprocal_12 (by decide +kernel) ?_
  refine lv_istore (lv' := [(12, .int (nI 0)), (10, .long (lZ 1)), (8, .long (lZ 0)), (6, .long (lN v)), (4, .long (lN mo)), (0, .long (lN v)), (2, .long (lN mo))]) hx hb dX2_reciprocal_13 hl (by decide) rfl (fun ls hl => ?_)
  have LOOP15 : ∀ (f : Nat) (a : Nat) (b : Nat) (x : Int) (y : Int) (k : Nat), b < f → euI mo v a b x y → 0 < b → a * b * 2 ^ k ≤ 2 ^ 62 → a ≤ mo → ∀ (ls : Array Slot), lv_has ls 19 [(12, .int (nI k)), (10, .long (lZ y)), (8, .long (lZ x)), (6, .long (lN b)), (4, .long (lN a)), (2, .long (lN mo)), (0, .long (lN v))] → W p l e (headSpec wsX2_reciprocal ({ frames := 1, cells := 0, slots := 0, locals := 25 })).room s m ([.long (lN v), .long (lN mo)] : List Value).toArray below meth c s.heap [] 0 0 (MQ below (pQl (fun r => ∃ q : Nat, r = lN q ∧ invOf mo v q)) ([.long (lN v), .long (lN mo)] : List Value).toArray s 0 0 (fun _ => False)) (F0 m 15 ls []) := by
    intro f
    induction f with
    | zero => intro a b x y k hf; exact absurd hf (Nat.not_lt_zero _)
    | succ f ih =>
      intro a b x y k hf hI hbp hk ham ls hl
      have hba : b < a := eu_lt hI
      have hk63 : k < 63 := eu_fuel hbp hba hk
      refine lv_iload hx hb dX2_reciprocal_15 (lv_at hl 0 rfl) ?_
      refine lv_bipush (v := nI 100) hx hb dX2_reciprocal_17 (by decide +kernel) ?_
      refine lv_icmp_ge (tgt := 78) hx hb dX2_reciprocal_19 (by decide) (fun hcc => absurd hcc (nI_ge (by omega) (by decide))) (fun _ => ?_)
      refine lv_lload hx hb dX2_reciprocal_22 (lv_at hl 3 rfl) ?_
      refine lv_lconst (v := lN 1) hx hb dX2_reciprocal_24 (by decide +kernel) ?_
      refine W.lcmp hx hb dX2_reciprocal_25 ?_
      refine lv_if_le (tgt := 78) hx hb dX2_reciprocal_26 (by decide) (fun hc26 => ?_) (fun hc26 => ?_)
      · have hb1 : b = 1 := Nat.le_antisymm ((pk_lLE (by omega) (by decide)).mp ((lc_le _ _).mp hc26)) hbp
        subst hb1
        obtain ⟨hd, hy1, hy2⟩ := eu_one (by omega) hI
        refine lv_lload hx hb dX2_reciprocal_78 (lv_at hl 3 rfl) ?_
        refine lv_lconst (v := lN 1) hx hb dX2_reciprocal_80 (by decide +kernel) ?_
        refine W.lcmp hx hb dX2_reciprocal_81 ?_
        refine lv_if_ne (tgt := 100) hx hb dX2_reciprocal_82 (by decide) (fun hcc => absurd hcc (not_not_intro ((lc_eq _ _).mpr rfl))) (fun _ => ?_)
        refine lv_lload_n hx hb dX2_reciprocal_85 rfl (lv_at hl 5 rfl) ?_
        refine lv_lconst (v := lN 0) hx hb dX2_reciprocal_86 (by decide +kernel) ?_
        refine W.lcmp hx hb dX2_reciprocal_87 ?_
        refine lv_if_le (tgt := 100) hx hb dX2_reciprocal_88 (by decide) (fun hcc => absurd hcc (fun h => absurd ((pk_lLE (by omega) (by decide)).mp ((lc_le _ _).mp h)) (by omega))) (fun _ => ?_)
        refine lv_lload hx hb dX2_reciprocal_91 (lv_at hl 1 rfl) ?_
        refine lv_lload_n hx hb dX2_reciprocal_93 rfl (lv_at hl 5 rfl) ?_
        refine pc_l (va_runS (As := [.long (lZ y), .long (lN mo)]) (rest := []) ⟨hx, hb, hml, hown, hts⟩ (c_J9_floorMod_f86c9 l (lZ y) (mo := mo) (by omega) hm) (va_cwS 2 hts gX2_reciprocal_J9_floorMod_f86c9 rfl rfl rfl (by decide +kernel) ⟨Nat.le_of_ble_eq_true rfl, Nat.le_of_ble_eq_true rfl⟩) pPc_S rfl rfl hl.1 rfl (lv_room (Nat.le_of_ble_eq_true rfl)) dX2_reciprocal_94 ⟨Nat.le_of_ble_eq_true rfl, Nat.le_of_ble_eq_true rfl⟩) hS (fun rq H locs hw hz hk hS => ?_)
        refine lv_goto (tgt := 101) hx hb dX2_reciprocal_97 (by decide) ?_
        refine W.lret hx hb hr (fun t ht hW => pQl_end ?_ (hS.F ht)) hS.2.2 dX2_reciprocal_101
        exact ⟨(y % mo).toNat, by rw [hw, lZ_toInt (by omega) (by omega)], inv_of (by omega) hd⟩
      · have hb2 : 2 ≤ b := Nat.lt_of_not_le fun h => hc26 ((lc_le _ _).mpr ((pk_lLE (by omega) (by decide)).mpr h))
        have hq : a / b ≤ a := Nat.div_le_self a b
        have hmod : a % b < b := Nat.mod_lt a hbp
        have hdm : a - a / b * b = a % b := by rw [Nat.mul_comm]; exact (Nat.mod_eq_sub_mul_div).symm
        refine lv_lload hx hb dX2_reciprocal_29 (lv_at hl 4 rfl) ?_
        refine lv_lload hx hb dX2_reciprocal_31 (lv_at hl 3 rfl) ?_
        refine lv_ldiv hx hb dX2_reciprocal_33 (fun h => absurd ((pk_lEQ (b := 0) (by omega) (by decide)).mp h) (by omega)) ?_
        refine zz_l (y := lN (a / b)) (pk_lDiv (by omega) (by omega) (by omega)) ?_
        refine lv_lstore (lv' := [(13, .long (lN (a / b))), (12, .int (nI k)), (10, .long (lZ y)), (8, .long (lZ x)), (6, .long (lN b)), (4, .long (lN a)), (2, .long (lN mo)), (0, .long (lN v))]) hx hb dX2_reciprocal_34 hl (by decide) rfl (fun ls hl => ?_)
        refine lv_lload hx hb dX2_reciprocal_36 (lv_at hl 5 rfl) ?_
        refine lv_lload hx hb dX2_reciprocal_38 (lv_at hl 0 rfl) ?_
        refine lv_lload hx hb dX2_reciprocal_40 (lv_at hl 4 rfl) ?_
        refine lv_lmul hx hb dX2_reciprocal_42 ?_
        refine zz_l (y := lN (a / b * b)) (lN_mul _ _) ?_
        refine lv_lsub hx hb dX2_reciprocal_43 ?_
        refine zz_l (y := lN (a % b)) ((lN_sub (Nat.div_mul_le_self a b)).trans (congrArg lN hdm)) ?_
        refine lv_lstore (lv' := [(15, .long (lN (a % b))), (13, .long (lN (a / b))), (12, .int (nI k)), (10, .long (lZ y)), (8, .long (lZ x)), (6, .long (lN b)), (4, .long (lN a)), (2, .long (lN mo)), (0, .long (lN v))]) hx hb dX2_reciprocal_44 hl (by decide) rfl (fun ls hl => ?_)
        refine lv_lload hx hb dX2_reciprocal_46 (lv_at hl 4 rfl) ?_
        refine lv_lload hx hb dX2_reciprocal_48 (lv_at hl 1 rfl) ?_
        refine lv_lload hx hb dX2_reciprocal_50 (lv_at hl 3 rfl) ?_
        refine lv_lmul hx hb dX2_reciprocal_52 ?_
        refine zz_l (y := lZ (((a / b : Nat) : Int) * y)) (by rw [← lZ_nat, lZ_mul]) ?_
        refine lv_lsub hx hb dX2_reciprocal_53 ?_
        refine zz_l (y := lZ (x - ((a / b : Nat) : Int) * y)) (lZ_sub _ _) ?_
        refine lv_lstore (lv' := [(17, .long (lZ (x - ((a / b : Nat) : Int) * y))), (15, .long (lN (a % b))), (13, .long (lN (a / b))), (12, .int (nI k)), (10, .long (lZ y)), (8, .long (lZ x)), (6, .long (lN b)), (4, .long (lN a)), (2, .long (lN mo)), (0, .long (lN v))]) hx hb dX2_reciprocal_54 hl (by decide) rfl (fun ls hl => ?_)
        refine lv_lload hx hb dX2_reciprocal_56 (lv_at hl 6 rfl) ?_
        refine lv_lstore (lv' := [(4, .long (lN b)), (17, .long (lZ (x - ((a / b : Nat) : Int) * y))), (15, .long (lN (a % b))), (13, .long (lN (a / b))), (12, .int (nI k)), (10, .long (lZ y)), (8, .long (lZ x)), (6, .long (lN b)), (2, .long (lN mo)), (0, .long (lN v))]) hx hb dX2_reciprocal_58 hl (by decide) rfl (fun ls hl => ?_)
        refine lv_lload hx hb dX2_reciprocal_60 (lv_at hl 5 rfl) ?_
        refine lv_lstore (lv' := [(8, .long (lZ y)), (4, .long (lN b)), (17, .long (lZ (x - ((a / b : Nat) : Int) * y))), (15, .long (lN (a % b))), (13, .long (lN (a / b))), (12, .int (nI k)), (10, .long (lZ y)), (6, .long (lN b)), (2, .long (lN mo)), (0, .long (lN v))]) hx hb dX2_reciprocal_62 hl (by decide) rfl (fun ls hl => ?_)
        refine lv_lload hx hb dX2_reciprocal_64 (lv_at hl 3 rfl) ?_
        refine lv_lstore (lv' := [(6, .long (lN (a % b))), (8, .long (lZ y)), (4, .long (lN b)), (17, .long (lZ (x - ((a / b : Nat) : Int) * y))), (15, .long (lN (a % b))), (13, .long (lN (a / b))), (12, .int (nI k)), (10, .long (lZ y)), (2, .long (lN mo)), (0, .long (lN v))]) hx hb dX2_reciprocal_66 hl (by decide) rfl (fun ls hl => ?_)
        refine lv_lload hx hb dX2_reciprocal_68 (lv_at hl 3 rfl) ?_
        refine lv_lstore (lv' := [(10, .long (lZ (x - ((a / b : Nat) : Int) * y))), (6, .long (lN (a % b))), (8, .long (lZ y)), (4, .long (lN b)), (17, .long (lZ (x - ((a / b : Nat) : Int) * y))), (15, .long (lN (a % b))), (13, .long (lN (a / b))), (12, .int (nI k)), (2, .long (lN mo)), (0, .long (lN v))]) hx hb dX2_reciprocal_70 hl (by decide) rfl (fun ls hl => ?_)
        refine lv_iinc (v := nI (k + 1)) (lv' := [(12, .int (nI (k + 1))), (10, .long (lZ (x - ((a / b : Nat) : Int) * y))), (6, .long (lN (a % b))), (8, .long (lZ y)), (4, .long (lN b)), (17, .long (lZ (x - ((a / b : Nat) : Int) * y))), (15, .long (lN (a % b))), (13, .long (lN (a / b))), (2, .long (lN mo)), (0, .long (lN v))]) hx hb dX2_reciprocal_72 hl (k := 7) rfl (nI_1 k) (by decide) rfl (fun ls hl => ?_)
        refine lv_goto (tgt := 15) hx hb dX2_reciprocal_75 (by decide) ?_
        exact ih b (a % b) y (x - ((a / b : Nat) : Int) * y) (k + 1) (by omega) (eu_step hI hbp) (eu_nz hI hb2) (eu_half hbp hba hk) (by omega) ls (lv_sub hl [0, 1, 3, 2, 4, 8, 9] rfl)
  exact LOOP15 (v + 1) mo v 0 1 0 (by omega) (eu_start hv hg) hv0 (by have := Nat.mul_le_mul (show mo ≤ 2 ^ 31 by omega) (show v ≤ 2 ^ 31 by omega); omega) (Nat.le_refl mo) ls (lv_sub hl [0, 1, 2, 3, 4, 6, 5] rfl)

set_option maxHeartbeats 4000000 in
set_option maxRecDepth 100000 in
/-- the reference's inverseOf(v, mo), both without a common divisor -/
theorem c_X5_inverseOf (l : Launch) {v mo : Nat} (hv : v < mo) (hm : mo < 2 ^ 31) (hg : Nat.gcd mo v = 1) : Met l yX5_inverseOf wsX5_inverseOf ({ frames := 0, cells := 0, slots := 0, locals := 0 }) (pPc [.long (lN v), .long (lN mo)]) (pQl (fun r => ∃ q : Nat, r = lN q ∧ invOf mo v q)) 0 0 (fun _ => False) := by
  refine Met.ofW (cc := cX5_inverseOf) (maxL := 18) (ret := (some .long)) (by decide +kernel) rfl ?_
  intro p e s m args below meth c s₁ B hml hv
  obtain ⟨rfl, -⟩ := hv
  have hx := B.exec
  have hb := B.bytes
  have hr := B.returns
  have hts := atoms_spec (ws := wsX5_inverseOf) B.pre
  have hown : s.vm.findClass RX5 = some m.cls := findClass_of_methodNamed B.named
  have hlocks := B.notSynchronized
  have hS : va_S (fun _ => False) s.heap s.heap [] := va_S.rf
  have hl := lv_entry ([.long (lN v), .long (lN mo)]) (n := 18) (Nat.le_of_ble_eq_true rfl)
  rw [lg_entry_eq]
  generalize (lg_sl ([.long (lN v), .long (lN mo)]) ++ List.replicate (18 - (lg_sl ([.long (lN v), .long (lN mo)])).length) Slot.unset).toArray = ls at hl ⊢
  have hl : lv_has ls 18 [(0, .long (lN v)), (2, .long (lN mo))] := hl
  refine lv_lload_n hx hb dX5_inverseOf_0 rfl (lv_at hl 1 rfl) ?_
  refine lv_lstore (lv' := [(4, .long (lN mo)), (0, .long (lN v)), (2, .long (lN mo))]) hx hb dX5_inverseOf_1 hl (by decide) rfl (fun ls hl => ?_)
  refine lv_lload_n hx hb dX5_inverseOf_3 rfl (lv_at hl 1 rfl) ?_
  refine lv_lload_n hx hb dX5_inverseOf_4 rfl (lv_at hl 2 rfl) ?_
  refine lv_lrem hx hb dX5_inverseOf_5 (fun h => absurd ((pk_lEQ (b := 0) (by omega) (by decide)).mp h) (by omega)) ?_
  refine zz_l (y := lN v) ((pk_lRem (by omega) (by omega) (by omega)).trans (congrArg lN (Nat.mod_eq_of_lt hv))) ?_
  refine lv_lstore (lv' := [(6, .long (lN v)), (4, .long (lN mo)), (0, .long (lN v)), (2, .long (lN mo))]) hx hb dX5_inverseOf_6 hl (by decide) rfl (fun ls hl => ?_)
  refine lv_lconst (v := lZ 0) hx hb dX5_inverseOf_8 (by decide +kernel) ?_
  refine lv_lstore (lv' := [(8, .long (lZ 0)), (6, .long (lN v)), (4, .long (lN mo)), (0, .long (lN v)), (2, .long (lN mo))]) hx hb dX5_inverseOf_9 hl (by decide) rfl (fun ls hl => ?_)
  refine lv_lconst (v := lZ 1) hx hb dX5_inverseOf_11 (by decide +kernel) ?_
  refine lv_lstore (lv' := [(10, .long (lZ 1)), (8, .long (lZ 0)), (6, .long (lN v)), (4, .long (lN mo)), (0, .long (lN v)), (2, .long (lN mo))]) hx hb dX5_inverseOf_12 hl (by decide) rfl (fun ls hl => ?_)
  have LOOP14 : ∀ (f : Nat) (a : Nat) (b : Nat) (x : Int) (y : Int), b < f → euI mo v a b x y → a ≤ mo → ∀ (ls : Array Slot), lv_has ls 18 [(10, .long (lZ y)), (8, .long (lZ x)), (6, .long (lN b)), (4, .long (lN a)), (2, .long (lN mo)), (0, .long (lN v))] → W p l e (headSpec wsX5_inverseOf ({ frames := 0, cells := 0, slots := 0, locals := 0 })).room s m ([.long (lN v), .long (lN mo)] : List Value).toArray below meth c s.heap [] 0 0 (MQ below (pQl (fun r => ∃ q : Nat, r = lN q ∧ invOf mo v q)) ([.long (lN v), .long (lN mo)] : List Value).toArray s 0 0 (fun _ => False)) (F0 m 14 ls []) := by
    intro f
    induction f with
    | zero => intro a b x y hf; exact absurd hf (Nat.not_lt_zero _)
    | succ f ih =>
      intro a b x y hf hI ham ls hl
      have hba : b < a := eu_lt hI
      refine lv_lload hx hb dX5_inverseOf_14 (lv_at hl 2 rfl) ?_
      refine lv_lconst (v := lN 0) hx hb dX5_inverseOf_16 (by decide +kernel) ?_
      refine W.lcmp hx hb dX5_inverseOf_17 ?_
      refine lv_if_eq (tgt := 67) hx hb dX5_inverseOf_18 (by decide) (fun hc18 => ?_) (fun hc18 => ?_)
      · have hb0 : b = 0 := (pk_lEQ (by omega) (by decide)).mp ((lc_eq _ _).mp hc18)
        subst hb0
        obtain ⟨hd, hx1, hx2⟩ := eu_zero (by omega) hI
        refine lv_lload hx hb dX5_inverseOf_67 (lv_at hl 1 rfl) ?_
        refine lv_lconst (v := lN 0) hx hb dX5_inverseOf_69 (by decide +kernel) ?_
        refine W.lcmp hx hb dX5_inverseOf_70 ?_
        refine lv_if_ge (tgt := 81) hx hb dX5_inverseOf_71 (by decide) (fun hc71 => ?_) (fun hc71 => ?_)
        · have h0 : 0 ≤ x := by have h := (lc_ge _ _).mp hc71; rw [Int64.le_iff_toInt_le, lZ_toInt (by omega) (by omega)] at h; exact h
          refine lv_lload hx hb dX5_inverseOf_81 (lv_at hl 1 rfl) ?_
          refine W.lret hx hb hr (fun t ht hW => pQl_end ?_ (hS.F ht)) hS.2.2 dX5_inverseOf_83
          exact ⟨(x % mo).toNat, by rw [Int.emod_eq_of_lt h0 hx2, ← lZ_nat, Int.toNat_of_nonneg h0], inv_of (by omega) hd⟩
        · have h0 : x < 0 := Int.lt_of_not_ge fun h9 => hc71 ((lc_ge _ _).mpr (by rw [Int64.le_iff_toInt_le, lZ_toInt (by omega) (by omega)]; exact h9))
          have hxm : x % mo = x + mo := by rw [← Int.add_emod_right, Int.emod_eq_of_lt (by omega) (by omega)]
          refine lv_lload hx hb dX5_inverseOf_74 (lv_at hl 1 rfl) ?_
          refine lv_lload_n hx hb dX5_inverseOf_76 rfl (lv_at hl 4 rfl) ?_
          refine lv_ladd hx hb dX5_inverseOf_77 ?_
          refine zz_l (y := lZ (x + mo)) (by rw [← lZ_nat, lZ_add]) ?_
          refine lv_goto (tgt := 83) hx hb dX5_inverseOf_78 (by decide) ?_
          refine W.lret hx hb hr (fun t ht hW => pQl_end ?_ (hS.F ht)) hS.2.2 dX5_inverseOf_83
          exact ⟨(x % mo).toNat, by rw [hxm, ← lZ_nat, Int.toNat_of_nonneg (by omega)], inv_of (by omega) hd⟩
      · have hbp : 0 < b := Nat.pos_of_ne_zero fun h => hc18 ((lc_eq _ _).mpr (by rw [h]))
        have hq : a / b ≤ a := Nat.div_le_self a b
        have hmod : a % b < b := Nat.mod_lt a hbp
        have hdm : a - a / b * b = a % b := by rw [Nat.mul_comm]; exact (Nat.mod_eq_sub_mul_div).symm
        refine lv_lload hx hb dX5_inverseOf_21 (lv_at hl 3 rfl) ?_
        refine lv_lload hx hb dX5_inverseOf_23 (lv_at hl 2 rfl) ?_
        refine lv_ldiv hx hb dX5_inverseOf_25 (fun h => absurd ((pk_lEQ (b := 0) (by omega) (by decide)).mp h) (by omega)) ?_
        refine zz_l (y := lN (a / b)) (pk_lDiv (by omega) (by omega) (by omega)) ?_
        refine lv_lstore (lv' := [(12, .long (lN (a / b))), (10, .long (lZ y)), (8, .long (lZ x)), (6, .long (lN b)), (4, .long (lN a)), (2, .long (lN mo)), (0, .long (lN v))]) hx hb dX5_inverseOf_26 hl (by decide) rfl (fun ls hl => ?_)
        refine lv_lload hx hb dX5_inverseOf_28 (lv_at hl 4 rfl) ?_
        refine lv_lload hx hb dX5_inverseOf_30 (lv_at hl 0 rfl) ?_
        refine lv_lload hx hb dX5_inverseOf_32 (lv_at hl 3 rfl) ?_
        refine lv_lmul hx hb dX5_inverseOf_34 ?_
        refine zz_l (y := lN (a / b * b)) (lN_mul _ _) ?_
        refine lv_lsub hx hb dX5_inverseOf_35 ?_
        refine zz_l (y := lN (a % b)) ((lN_sub (Nat.div_mul_le_self a b)).trans (congrArg lN hdm)) ?_
        refine lv_lstore (lv' := [(14, .long (lN (a % b))), (12, .long (lN (a / b))), (10, .long (lZ y)), (8, .long (lZ x)), (6, .long (lN b)), (4, .long (lN a)), (2, .long (lN mo)), (0, .long (lN v))]) hx hb dX5_inverseOf_36 hl (by decide) rfl (fun ls hl => ?_)
        refine lv_lload hx hb dX5_inverseOf_38 (lv_at hl 4 rfl) ?_
        refine lv_lstore (lv' := [(4, .long (lN b)), (14, .long (lN (a % b))), (12, .long (lN (a / b))), (10, .long (lZ y)), (8, .long (lZ x)), (6, .long (lN b)), (2, .long (lN mo)), (0, .long (lN v))]) hx hb dX5_inverseOf_40 hl (by decide) rfl (fun ls hl => ?_)
        refine lv_lload hx hb dX5_inverseOf_42 (lv_at hl 1 rfl) ?_
        refine lv_lstore (lv' := [(6, .long (lN (a % b))), (4, .long (lN b)), (14, .long (lN (a % b))), (12, .long (lN (a / b))), (10, .long (lZ y)), (8, .long (lZ x)), (2, .long (lN mo)), (0, .long (lN v))]) hx hb dX5_inverseOf_44 hl (by decide) rfl (fun ls hl => ?_)
        refine lv_lload hx hb dX5_inverseOf_46 (lv_at hl 5 rfl) ?_
        refine lv_lload hx hb dX5_inverseOf_48 (lv_at hl 3 rfl) ?_
        refine lv_lload hx hb dX5_inverseOf_50 (lv_at hl 4 rfl) ?_
        refine lv_lmul hx hb dX5_inverseOf_52 ?_
        refine zz_l (y := lZ (((a / b : Nat) : Int) * y)) (by rw [← lZ_nat, lZ_mul]) ?_
        refine lv_lsub hx hb dX5_inverseOf_53 ?_
        refine zz_l (y := lZ (x - ((a / b : Nat) : Int) * y)) (lZ_sub _ _) ?_
        refine lv_lstore (lv' := [(16, .long (lZ (x - ((a / b : Nat) : Int) * y))), (6, .long (lN (a % b))), (4, .long (lN b)), (14, .long (lN (a % b))), (12, .long (lN (a / b))), (10, .long (lZ y)), (8, .long (lZ x)), (2, .long (lN mo)), (0, .long (lN v))]) hx hb dX5_inverseOf_54 hl (by decide) rfl (fun ls hl => ?_)
        refine lv_lload hx hb dX5_inverseOf_56 (lv_at hl 5 rfl) ?_
        refine lv_lstore (lv' := [(8, .long (lZ y)), (16, .long (lZ (x - ((a / b : Nat) : Int) * y))), (6, .long (lN (a % b))), (4, .long (lN b)), (14, .long (lN (a % b))), (12, .long (lN (a / b))), (10, .long (lZ y)), (2, .long (lN mo)), (0, .long (lN v))]) hx hb dX5_inverseOf_58 hl (by decide) rfl (fun ls hl => ?_)
        refine lv_lload hx hb dX5_inverseOf_60 (lv_at hl 1 rfl) ?_
        refine lv_lstore (lv' := [(10, .long (lZ (x - ((a / b : Nat) : Int) * y))), (8, .long (lZ y)), (16, .long (lZ (x - ((a / b : Nat) : Int) * y))), (6, .long (lN (a % b))), (4, .long (lN b)), (14, .long (lN (a % b))), (12, .long (lN (a / b))), (2, .long (lN mo)), (0, .long (lN v))]) hx hb dX5_inverseOf_62 hl (by decide) rfl (fun ls hl => ?_)
        refine lv_goto (tgt := 14) hx hb dX5_inverseOf_64 (by decide) ?_
        exact ih b (a % b) y (x - ((a / b : Nat) : Int) * y) (by omega) (eu_step hI hbp) (by omega) ls (lv_sub hl [0, 1, 3, 4, 7, 8] rfl)
  exact LOOP14 (v + 1) mo v 0 1 (by omega) (eu_start hv hg) (Nat.le_refl mo) ls (lv_sub hl [0, 1, 2, 3, 5, 4] rfl)
