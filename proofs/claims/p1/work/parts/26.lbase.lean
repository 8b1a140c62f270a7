/-! the law's cell(s, k), the reference's thrown() -/
abbrev vL_cell : List Cond := .code yL_cell cL_cell 2 (some .int) :: []
set_option maxHeartbeats 4000000 in
set_option maxRecDepth 100000 in
theorem c_L_cell (l : Launch) (b N : Nat) (hN : N < 2 ^ 31) (xs : Nat → Int32) : Met l yL_cell vL_cell ({ frames := 0, cells := 0, slots := 0, locals := 0 }) (va_Pc [.ref b, .int (nI 0)] (fun U => va_X b N xs U U.heap ∧ b < U.heap.size)) (pQi (fun r => r = if 0 < N then xs 0 else 0)) 0 0 (fun _ => False) := by
  refine Met.ofW (cc := cL_cell) (maxL := 2) (ret := (some .int)) (by decide +kernel) rfl ?_
  intro p e s m args below meth c s₁ B hml hv
  obtain ⟨rfl, hX, hbl⟩ := hv
  have hx := B.exec
  have hb := B.bytes
  have hr := B.returns
  have hlocks := B.notSynchronized
  have hS : va_S (fun _ => False) s.heap s.heap [] := va_S.rf
  have hl := lv_entry ([.ref b, .int (nI 0)]) (n := 2) (Nat.le_of_ble_eq_true rfl)
  rw [lg_entry_eq]
  generalize (lg_sl ([.ref b, .int (nI 0)]) ++ List.replicate (2 - (lg_sl ([.ref b, .int (nI 0)])).length) Slot.unset).toArray = ls at hl ⊢
  have hl : lv_has ls 2 [(0, .ref b), (1, .int (nI 0))] := hl
  refine lv_iload_n hx hb dL_cell_0 rfl (lv_at hl 1 rfl) ?_
  refine lv_aload_n hx hb dL_cell_1 rfl (lv_at hl 0 rfl) ?_
  refine va_slen hx hb hX hbl (fun h => h) hS dL_cell_2 ?_
  refine lv_icmp_ge (tgt := 12) hx hb dL_cell_3 (by decide) (fun hc => ?_) (fun hc => ?_)
  · have h0 : ¬ 0 < N := fun h => nI_ge h hN hc
    refine lv_iconst (v := 0) hx hb dL_cell_12 (by decide +kernel) ?_
    refine W.iret hx hb hr (fun t ht hW => pQi_end ?_ (hS.F ht)) hS.2.2 dL_cell_13
    exact (if_neg h0).symm
  · have h0 : 0 < N := Nat.lt_of_not_le fun h => hc (nI_le h (by decide))
    refine lv_aload_n hx hb dL_cell_6 rfl (lv_at hl 0 rfl) ?_
    refine lv_iload_n hx hb dL_cell_7 rfl (lv_at hl 1 rfl) ?_
    refine va_sld hx hb hX hbl (fun h => h) hS (vp_in_nI h0 hN) dL_cell_8 ?_
    refine lv_goto (tgt := 13) hx hb dL_cell_9 (by decide) ?_
    refine W.iret hx hb hr (fun t ht hW => pQi_end ?_ (hS.F ht)) hS.2.2 dL_cell_13
    exact (if_pos h0).symm ▸ rfl
abbrev vX5_thrown : List Cond := .code yX5_thrown cX5_thrown 1 (some .int) :: mWS
set_option maxHeartbeats 4000000 in
set_option maxRecDepth 100000 in
theorem c_X5_thrown (l : Launch) (dC : Nat → ClassId) (dI : Nat → Nat → Nat) (ad : Nat → Nat) (pr : Nat) (th gv : Int32) : Met l yX5_thrown vX5_thrown ({ frames := 0, cells := 0, slots := 0, locals := 0 }) (va_Pc [.ref (ad 0)] (fun U => va_P (dC, dI) vwCl (mO ad pr th gv) U.heap ∧ va_K (dC, dI) vwCl [] U)) (pQi (fun r => r = th)) 0 0 (fun _ => False) := by
  refine Met.ofW (cc := cX5_thrown) (maxL := 1) (ret := (some .int)) (by decide +kernel) rfl ?_
  intro p e s m args below meth c s₁ B hml hv
  obtain ⟨rfl, hP, hK⟩ := hv
  have hx := B.exec
  have hb := B.bytes
  have hr := B.returns
  have hlocks := B.notSynchronized
  have hts := atoms_spec (ws := vX5_thrown) B.pre
  have hown : s.vm.findClass RX5 = some m.cls := findClass_of_methodNamed B.named
  have hS : va_S (fun _ => False) s.heap s.heap [] := va_S.rf
  have hinX5 : ∀ w ∈ wsX50, w ∈ vX5_thrown := fun w h => List.mem_cons_of_mem _ (inMX5 w h)
  have hl := lv_entry ([.ref (ad 0)]) (n := 1) (Nat.le_of_ble_eq_true rfl)
  rw [lg_entry_eq]
  generalize (lg_sl ([.ref (ad 0)]) ++ List.replicate (1 - (lg_sl ([.ref (ad 0)])).length) Slot.unset).toArray = ls at hl ⊢
  have hl : lv_has ls 1 [(0, .ref (ad 0))] := hl
  refine lv_aload_n hx hb dX5_thrown_0 rfl (lv_at hl 0 rfl) ?_
  refine va_get (D := (dC, dI)) (ci := 6) (v := .int th) (C := RX5) (T := TX5) (N := 36) hx hb hts hinX5 hown hK hP 0 rfl rfl 0 (by decide) (hts (.fieldLink RX5 108 "ResidueRowsModel" "thrown" "I") (by decide +kernel)) (fun _ h9 => h9) rfl dX5_thrown_1 ?_
  refine W.iret hx hb hr (fun t ht hW => pQi_end ?_ (hS.F ht)) hS.2.2 dX5_thrown_4
  rfl

/-! two worlds side by side -/
theorem wl_P {D : va_G} {cl : List vw_C} {a b : va_W} {H : Heap} (h : va_P D cl (a ++ b) H) : va_P D cl a H := fun k q hk => h k q (by rw [List.getElem?_append_left (List.getElem?_eq_some_iff.mp hk).1]; exact hk)
theorem wr_P {D : va_G} {cl : List vw_C} {a b : va_W} {H : Heap} (h : va_P D cl (a ++ b) H) : va_P D cl b H := fun k q hk => h (a.length + k) q (by rw [List.getElem?_append_right (by omega), show a.length + k - a.length = k by omega]; exact hk)
theorem wl_D {A : Nat → Prop} {a b : va_W} (h : va_D A (a ++ b)) : va_D A a :=
  have f : ∀ (k : Nat) (q : Nat × va_E), a[k]? = some q → (a ++ b)[k]? = some q := fun k q hk => by rw [List.getElem?_append_left (List.getElem?_eq_some_iff.mp hk).1]; exact hk
  ⟨fun i j x y hi hj e => h.1 i j x y (f i x hi) (f j y hj) e, fun k q hk => h.2 k q (f k q hk)⟩
theorem wr_D {A : Nat → Prop} {a b : va_W} (h : va_D A (a ++ b)) : va_D A b :=
  have f : ∀ (k : Nat) (q : Nat × va_E), b[k]? = some q → (a ++ b)[a.length + k]? = some q := fun k q hk => by rw [List.getElem?_append_right (by omega), show a.length + k - a.length = k by omega]; exact hk
  ⟨fun i j x y hi hj e => by have h9 := h.1 _ _ x y (f i x hi) (f j y hj) e; omega, fun k q hk => h.2 _ q (f k q hk)⟩
theorem w_ne {A : Nat → Prop} {a b : va_W} (h : va_D A (a ++ b)) {i j : Nat} {x y : Nat × va_E} (hi : a[i]? = some x) (hj : b[j]? = some y) : x.1 ≠ y.1 := fun e => by
  have hlt := (List.getElem?_eq_some_iff.mp hi).1
  have h9 := h.1 i (a.length + j) x y (by rw [List.getElem?_append_left hlt]; exact hi) (by rw [List.getElem?_append_right (by omega), show a.length + j - a.length = j by omega]; exact hj) e
  omega
theorem wr_no {D : va_G} {cl : List vw_C} {A : Nat → Prop} {a b : va_W} {H : Heap} (hP : va_P D cl (a ++ b) H) (hD : va_D A (a ++ b)) {k : Nat} {q : Nat × va_E} (hk : b[k]? = some q) : ¬ va_A a H.size q.1 := fun h => by
  rcases h with ⟨i, e, hi⟩ | h
  · exact w_ne hD hi hk rfl
  · exact absurd (wr_P hP k q hk).lt (Nat.not_lt.mpr h)
theorem wl_no {D : va_G} {cl : List vw_C} {A : Nat → Prop} {a b : va_W} {H : Heap} (hP : va_P D cl (a ++ b) H) (hD : va_D A (a ++ b)) {k : Nat} {q : Nat × va_E} (hk : a[k]? = some q) : ¬ va_A b H.size q.1 := fun h => by
  rcases h with ⟨i, e, hi⟩ | h
  · exact w_ne hD hk hi rfl
  · exact absurd (wl_P hP k q hk).lt (Nat.not_lt.mpr h)
/-- behind a call that may write in the left world: the right one -/
theorem wr_kept {D : va_G} {cl : List vw_C} {A : Nat → Prop} {a b : va_W} {H H1 : Heap} (hP : va_P D cl (a ++ b) H) (hD : va_D A (a ++ b)) (hk : ∀ q : Nat, q < H.size → ¬ va_A a H.size q → H1[q]? = H[q]?) : va_P D cl b H1 :=
  (wr_P hP).kept (fun k q hq => hk q.1 ((wr_P hP k q hq).lt) (wr_no hP hD hq))
theorem wl_kept {D : va_G} {cl : List vw_C} {A : Nat → Prop} {a b : va_W} {H H1 : Heap} (hP : va_P D cl (a ++ b) H) (hD : va_D A (a ++ b)) (hk : ∀ q : Nat, q < H.size → ¬ va_A b H.size q → H1[q]? = H[q]?) : va_P D cl a H1 :=
  (wl_P hP).kept (fun k q hq => hk q.1 ((wl_P hP k q hq).lt) (wl_no hP hD hq))
/-- what a constructor made in the right world stands beside the left one -/
theorem w_join {D : va_G} {cl : List vw_C} {A : Nat → Prop} {a b b1 : va_W} {H H1 : Heap} (hP : va_P D cl (a ++ b) H) (hD : va_D A (a ++ b)) (hk : ∀ q : Nat, q < H.size → ¬ va_A b H.size q → H1[q]? = H[q]?) (hF : ∀ q, va_A b H.size q → A q) (hP1 : va_P D cl b1 H1) (hD1 : va_D (va_A b H.size) b1) : va_P D cl (a ++ b1) H1 ∧ va_D A (a ++ b1) :=
  ⟨va_P.app (wl_kept hP hD hk) hP1, va_D.app (wl_D hD) (hD1.weaken (fun k q _ h => hF q.1 h)) (fun i j x y hi hj e => wl_no hP hD hi (by rw [e]; exact hD1.2 j y hj))⟩
theorem cx_use {args : Array Value} {s : State} {own tx : String} {k : Nat} (h1 : (Cond.stringRef own k tx).before args s = true) (h2 : (Cond.exactly (.string own k) "java/lang/String").before args s = true) : ∃ a : Nat, vk_R own k tx a s := by
  obtain ⟨a, c, cell, kk, h, -⟩ := Cond.exactly_spec h2
  exact ⟨a, vk_R.of h1 h⟩
theorem kWS_tbl : ∀ w ∈ kWS, w ∈ lw_tbl := by decide +kernel
theorem mWS_tbl : ∀ w ∈ mWS, w ∈ lw_tbl := by decide +kernel
theorem cWS_tbl : ∀ w ∈ cWS, w ∈ lw_tbl := by decide +kernel
theorem lWS0_tbl : ∀ w ∈ lWS0, w ∈ lw_tbl := by decide +kernel
theorem gT_gi {w : Cond} (h : w ∈ lw_tbl) (hg : goodWord w = true) : w ∈ lw_tbl ∧ ((w.onTables && w.keeps) = true ∨ ∃ ty, w = .arrayClass ty) := ⟨h, good_of_word hg⟩
theorem gT_app {a b : List Cond} (ha : GoodIn lw_tbl a) (hb : GoodIn lw_tbl b) : GoodIn lw_tbl (a ++ b) := fun w h => (List.mem_append.mp h).elim (ha w) (hb w)
theorem gT_k : GoodIn lw_tbl kWS := fun w h => gT_gi (kWS_tbl w h) (kWS_good w h)
theorem gT_m : GoodIn lw_tbl mWS := fun w h => gT_gi (mWS_tbl w h) (mWS_good w h)
theorem gT_l : GoodIn lw_tbl lWS := gT_app (fun w h => gT_gi (lWS0_tbl w h) (lWS0_good w h)) (fun w h => gT_gi (cWS_tbl w h) (cWS_good w h))
theorem gT_c {cw : Cond} {ws : List Cond} (h : cw ∈ lw_tbl ∧ goodWord cw = true) (hw : GoodIn lw_tbl ws) : GoodIn lw_tbl (cw :: ws) := fun w hm => (List.mem_cons.mp hm).elim (fun e => e ▸ gT_gi h.1 h.2) (hw w)
theorem gT_of {ws : List Cond} (h : ∀ w ∈ ws, w ∈ lw_tbl ∧ goodWord w = true) : GoodIn lw_tbl ws := fun w hw => gT_gi (h w hw).1 (h w hw).2
theorem iT0 : ∀ w ∈ wsX00, w ∈ lw_tbl := fun w h => kWS_tbl w (inKX0 w h)
theorem iT1 : ∀ w ∈ wsX10, w ∈ lw_tbl := fun w h => kWS_tbl w (inKX1 w h)
theorem iT2 : ∀ w ∈ wsX20, w ∈ lw_tbl := fun w h => kWS_tbl w (inKX2 w h)
theorem iT3 : ∀ w ∈ wsX30, w ∈ lw_tbl := fun w h => kWS_tbl w (inKX3 w h)
theorem iT4 : ∀ w ∈ wsX40, w ∈ lw_tbl := fun w h => kWS_tbl w (inKX4 w h)
theorem iT5 : ∀ w ∈ wsX50, w ∈ lw_tbl := fun w h => kWS_tbl w (inKX5 w h)
theorem iTJ : ∀ w ∈ wsJx000600, w ∈ lw_tbl := by decide +kernel
