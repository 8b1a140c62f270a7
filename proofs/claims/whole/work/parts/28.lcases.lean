/-! what stands beside the worlds at a call of the law's -/
theorem lh_blind {D : va_G} {ck : Nat → ClassId} {sa : Nat → Nat} {ws : va_W} {sz : Nat} {av : List Value} : FrameBlind (va_Pc av (fun U => cP D ck sa ws sz U ∧ lNc U)) := fun a U g mk h =>
  ⟨h.1, (cP_blind (av := av) a U g mk ⟨h.1, h.2.1⟩).2, lNc.moved (u := U) (U := U.calling g mk a) (Vm.Alike.refl U.vm) h.2.2⟩
theorem lh_of {D : va_G} {ck : Nat → ClassId} {sa : Nat → Nat} {ws : va_W} {A : Nat → Prop} {s : State} {H : Heap} {locs : List Loc} {av : List Value} (hP : va_P D vwCl ws H) (hK : va_K D vwCl (cT ck) s) (hD : va_D A ws) (hS : va_S A s.heap H locs) (hA : ∀ q, s.heap.size ≤ q → A q) (hX : cX sa A s s.heap) (hN : lNc s) :
    ∀ U : State, U.heap = H → s.WarmedH U.vm → va_Pc av (fun U => cP D ck sa ws H.size U ∧ lNc U) av.toArray U := fun U hU hW => ⟨rfl, (cP_of (av := av) hP hK hD hS hA hX U hU hW).2, hN.moved hW.alike⟩
theorem o_no {D : va_G} {cl : List vw_C} {A : Nat → Prop} {a b : va_W} {H H1 : Heap} {o : Nat} {e : va_E} (hP : va_P D cl (a ++ b) H) (hD : va_D A (a ++ b)) (h0 : a[0]? = some (o, e)) (hz : H.size ≤ H1.size) : ¬ va_A b H1.size o := fun h => by
  rcases h with ⟨i, e9, hi⟩ | h
  · exact w_ne hD h0 hi rfl
  · have h9 : o < H.size := (wl_P hP 0 (o, e) h0).lt
    omega

set_option maxHeartbeats 4000000 in
set_option maxRecDepth 100000 in
/-- a turn is over: the script has no other call -/
theorem law_end {p : Program} {l : Launch} {e : Env} {s : State} {m : MethodId} {below : List Frame} {meth : Method} {c : Code} {b : Nat} {xs : Nat → Int32} (C0 : lw_At p s m meth c b 5 xs) {H : Heap} {locs : List Loc} {cells slots : Nat} (hc9 : cells ≤ 1000) (hs9 : slots ≤ 100000) (hS : va_S (fun q : Nat => s.heap.size ≤ q) s.heap H locs) {ls : Array Slot} (hl : lv_has ls 7 [(4, .int (nI 1)), (0, .ref b)]) : W p l e room_1 s m #[Value.ref b] below meth c H locs cells slots (lw_Z below #[Value.ref b] s) (F0 m 931 ls []) := by
  obtain ⟨hx, hb, hr, hml, hown, hts, hX, hbl, hlocks, hgv⟩ := id C0
  have hown : s.vm.findClass RL = some m.cls := hown
  have hA : ∀ q : Nat, s.heap.size ≤ q → (fun q : Nat => s.heap.size ≤ q) q := fun _ h => h
  have hbA : ¬ (fun q : Nat => s.heap.size ≤ q) b := Nat.not_le.mpr hbl
  refine W.widen (k := 1000) (n := 100000) hc9 hs9 ?_
  refine lv_iinc (v := nI 5) (lv' := [(4, .int (nI 5)), (0, .ref b)]) hx hb dL_law_931 hl (k := 0) rfl (by decide +kernel) (by decide) rfl (fun ls hl => ?_)
  refine lv_goto (tgt := 33) hx hb dL_law_934 (by decide) ?_
  refine lv_iload hx hb dL_law_33 (lv_at hl 0 rfl) ?_
  refine lv_aload_n hx hb dL_law_35 rfl (lv_at hl 1 rfl) ?_
  refine va_slen hx hb hX hbl hbA hS dL_law_36 ?_
  refine zz_i (y := nI 5) (rfl) ?_
  refine lv_iconst (v := nI 4) hx hb dL_law_37 (by decide +kernel) ?_
  refine lv_isub hx hb dL_law_38 ?_
  refine zz_i (y := nI 1) (by decide +kernel) ?_
  refine lv_icmp_gt (tgt := 937) hx hb dL_law_39 (by decide) (fun _ => ?_) (fun hcc => absurd (by decide +kernel) hcc)
  refine lv_iconst (v := 1) hx hb dL_law_937 (by decide +kernel) ?_
  refine va_forget (fun q hq => hS.2.2 q hq) ?_
  refine W.widen (k := 601024) (n := 7293000) (by decide) (by decide) ?_
  exact lw_ret hx hb hr hlocks dL_law_938

set_option maxHeartbeats 4000000 in
set_option maxRecDepth 100000 in
/-- the turn of poly -/
theorem law_0 {p : Program} {l : Launch} {e : Env} {s : State} {m : MethodId} {below : List Frame} {meth : Method} {c : Code} {b : Nat} {xs : Nat → Int32} (hnt : l.stackTraces = false) (C0 : lw_At p s m meth c b 5 xs) {dC : Nat → ClassId} {dI : Nat → Nat → Nat} {ad : Nat → Nat} {g : Nat → Option Nat} {ck : Nat → ClassId} {sa : Nat → Nat} {L : List Nat} {pr : Nat} {adm : Nat → Nat} {ckm : Nat → ClassId} {Lm : List Nat} {ln : Nat → Nat} {o : Nat} (hok : cOk ad g L pr) (hmok : mOk adm Lm ln pr) (hK : va_K (dC, dI) vwCl (cT ck) s) (hKm : va_K (dC, dI) vwCl (mT ckm) s) (hX9 : cX sa (fun q : Nat => s.heap.size ≤ q) s s.heap) (hN9 : lNc s) {H : Heap} {locs : List Loc} (hP : va_P (dC, dI) vwCl ((((o, zL (ck 1) 1) :: cwX ad g ck pr (nI 0)) ++ va_pl L (fun _ => zI (ck 0))) ++ (mW adm ckm Lm ln pr (nI 0) (nI 0))) H) (hD : va_D (fun q : Nat => s.heap.size ≤ q) ((((o, zL (ck 1) 1) :: cwX ad g ck pr (nI 0)) ++ va_pl L (fun _ => zI (ck 0))) ++ (mW adm ckm Lm ln pr (nI 0) (nI 0)))) (hS : va_S (fun q : Nat => s.heap.size ≤ q) s.heap H locs) {ls : Array Slot} (hl : lv_has ls 7 [(4, .int (nI 1)), (3, .ref o), (2, .ref (adm 0)), (1, .ref (ad 0)), (0, .ref b)]) : W p l e room_1 s m #[Value.ref b] below meth c H locs 294 17270 (lw_Z below #[Value.ref b] s) (F0 m 112 ls []) := by
  obtain ⟨hx, hb, hr, hml, hown, hts, hX, hbl, hlocks, hgv⟩ := id C0
  have hown : s.vm.findClass RL = some m.cls := hown
  have hA : ∀ q : Nat, s.heap.size ≤ q → (fun q : Nat => s.heap.size ≤ q) q := fun _ h => h
  have hbA : ¬ (fun q : Nat => s.heap.size ≤ q) b := Nat.not_le.mpr hbl
  refine lv_aload_n hx hb dL_law_112 rfl (lv_at hl 3 rfl) ?_
  refine lv_aload_n hx hb dL_law_113 rfl (lv_at hl 1 rfl) ?_
  have hPh := wl_P hP
  have hDh := wl_D hD
  refine va_calli (vx_runSW (As := [.ref (ad 0), .ref o]) (rest := []) ⟨hx, hb, hml, hown, hts⟩ (c_L_poly l hnt dC dI ad g ck sa L pr hok o H.size ) (vx_cwSW 2 hts (gT_app (gT_of (by decide +kernel)) (gT_c (by decide +kernel) gT_l)) rfl rfl rfl (by decide +kernel) ⟨Nat.le_of_ble_eq_true rfl, Nat.le_of_ble_eq_true rfl⟩) ⟨lh_blind, lh_of hPh hK hDh hS hA hX9 hN9⟩ rfl rfl hl.1 rfl (lv_room (Nat.le_of_ble_eq_true rfl)) dL_law_114 ⟨Nat.le_of_ble_eq_true rfl, Nat.le_of_ble_eq_true rfl⟩) hS (fun q _ h => cF hDh hS hA q h) (cF hDh hS hA) (fun k9 f9 t Ha locsa ht hvm hw hB hz hk hS => ?_)
  have hPo : va_P (dC, dI) vwCl [(o, .inl (ck 1, 1, .inr (.inl f9)))] Ha := by rw [← ht]; exact hB
  have hPm : va_P (dC, dI) vwCl (mW adm ckm Lm ln pr (nI 0) (nI 0)) Ha := wr_kept hP hD hk
  have hDm : va_D (fun q : Nat => s.heap.size ≤ q) (mW adm ckm Lm ln pr (nI 0) (nI 0)) := wr_D hD
  have hoM : ¬ va_A (mW adm ckm Lm ln pr (nI 0) (nI 0)) Ha.size o := o_no hP hD rfl hz
  refine W.widen (k := 294) (n := 17270) (by decide) (by decide) ?_
  clear ht hvm hz hk hB
  refine lv_istore (lv' := [(5, .int k9), (4, .int (nI 1)), (3, .ref o), (2, .ref (adm 0)), (1, .ref (ad 0)), (0, .ref b)]) hx hb dL_law_117 hl (by decide) rfl (fun ls hl => ?_)
  refine lv_aload_n hx hb dL_law_119 rfl (lv_at hl 3 rfl) ?_
  refine va_calli (va_runV (As := []) (rest := []) ⟨hx, hb, hml, hown, hts⟩ (c_X5_poly l dC dI adm ckm Lm ln pr hmok Ha.size (nI 0) ) (cwV 0 hts (gT_app (gT_of (by decide +kernel)) (gT_c (by decide +kernel) gT_m)) rfl rfl rfl (by decide +kernel) ⟨Nat.le_of_ble_eq_true rfl, Nat.le_of_ble_eq_true rfl⟩) ⟨mP_blind, va_recv hKm hPm (ci := 6) (q0 := 0) rfl rfl, mP_of hPm hKm hDm⟩ rfl rfl hl.1 rfl (lv_room (Nat.le_of_ble_eq_true rfl)) dL_law_120 ⟨Nat.le_of_ble_eq_true rfl, Nat.le_of_ble_eq_true rfl⟩) hS (fun q _ h => cF hDm hS hA q h) (cF hDm hS hA) (fun b6 u t Hb locsb ht hvm hm hB hz hk hS => ?_)
  obtain ⟨th9, gv9⟩ := u
  have hPt : va_P (dC, dI) vwCl (mO adm pr th9 gv9) Hb := by rw [← ht]; exact hB
  have hPo := out_kept hPo hoM hk
  clear hk hz
  refine lv_istore (lv' := [(6, .int b6), (5, .int k9), (4, .int (nI 1)), (3, .ref o), (2, .ref (adm 0)), (1, .ref (ad 0)), (0, .ref b)]) hx hb dL_law_123 hl (by decide) rfl (fun ls hl => ?_)
  refine lv_aload_n hx hb dL_law_125 rfl (lv_at hl 4 rfl) ?_
  refine pc_i (va_runV (As := []) (rest := []) ⟨hx, hb, hml, hown, hts⟩ (c_X5_thrown l dC dI adm pr th9 gv9) (cwV 0 hts (gT_app (gT_of (by decide +kernel)) (gT_c (by decide +kernel) gT_m)) rfl rfl rfl (by decide +kernel) ⟨Nat.le_of_ble_eq_true rfl, Nat.le_of_ble_eq_true rfl⟩) ⟨fun a U g mk h => ⟨h.1, h.2.1, va_K.moved (u := U) (U := U.calling g mk a) (Vm.Alike.refl U.vm) h.2.2⟩, va_recv hKm hPt (ci := 6) (q0 := 0) rfl rfl, fun U hU hW => ⟨rfl, by rw [hU]; exact hPt, va_K.moved hW.alike (hKm.sub [] rfl)⟩⟩ rfl rfl hl.1 rfl (lv_room (Nat.le_of_ble_eq_true rfl)) dL_law_126 ⟨Nat.le_of_ble_eq_true rfl, Nat.le_of_ble_eq_true rfl⟩) hS (fun r75 Hc locsc hr75 hz hk hS => ?_)
  subst hr75
  have hPo := hPo.kept (fun k x hx => hk x.1 ((hPo k x hx).lt))
  have hEq : r75 = k9 ∧ (k9 = nI 0 → f9 0 = b6.toInt64) := by
    obtain ⟨hk, r, hr9, hf⟩ := hw
    obtain ⟨ht, hb6⟩ := hm
    exact ⟨ht.trans hk.symm, fun _ => by rw [hf, show r = nI 0 from hr9, hb6]⟩
  refine lv_iload hx hb dL_law_129 (lv_at hl 1 rfl) ?_
  refine lv_icmp_eq (tgt := 136) hx hb dL_law_131 (by decide) (fun _ => ?_) (fun hcc => absurd (hEq.1) hcc)
  refine lv_iload hx hb dL_law_136 (lv_at hl 1 rfl) ?_
  refine lv_if_ne (tgt := 153) hx hb dL_law_138 (by decide) (fun hc138 => ?_) (fun hc138 => ?_)
  · refine lv_goto (tgt := 931) hx hb dL_law_153 (by decide) ?_
    exact law_end C0 (by decide) (by decide) hS (lv_sub hl [2, 6] rfl)
  · have hk0 : k9 = nI 0 := hc138.trans nI_0.symm
    refine lv_aload_n hx hb dL_law_141 rfl (lv_at hl 3 rfl) ?_
    refine lv_iconst (v := nI 0) hx hb dL_law_142 (by decide +kernel) ?_
    refine va_lald hx hb hK hPo 0 1 rfl rfl (vp_in_nI (by decide) (by decide)) dL_law_143 ?_
    refine zz_l (y := f9 0) (congrArg f9 (nI_clamp (by decide))) ?_
    refine lv_iload hx hb dL_law_144 (lv_at hl 0 rfl) ?_
    refine lv_i2l (v := b6.toInt64) hx hb dL_law_146 (rfl) ?_
    refine W.lcmp hx hb dL_law_147 ?_
    refine lv_if_eq (tgt := 153) hx hb dL_law_148 (by decide) (fun _ => ?_) (fun hcc => absurd ((lc_eq _ _).mpr (hEq.2 hk0)) hcc)
    refine lv_goto (tgt := 931) hx hb dL_law_153 (by decide) ?_
    exact law_end C0 (by decide) (by decide) hS (lv_sub hl [2, 6] rfl)

set_option maxHeartbeats 4000000 in
set_option maxRecDepth 100000 in
/-- the turn of set -/
theorem law_1 {p : Program} {l : Launch} {e : Env} {s : State} {m : MethodId} {below : List Frame} {meth : Method} {c : Code} {b : Nat} {xs : Nat → Int32} (hnt : l.stackTraces = false) (C0 : lw_At p s m meth c b 5 xs) {dC : Nat → ClassId} {dI : Nat → Nat → Nat} {ad : Nat → Nat} {g : Nat → Option Nat} {ck : Nat → ClassId} {sa : Nat → Nat} {L : List Nat} {pr : Nat} {adm : Nat → Nat} {ckm : Nat → ClassId} {Lm : List Nat} {ln : Nat → Nat} {o : Nat} (hok : cOk ad g L pr) (hmok : mOk adm Lm ln pr) (hK : va_K (dC, dI) vwCl (cT ck) s) (hKm : va_K (dC, dI) vwCl (mT ckm) s) (hX9 : cX sa (fun q : Nat => s.heap.size ≤ q) s s.heap) (hN9 : lNc s) {H : Heap} {locs : List Loc} (hP : va_P (dC, dI) vwCl ((((o, zL (ck 1) 1) :: cwX ad g ck pr (nI 0)) ++ va_pl L (fun _ => zI (ck 0))) ++ (mW adm ckm Lm ln pr (nI 0) (nI 0))) H) (hD : va_D (fun q : Nat => s.heap.size ≤ q) ((((o, zL (ck 1) 1) :: cwX ad g ck pr (nI 0)) ++ va_pl L (fun _ => zI (ck 0))) ++ (mW adm ckm Lm ln pr (nI 0) (nI 0)))) (hS : va_S (fun q : Nat => s.heap.size ≤ q) s.heap H locs) {ls : Array Slot} (hl : lv_has ls 7 [(4, .int (nI 1)), (3, .ref o), (2, .ref (adm 0)), (1, .ref (ad 0)), (0, .ref b)]) : W p l e room_1 s m #[Value.ref b] below meth c H locs 294 17270 (lw_Z below #[Value.ref b] s) (F0 m 156 ls []) := by
  obtain ⟨hx, hb, hr, hml, hown, hts, hX, hbl, hlocks, hgv⟩ := id C0
  have hown : s.vm.findClass RL = some m.cls := hown
  have hA : ∀ q : Nat, s.heap.size ≤ q → (fun q : Nat => s.heap.size ≤ q) q := fun _ h => h
  have hbA : ¬ (fun q : Nat => s.heap.size ≤ q) b := Nat.not_le.mpr hbl
  refine lv_aload_n hx hb dL_law_156 rfl (lv_at hl 3 rfl) ?_
  refine lv_aload_n hx hb dL_law_157 rfl (lv_at hl 4 rfl) ?_
  refine lv_iload hx hb dL_law_158 (lv_at hl 0 rfl) ?_
  refine lv_iconst (v := nI 1) hx hb dL_law_160 (by decide +kernel) ?_
  refine lv_iadd hx hb dL_law_161 ?_
  refine zz_i (y := nI 2) (by decide +kernel) ?_
  refine va_sld hx hb hX hbl hbA hS (vp_in_nI (by decide) (by decide)) dL_law_162 ?_
  refine zz_i (y := xs 2) (congrArg xs (nI_clamp (by decide))) ?_
  refine lv_aload_n hx hb dL_law_163 rfl (lv_at hl 4 rfl) ?_
  refine lv_iload hx hb dL_law_164 (lv_at hl 0 rfl) ?_
  refine lv_iconst (v := nI 2) hx hb dL_law_166 (by decide +kernel) ?_
  refine lv_iadd hx hb dL_law_167 ?_
  refine zz_i (y := nI 3) (by decide +kernel) ?_
  refine va_sld hx hb hX hbl hbA hS (vp_in_nI (by decide) (by decide)) dL_law_168 ?_
  refine zz_i (y := xs 3) (congrArg xs (nI_clamp (by decide))) ?_
  refine lv_aload_n hx hb dL_law_169 rfl (lv_at hl 4 rfl) ?_
  refine lv_iload hx hb dL_law_170 (lv_at hl 0 rfl) ?_
  refine lv_iconst (v := nI 3) hx hb dL_law_172 (by decide +kernel) ?_
  refine lv_iadd hx hb dL_law_173 ?_
  refine zz_i (y := nI 4) (by decide +kernel) ?_
  refine va_sld hx hb hX hbl hbA hS (vp_in_nI (by decide) (by decide)) dL_law_174 ?_
  refine zz_i (y := xs 4) (congrArg xs (nI_clamp (by decide))) ?_
  refine lv_aload_n hx hb dL_law_175 rfl (lv_at hl 1 rfl) ?_
  have hPh := wl_P hP
  have hDh := wl_D hD
  refine va_calli (vx_runSW (As := [.ref (ad 0), .int (xs 2), .int (xs 3), .int (xs 4), .ref o]) (rest := []) ⟨hx, hb, hml, hown, hts⟩ (c_L_set l hnt dC dI ad g ck sa L pr hok o H.size (xs 2) (xs 3) (xs 4)) (vx_cwSW 5 hts (gT_app (gT_of (by decide +kernel)) (gT_c (by decide +kernel) gT_l)) rfl rfl rfl (by decide +kernel) ⟨Nat.le_of_ble_eq_true rfl, Nat.le_of_ble_eq_true rfl⟩) ⟨lh_blind, lh_of hPh hK hDh hS hA hX9 hN9⟩ rfl rfl hl.1 rfl (lv_room (Nat.le_of_ble_eq_true rfl)) dL_law_176 ⟨Nat.le_of_ble_eq_true rfl, Nat.le_of_ble_eq_true rfl⟩) hS (fun q _ h => cF hDh hS hA q h) (cF hDh hS hA) (fun k9 f9 t Ha locsa ht hvm hw hB hz hk hS => ?_)
  have hPo : va_P (dC, dI) vwCl [(o, .inl (ck 1, 1, .inr (.inl f9)))] Ha := by rw [← ht]; exact hB
  have hPm : va_P (dC, dI) vwCl (mW adm ckm Lm ln pr (nI 0) (nI 0)) Ha := wr_kept hP hD hk
  have hDm : va_D (fun q : Nat => s.heap.size ≤ q) (mW adm ckm Lm ln pr (nI 0) (nI 0)) := wr_D hD
  have hoM : ¬ va_A (mW adm ckm Lm ln pr (nI 0) (nI 0)) Ha.size o := o_no hP hD rfl hz
  refine W.widen (k := 296) (n := 17282) (by decide) (by decide) ?_
  clear ht hvm hz hk hB
  refine lv_istore (lv' := [(5, .int k9), (4, .int (nI 1)), (3, .ref o), (2, .ref (adm 0)), (1, .ref (ad 0)), (0, .ref b)]) hx hb dL_law_179 hl (by decide) rfl (fun ls hl => ?_)
  refine lv_aload_n hx hb dL_law_181 rfl (lv_at hl 3 rfl) ?_
  refine lv_aload_n hx hb dL_law_182 rfl (lv_at hl 5 rfl) ?_
  refine lv_iload hx hb dL_law_183 (lv_at hl 1 rfl) ?_
  refine lv_iconst (v := nI 1) hx hb dL_law_185 (by decide +kernel) ?_
  refine lv_iadd hx hb dL_law_186 ?_
  refine zz_i (y := nI 2) (by decide +kernel) ?_
  refine va_sld hx hb hX hbl hbA hS (vp_in_nI (by decide) (by decide)) dL_law_187 ?_
  refine zz_i (y := xs 2) (congrArg xs (nI_clamp (by decide))) ?_
  refine lv_aload_n hx hb dL_law_188 rfl (lv_at hl 5 rfl) ?_
  refine lv_iload hx hb dL_law_189 (lv_at hl 1 rfl) ?_
  refine lv_iconst (v := nI 2) hx hb dL_law_191 (by decide +kernel) ?_
  refine lv_iadd hx hb dL_law_192 ?_
  refine zz_i (y := nI 3) (by decide +kernel) ?_
  refine va_sld hx hb hX hbl hbA hS (vp_in_nI (by decide) (by decide)) dL_law_193 ?_
  refine zz_i (y := xs 3) (congrArg xs (nI_clamp (by decide))) ?_
  refine lv_aload_n hx hb dL_law_194 rfl (lv_at hl 5 rfl) ?_
  refine lv_iload hx hb dL_law_195 (lv_at hl 1 rfl) ?_
  refine lv_iconst (v := nI 3) hx hb dL_law_197 (by decide +kernel) ?_
  refine lv_iadd hx hb dL_law_198 ?_
  refine zz_i (y := nI 4) (by decide +kernel) ?_
  refine va_sld hx hb hX hbl hbA hS (vp_in_nI (by decide) (by decide)) dL_law_199 ?_
  refine zz_i (y := xs 4) (congrArg xs (nI_clamp (by decide))) ?_
  refine va_calli (va_runV (As := [.int (xs 2), .int (xs 3), .int (xs 4)]) (rest := []) ⟨hx, hb, hml, hown, hts⟩ (c_X5_set l dC dI adm ckm Lm ln pr hmok Ha.size (nI 0) (xs 2) (xs 3) (xs 4)) (cwV 3 hts (gT_app (gT_of (by decide +kernel)) (gT_c (by decide +kernel) gT_m)) rfl rfl rfl (by decide +kernel) ⟨Nat.le_of_ble_eq_true rfl, Nat.le_of_ble_eq_true rfl⟩) ⟨mP_blind, va_recv hKm hPm (ci := 6) (q0 := 0) rfl rfl, mP_of hPm hKm hDm⟩ rfl rfl hl.1 rfl (lv_room (Nat.le_of_ble_eq_true rfl)) dL_law_200 ⟨Nat.le_of_ble_eq_true rfl, Nat.le_of_ble_eq_true rfl⟩) hS (fun q _ h => cF hDm hS hA q h) (cF hDm hS hA) (fun b6 u t Hb locsb ht hvm hm hB hz hk hS => ?_)
  obtain ⟨th9, gv9⟩ := u
  have hPt : va_P (dC, dI) vwCl (mO adm pr th9 gv9) Hb := by rw [← ht]; exact hB
  have hPo := out_kept hPo hoM hk
  clear hk hz
  refine lv_istore (lv' := [(6, .int b6), (5, .int k9), (4, .int (nI 1)), (3, .ref o), (2, .ref (adm 0)), (1, .ref (ad 0)), (0, .ref b)]) hx hb dL_law_203 hl (by decide) rfl (fun ls hl => ?_)
  refine lv_aload_n hx hb dL_law_205 rfl (lv_at hl 4 rfl) ?_
  refine pc_i (va_runV (As := []) (rest := []) ⟨hx, hb, hml, hown, hts⟩ (c_X5_thrown l dC dI adm pr th9 gv9) (cwV 0 hts (gT_app (gT_of (by decide +kernel)) (gT_c (by decide +kernel) gT_m)) rfl rfl rfl (by decide +kernel) ⟨Nat.le_of_ble_eq_true rfl, Nat.le_of_ble_eq_true rfl⟩) ⟨fun a U g mk h => ⟨h.1, h.2.1, va_K.moved (u := U) (U := U.calling g mk a) (Vm.Alike.refl U.vm) h.2.2⟩, va_recv hKm hPt (ci := 6) (q0 := 0) rfl rfl, fun U hU hW => ⟨rfl, by rw [hU]; exact hPt, va_K.moved hW.alike (hKm.sub [] rfl)⟩⟩ rfl rfl hl.1 rfl (lv_room (Nat.le_of_ble_eq_true rfl)) dL_law_206 ⟨Nat.le_of_ble_eq_true rfl, Nat.le_of_ble_eq_true rfl⟩) hS (fun r75 Hc locsc hr75 hz hk hS => ?_)
  subst hr75
  have hPo := hPo.kept (fun k x hx => hk x.1 ((hPo k x hx).lt))
  have hEq : r75 = k9 ∧ (k9 = nI 0 → ((b6 = 0 ∧ f9 0 = lN 0) ∨ (¬ b6 = 0 ∧ f9 0 = lN 1))) := by
    rcases hw with ⟨hk, r, ⟨h1, h2, h3⟩, h4⟩ | ⟨hk, h⟩ <;> rcases hm with ⟨ht, h5, h6⟩ | ⟨ht, h5⟩
    · refine ⟨ht.trans hk.symm, fun _ => ?_⟩
      rcases h4 with ⟨e1, e2⟩ | ⟨e1, e2⟩ <;> rcases h3 with ⟨h7, h8⟩ | ⟨h7, h8⟩ <;> rcases h6 with ⟨g7, g8⟩ | ⟨g7, g8⟩
      · exact Or.inr ⟨by rw [g7]; decide +kernel, e2⟩
      · exact absurd g8 h8
      · exact absurd (e1.symm.trans h7) (by decide +kernel)
      · exact absurd (e1.symm.trans h7) (by decide +kernel)
      · exact absurd (e1.symm.trans h7) (by decide +kernel)
      · exact absurd (e1.symm.trans h7) (by decide +kernel)
      · exact absurd h8 g8
      · exact Or.inl ⟨by rw [g7]; exact nI_0, e2⟩
    · exact absurd ⟨h1, h2⟩ h5
    · exact absurd h5 h
    · exact ⟨ht.trans hk.symm, fun h0 => absurd (hk.symm.trans h0) (by decide +kernel)⟩
  refine lv_iload hx hb dL_law_209 (lv_at hl 1 rfl) ?_
  refine lv_icmp_eq (tgt := 216) hx hb dL_law_211 (by decide) (fun _ => ?_) (fun hcc => absurd (hEq.1) hcc)
  refine lv_iload hx hb dL_law_216 (lv_at hl 1 rfl) ?_
  refine lv_if_ne (tgt := 240) hx hb dL_law_218 (by decide) (fun hc218 => ?_) (fun hc218 => ?_)
  · refine lv_goto (tgt := 931) hx hb dL_law_240 (by decide) ?_
    exact law_end C0 (by decide) (by decide) hS (lv_sub hl [2, 6] rfl)
  · have hk0 : k9 = nI 0 := hc218.trans nI_0.symm
    refine lv_aload_n hx hb dL_law_221 rfl (lv_at hl 3 rfl) ?_
    refine lv_iconst (v := nI 0) hx hb dL_law_222 (by decide +kernel) ?_
    refine va_lald hx hb hK hPo 0 1 rfl rfl (vp_in_nI (by decide) (by decide)) dL_law_223 ?_
    refine zz_l (y := f9 0) (congrArg f9 (nI_clamp (by decide))) ?_
    refine lv_iload hx hb dL_law_224 (lv_at hl 0 rfl) ?_
    refine lv_if_eq (tgt := 233) hx hb dL_law_226 (by decide) (fun hc226 => ?_) (fun hc226 => ?_)
    · have hf : f9 0 = lN 0 := (hEq.2 hk0).elim (fun h => h.2) (fun h => absurd hc226 h.1)
      refine lv_lconst (v := lN 0) hx hb dL_law_233 (by decide +kernel) ?_
      refine W.lcmp hx hb dL_law_234 ?_
      refine lv_if_eq (tgt := 240) hx hb dL_law_235 (by decide) (fun _ => ?_) (fun hcc => absurd ((lc_eq _ _).mpr hf) hcc)
      refine lv_goto (tgt := 931) hx hb dL_law_240 (by decide) ?_
      exact law_end C0 (by decide) (by decide) hS (lv_sub hl [2, 6] rfl)
    · have hf : f9 0 = lN 1 := (hEq.2 hk0).elim (fun h => absurd h.1 hc226) (fun h => h.2)
      refine lv_lconst (v := lN 1) hx hb dL_law_229 (by decide +kernel) ?_
      refine lv_goto (tgt := 234) hx hb dL_law_230 (by decide) ?_
      refine W.lcmp hx hb dL_law_234 ?_
      refine lv_if_eq (tgt := 240) hx hb dL_law_235 (by decide) (fun _ => ?_) (fun hcc => absurd ((lc_eq _ _).mpr hf) hcc)
      refine lv_goto (tgt := 931) hx hb dL_law_240 (by decide) ?_
      exact law_end C0 (by decide) (by decide) hS (lv_sub hl [2, 6] rfl)

set_option maxHeartbeats 4000000 in
set_option maxRecDepth 100000 in
/-- the turn of times -/
theorem law_2 {p : Program} {l : Launch} {e : Env} {s : State} {m : MethodId} {below : List Frame} {meth : Method} {c : Code} {b : Nat} {xs : Nat → Int32} (hnt : l.stackTraces = false) (C0 : lw_At p s m meth c b 5 xs) {dC : Nat → ClassId} {dI : Nat → Nat → Nat} {ad : Nat → Nat} {g : Nat → Option Nat} {ck : Nat → ClassId} {sa : Nat → Nat} {L : List Nat} {pr : Nat} {adm : Nat → Nat} {ckm : Nat → ClassId} {Lm : List Nat} {ln : Nat → Nat} {o : Nat} (hok : cOk ad g L pr) (hmok : mOk adm Lm ln pr) (hK : va_K (dC, dI) vwCl (cT ck) s) (hKm : va_K (dC, dI) vwCl (mT ckm) s) (hX9 : cX sa (fun q : Nat => s.heap.size ≤ q) s s.heap) (hN9 : lNc s) {H : Heap} {locs : List Loc} (hP : va_P (dC, dI) vwCl ((((o, zL (ck 1) 1) :: cwX ad g ck pr (nI 0)) ++ va_pl L (fun _ => zI (ck 0))) ++ (mW adm ckm Lm ln pr (nI 0) (nI 0))) H) (hD : va_D (fun q : Nat => s.heap.size ≤ q) ((((o, zL (ck 1) 1) :: cwX ad g ck pr (nI 0)) ++ va_pl L (fun _ => zI (ck 0))) ++ (mW adm ckm Lm ln pr (nI 0) (nI 0)))) (hS : va_S (fun q : Nat => s.heap.size ≤ q) s.heap H locs) {ls : Array Slot} (hl : lv_has ls 7 [(4, .int (nI 1)), (3, .ref o), (2, .ref (adm 0)), (1, .ref (ad 0)), (0, .ref b)]) : W p l e room_1 s m #[Value.ref b] below meth c H locs 294 17270 (lw_Z below #[Value.ref b] s) (F0 m 243 ls []) := by
  obtain ⟨hx, hb, hr, hml, hown, hts, hX, hbl, hlocks, hgv⟩ := id C0
  have hown : s.vm.findClass RL = some m.cls := hown
  have hA : ∀ q : Nat, s.heap.size ≤ q → (fun q : Nat => s.heap.size ≤ q) q := fun _ h => h
  have hbA : ¬ (fun q : Nat => s.heap.size ≤ q) b := Nat.not_le.mpr hbl
  refine lv_aload_n hx hb dL_law_243 rfl (lv_at hl 3 rfl) ?_
  refine lv_aload_n hx hb dL_law_244 rfl (lv_at hl 4 rfl) ?_
  refine lv_iload hx hb dL_law_245 (lv_at hl 0 rfl) ?_
  refine lv_iconst (v := nI 1) hx hb dL_law_247 (by decide +kernel) ?_
  refine lv_iadd hx hb dL_law_248 ?_
  refine zz_i (y := nI 2) (by decide +kernel) ?_
  refine va_sld hx hb hX hbl hbA hS (vp_in_nI (by decide) (by decide)) dL_law_249 ?_
  refine zz_i (y := xs 2) (congrArg xs (nI_clamp (by decide))) ?_
  refine lv_aload_n hx hb dL_law_250 rfl (lv_at hl 4 rfl) ?_
  refine lv_iload hx hb dL_law_251 (lv_at hl 0 rfl) ?_
  refine lv_iconst (v := nI 2) hx hb dL_law_253 (by decide +kernel) ?_
  refine lv_iadd hx hb dL_law_254 ?_
  refine zz_i (y := nI 3) (by decide +kernel) ?_
  refine va_sld hx hb hX hbl hbA hS (vp_in_nI (by decide) (by decide)) dL_law_255 ?_
  refine zz_i (y := xs 3) (congrArg xs (nI_clamp (by decide))) ?_
  refine lv_aload_n hx hb dL_law_256 rfl (lv_at hl 1 rfl) ?_
  have hPh := wl_P hP
  have hDh := wl_D hD
  refine va_calli (vx_runSW (As := [.ref (ad 0), .int (xs 2), .int (xs 3), .ref o]) (rest := []) ⟨hx, hb, hml, hown, hts⟩ (c_L_times l hnt dC dI ad g ck sa L pr hok o H.size (xs 2) (xs 3)) (vx_cwSW 4 hts (gT_app (gT_of (by decide +kernel)) (gT_c (by decide +kernel) gT_l)) rfl rfl rfl (by decide +kernel) ⟨Nat.le_of_ble_eq_true rfl, Nat.le_of_ble_eq_true rfl⟩) ⟨lh_blind, lh_of hPh hK hDh hS hA hX9 hN9⟩ rfl rfl hl.1 rfl (lv_room (Nat.le_of_ble_eq_true rfl)) dL_law_257 ⟨Nat.le_of_ble_eq_true rfl, Nat.le_of_ble_eq_true rfl⟩) hS (fun q _ h => cF hDh hS hA q h) (cF hDh hS hA) (fun k9 f9 t Ha locsa ht hvm hw hB hz hk hS => ?_)
  have hPo : va_P (dC, dI) vwCl [(o, .inl (ck 1, 1, .inr (.inl f9)))] Ha := by rw [← ht]; exact hB
  have hPm : va_P (dC, dI) vwCl (mW adm ckm Lm ln pr (nI 0) (nI 0)) Ha := wr_kept hP hD hk
  have hDm : va_D (fun q : Nat => s.heap.size ≤ q) (mW adm ckm Lm ln pr (nI 0) (nI 0)) := wr_D hD
  have hoM : ¬ va_A (mW adm ckm Lm ln pr (nI 0) (nI 0)) Ha.size o := o_no hP hD rfl hz
  refine W.widen (k := 296) (n := 17282) (by decide) (by decide) ?_
  clear ht hvm hz hk hB
  refine lv_istore (lv' := [(5, .int k9), (4, .int (nI 1)), (3, .ref o), (2, .ref (adm 0)), (1, .ref (ad 0)), (0, .ref b)]) hx hb dL_law_260 hl (by decide) rfl (fun ls hl => ?_)
  refine lv_aload_n hx hb dL_law_262 rfl (lv_at hl 3 rfl) ?_
  refine lv_aload_n hx hb dL_law_263 rfl (lv_at hl 5 rfl) ?_
  refine lv_iload hx hb dL_law_264 (lv_at hl 1 rfl) ?_
  refine lv_iconst (v := nI 1) hx hb dL_law_266 (by decide +kernel) ?_
  refine lv_iadd hx hb dL_law_267 ?_
  refine zz_i (y := nI 2) (by decide +kernel) ?_
  refine va_sld hx hb hX hbl hbA hS (vp_in_nI (by decide) (by decide)) dL_law_268 ?_
  refine zz_i (y := xs 2) (congrArg xs (nI_clamp (by decide))) ?_
  refine lv_aload_n hx hb dL_law_269 rfl (lv_at hl 5 rfl) ?_
  refine lv_iload hx hb dL_law_270 (lv_at hl 1 rfl) ?_
  refine lv_iconst (v := nI 2) hx hb dL_law_272 (by decide +kernel) ?_
  refine lv_iadd hx hb dL_law_273 ?_
  refine zz_i (y := nI 3) (by decide +kernel) ?_
  refine va_sld hx hb hX hbl hbA hS (vp_in_nI (by decide) (by decide)) dL_law_274 ?_
  refine zz_i (y := xs 3) (congrArg xs (nI_clamp (by decide))) ?_
  refine va_calli (va_runV (As := [.int (xs 2), .int (xs 3)]) (rest := []) ⟨hx, hb, hml, hown, hts⟩ (c_X5_times l dC dI adm ckm Lm ln pr hmok Ha.size (nI 0) (xs 2) (xs 3)) (cwV 2 hts (gT_app (gT_of (by decide +kernel)) (gT_c (by decide +kernel) gT_m)) rfl rfl rfl (by decide +kernel) ⟨Nat.le_of_ble_eq_true rfl, Nat.le_of_ble_eq_true rfl⟩) ⟨mP_blind, va_recv hKm hPm (ci := 6) (q0 := 0) rfl rfl, mP_of hPm hKm hDm⟩ rfl rfl hl.1 rfl (lv_room (Nat.le_of_ble_eq_true rfl)) dL_law_275 ⟨Nat.le_of_ble_eq_true rfl, Nat.le_of_ble_eq_true rfl⟩) hS (fun q _ h => cF hDm hS hA q h) (cF hDm hS hA) (fun b6 u t Hb locsb ht hvm hm hB hz hk hS => ?_)
  obtain ⟨th9, gv9⟩ := u
  have hPt : va_P (dC, dI) vwCl (mO adm pr th9 gv9) Hb := by rw [← ht]; exact hB
  have hPo := out_kept hPo hoM hk
  clear hk hz
  refine lv_istore (lv' := [(6, .int b6), (5, .int k9), (4, .int (nI 1)), (3, .ref o), (2, .ref (adm 0)), (1, .ref (ad 0)), (0, .ref b)]) hx hb dL_law_278 hl (by decide) rfl (fun ls hl => ?_)
  refine lv_aload_n hx hb dL_law_280 rfl (lv_at hl 4 rfl) ?_
  refine pc_i (va_runV (As := []) (rest := []) ⟨hx, hb, hml, hown, hts⟩ (c_X5_thrown l dC dI adm pr th9 gv9) (cwV 0 hts (gT_app (gT_of (by decide +kernel)) (gT_c (by decide +kernel) gT_m)) rfl rfl rfl (by decide +kernel) ⟨Nat.le_of_ble_eq_true rfl, Nat.le_of_ble_eq_true rfl⟩) ⟨fun a U g mk h => ⟨h.1, h.2.1, va_K.moved (u := U) (U := U.calling g mk a) (Vm.Alike.refl U.vm) h.2.2⟩, va_recv hKm hPt (ci := 6) (q0 := 0) rfl rfl, fun U hU hW => ⟨rfl, by rw [hU]; exact hPt, va_K.moved hW.alike (hKm.sub [] rfl)⟩⟩ rfl rfl hl.1 rfl (lv_room (Nat.le_of_ble_eq_true rfl)) dL_law_281 ⟨Nat.le_of_ble_eq_true rfl, Nat.le_of_ble_eq_true rfl⟩) hS (fun r75 Hc locsc hr75 hz hk hS => ?_)
  subst hr75
  have hPo := hPo.kept (fun k x hx => hk x.1 ((hPo k x hx).lt))
  have hEq : r75 = k9 ∧ (k9 = nI 0 → f9 0 = b6.toInt64) := by
    rcases hw with ⟨hk, r, ⟨h1, h2, h3⟩, h4⟩ | ⟨hk, h⟩ <;> rcases hm with ⟨ht, h5, h6⟩ | ⟨ht, h5⟩
    · exact ⟨ht.trans hk.symm, fun _ => by rw [h4, h3, h6]⟩
    · exact absurd ⟨h1, h2⟩ h5
    · exact absurd h5 h
    · exact ⟨ht.trans hk.symm, fun h0 => absurd (hk.symm.trans h0) (by decide +kernel)⟩
  refine lv_iload hx hb dL_law_284 (lv_at hl 1 rfl) ?_
  refine lv_icmp_eq (tgt := 291) hx hb dL_law_286 (by decide) (fun _ => ?_) (fun hcc => absurd (hEq.1) hcc)
  refine lv_iload hx hb dL_law_291 (lv_at hl 1 rfl) ?_
  refine lv_if_ne (tgt := 308) hx hb dL_law_293 (by decide) (fun hc293 => ?_) (fun hc293 => ?_)
  · refine lv_goto (tgt := 931) hx hb dL_law_308 (by decide) ?_
    exact law_end C0 (by decide) (by decide) hS (lv_sub hl [2, 6] rfl)
  · have hk0 : k9 = nI 0 := hc293.trans nI_0.symm
    refine lv_aload_n hx hb dL_law_296 rfl (lv_at hl 3 rfl) ?_
    refine lv_iconst (v := nI 0) hx hb dL_law_297 (by decide +kernel) ?_
    refine va_lald hx hb hK hPo 0 1 rfl rfl (vp_in_nI (by decide) (by decide)) dL_law_298 ?_
    refine zz_l (y := f9 0) (congrArg f9 (nI_clamp (by decide))) ?_
    refine lv_iload hx hb dL_law_299 (lv_at hl 0 rfl) ?_
    refine lv_i2l (v := b6.toInt64) hx hb dL_law_301 (rfl) ?_
    refine W.lcmp hx hb dL_law_302 ?_
    refine lv_if_eq (tgt := 308) hx hb dL_law_303 (by decide) (fun _ => ?_) (fun hcc => absurd ((lc_eq _ _).mpr (hEq.2 hk0)) hcc)
    refine lv_goto (tgt := 931) hx hb dL_law_308 (by decide) ?_
    exact law_end C0 (by decide) (by decide) hS (lv_sub hl [2, 6] rfl)

set_option maxHeartbeats 4000000 in
set_option maxRecDepth 100000 in
/-- the turn of over -/
theorem law_3 {p : Program} {l : Launch} {e : Env} {s : State} {m : MethodId} {below : List Frame} {meth : Method} {c : Code} {b : Nat} {xs : Nat → Int32} (hnt : l.stackTraces = false) (C0 : lw_At p s m meth c b 5 xs) {dC : Nat → ClassId} {dI : Nat → Nat → Nat} {ad : Nat → Nat} {g : Nat → Option Nat} {ck : Nat → ClassId} {sa : Nat → Nat} {L : List Nat} {pr : Nat} {adm : Nat → Nat} {ckm : Nat → ClassId} {Lm : List Nat} {ln : Nat → Nat} {o : Nat} (hok : cOk ad g L pr) (hmok : mOk adm Lm ln pr) (hK : va_K (dC, dI) vwCl (cT ck) s) (hKm : va_K (dC, dI) vwCl (mT ckm) s) (hX9 : cX sa (fun q : Nat => s.heap.size ≤ q) s s.heap) (hN9 : lNc s) {H : Heap} {locs : List Loc} (hP : va_P (dC, dI) vwCl ((((o, zL (ck 1) 1) :: cwX ad g ck pr (nI 0)) ++ va_pl L (fun _ => zI (ck 0))) ++ (mW adm ckm Lm ln pr (nI 0) (nI 0))) H) (hD : va_D (fun q : Nat => s.heap.size ≤ q) ((((o, zL (ck 1) 1) :: cwX ad g ck pr (nI 0)) ++ va_pl L (fun _ => zI (ck 0))) ++ (mW adm ckm Lm ln pr (nI 0) (nI 0)))) (hS : va_S (fun q : Nat => s.heap.size ≤ q) s.heap H locs) {ls : Array Slot} (hl : lv_has ls 7 [(4, .int (nI 1)), (3, .ref o), (2, .ref (adm 0)), (1, .ref (ad 0)), (0, .ref b)]) : W p l e room_1 s m #[Value.ref b] below meth c H locs 294 17270 (lw_Z below #[Value.ref b] s) (F0 m 311 ls []) := by
  obtain ⟨hx, hb, hr, hml, hown, hts, hX, hbl, hlocks, hgv⟩ := id C0
  have hown : s.vm.findClass RL = some m.cls := hown
  have hA : ∀ q : Nat, s.heap.size ≤ q → (fun q : Nat => s.heap.size ≤ q) q := fun _ h => h
  have hbA : ¬ (fun q : Nat => s.heap.size ≤ q) b := Nat.not_le.mpr hbl
  refine lv_aload_n hx hb dL_law_311 rfl (lv_at hl 3 rfl) ?_
  refine lv_aload_n hx hb dL_law_312 rfl (lv_at hl 4 rfl) ?_
  refine lv_iload hx hb dL_law_313 (lv_at hl 0 rfl) ?_
  refine lv_iconst (v := nI 1) hx hb dL_law_315 (by decide +kernel) ?_
  refine lv_iadd hx hb dL_law_316 ?_
  refine zz_i (y := nI 2) (by decide +kernel) ?_
  refine va_sld hx hb hX hbl hbA hS (vp_in_nI (by decide) (by decide)) dL_law_317 ?_
  refine zz_i (y := xs 2) (congrArg xs (nI_clamp (by decide))) ?_
  refine lv_aload_n hx hb dL_law_318 rfl (lv_at hl 4 rfl) ?_
  refine lv_iload hx hb dL_law_319 (lv_at hl 0 rfl) ?_
  refine lv_iconst (v := nI 2) hx hb dL_law_321 (by decide +kernel) ?_
  refine lv_iadd hx hb dL_law_322 ?_
  refine zz_i (y := nI 3) (by decide +kernel) ?_
  refine va_sld hx hb hX hbl hbA hS (vp_in_nI (by decide) (by decide)) dL_law_323 ?_
  refine zz_i (y := xs 3) (congrArg xs (nI_clamp (by decide))) ?_
  refine lv_aload_n hx hb dL_law_324 rfl (lv_at hl 4 rfl) ?_
  refine lv_iload hx hb dL_law_325 (lv_at hl 0 rfl) ?_
  refine lv_iconst (v := nI 3) hx hb dL_law_327 (by decide +kernel) ?_
  refine lv_iadd hx hb dL_law_328 ?_
  refine zz_i (y := nI 4) (by decide +kernel) ?_
  refine va_sld hx hb hX hbl hbA hS (vp_in_nI (by decide) (by decide)) dL_law_329 ?_
  refine zz_i (y := xs 4) (congrArg xs (nI_clamp (by decide))) ?_
  refine lv_aload_n hx hb dL_law_330 rfl (lv_at hl 1 rfl) ?_
  have hPh := wl_P hP
  have hDh := wl_D hD
  refine va_calli (vx_runSW (As := [.ref (ad 0), .int (xs 2), .int (xs 3), .int (xs 4), .ref o]) (rest := []) ⟨hx, hb, hml, hown, hts⟩ (c_L_over l hnt dC dI ad g ck sa L pr hok o H.size (xs 2) (xs 3) (xs 4)) (vx_cwSW 5 hts (gT_app (gT_of (by decide +kernel)) (gT_c (by decide +kernel) gT_l)) rfl rfl rfl (by decide +kernel) ⟨Nat.le_of_ble_eq_true rfl, Nat.le_of_ble_eq_true rfl⟩) ⟨lh_blind, lh_of hPh hK hDh hS hA hX9 hN9⟩ rfl rfl hl.1 rfl (lv_room (Nat.le_of_ble_eq_true rfl)) dL_law_331 ⟨Nat.le_of_ble_eq_true rfl, Nat.le_of_ble_eq_true rfl⟩) hS (fun q _ h => cF hDh hS hA q h) (cF hDh hS hA) (fun k9 f9 t Ha locsa ht hvm hw hB hz hk hS => ?_)
  have hPo : va_P (dC, dI) vwCl [(o, .inl (ck 1, 1, .inr (.inl f9)))] Ha := by rw [← ht]; exact hB
  have hPm : va_P (dC, dI) vwCl (mW adm ckm Lm ln pr (nI 0) (nI 0)) Ha := wr_kept hP hD hk
  have hDm : va_D (fun q : Nat => s.heap.size ≤ q) (mW adm ckm Lm ln pr (nI 0) (nI 0)) := wr_D hD
  have hoM : ¬ va_A (mW adm ckm Lm ln pr (nI 0) (nI 0)) Ha.size o := o_no hP hD rfl hz
  refine W.widen (k := 297) (n := 17288) (by decide) (by decide) ?_
  clear ht hvm hz hk hB
  refine lv_istore (lv' := [(5, .int k9), (4, .int (nI 1)), (3, .ref o), (2, .ref (adm 0)), (1, .ref (ad 0)), (0, .ref b)]) hx hb dL_law_334 hl (by decide) rfl (fun ls hl => ?_)
  refine lv_aload_n hx hb dL_law_336 rfl (lv_at hl 3 rfl) ?_
  refine lv_aload_n hx hb dL_law_337 rfl (lv_at hl 5 rfl) ?_
  refine lv_iload hx hb dL_law_338 (lv_at hl 1 rfl) ?_
  refine lv_iconst (v := nI 1) hx hb dL_law_340 (by decide +kernel) ?_
  refine lv_iadd hx hb dL_law_341 ?_
  refine zz_i (y := nI 2) (by decide +kernel) ?_
  refine va_sld hx hb hX hbl hbA hS (vp_in_nI (by decide) (by decide)) dL_law_342 ?_
  refine zz_i (y := xs 2) (congrArg xs (nI_clamp (by decide))) ?_
  refine lv_aload_n hx hb dL_law_343 rfl (lv_at hl 5 rfl) ?_
  refine lv_iload hx hb dL_law_344 (lv_at hl 1 rfl) ?_
  refine lv_iconst (v := nI 2) hx hb dL_law_346 (by decide +kernel) ?_
  refine lv_iadd hx hb dL_law_347 ?_
  refine zz_i (y := nI 3) (by decide +kernel) ?_
  refine va_sld hx hb hX hbl hbA hS (vp_in_nI (by decide) (by decide)) dL_law_348 ?_
  refine zz_i (y := xs 3) (congrArg xs (nI_clamp (by decide))) ?_
  refine lv_aload_n hx hb dL_law_349 rfl (lv_at hl 5 rfl) ?_
  refine lv_iload hx hb dL_law_350 (lv_at hl 1 rfl) ?_
  refine lv_iconst (v := nI 3) hx hb dL_law_352 (by decide +kernel) ?_
  refine lv_iadd hx hb dL_law_353 ?_
  refine zz_i (y := nI 4) (by decide +kernel) ?_
  refine va_sld hx hb hX hbl hbA hS (vp_in_nI (by decide) (by decide)) dL_law_354 ?_
  refine zz_i (y := xs 4) (congrArg xs (nI_clamp (by decide))) ?_
  refine va_calli (va_runV (As := [.int (xs 2), .int (xs 3), .int (xs 4)]) (rest := []) ⟨hx, hb, hml, hown, hts⟩ (c_X5_over l dC dI adm ckm Lm ln pr hmok Ha.size (nI 0) (xs 2) (xs 3) (xs 4)) (cwV 3 hts (gT_app (gT_of (by decide +kernel)) (gT_c (by decide +kernel) gT_m)) rfl rfl rfl (by decide +kernel) ⟨Nat.le_of_ble_eq_true rfl, Nat.le_of_ble_eq_true rfl⟩) ⟨mP_blind, va_recv hKm hPm (ci := 6) (q0 := 0) rfl rfl, mP_of hPm hKm hDm⟩ rfl rfl hl.1 rfl (lv_room (Nat.le_of_ble_eq_true rfl)) dL_law_355 ⟨Nat.le_of_ble_eq_true rfl, Nat.le_of_ble_eq_true rfl⟩) hS (fun q _ h => cF hDm hS hA q h) (cF hDm hS hA) (fun b6 u t Hb locsb ht hvm hm hB hz hk hS => ?_)
  obtain ⟨th9, gv9⟩ := u
  have hPt : va_P (dC, dI) vwCl (mO adm pr th9 gv9) Hb := by rw [← ht]; exact hB
  have hPo := out_kept hPo hoM hk
  clear hk hz
  refine lv_istore (lv' := [(6, .int b6), (5, .int k9), (4, .int (nI 1)), (3, .ref o), (2, .ref (adm 0)), (1, .ref (ad 0)), (0, .ref b)]) hx hb dL_law_358 hl (by decide) rfl (fun ls hl => ?_)
  refine lv_aload_n hx hb dL_law_360 rfl (lv_at hl 4 rfl) ?_
  refine pc_i (va_runV (As := []) (rest := []) ⟨hx, hb, hml, hown, hts⟩ (c_X5_thrown l dC dI adm pr th9 gv9) (cwV 0 hts (gT_app (gT_of (by decide +kernel)) (gT_c (by decide +kernel) gT_m)) rfl rfl rfl (by decide +kernel) ⟨Nat.le_of_ble_eq_true rfl, Nat.le_of_ble_eq_true rfl⟩) ⟨fun a U g mk h => ⟨h.1, h.2.1, va_K.moved (u := U) (U := U.calling g mk a) (Vm.Alike.refl U.vm) h.2.2⟩, va_recv hKm hPt (ci := 6) (q0 := 0) rfl rfl, fun U hU hW => ⟨rfl, by rw [hU]; exact hPt, va_K.moved hW.alike (hKm.sub [] rfl)⟩⟩ rfl rfl hl.1 rfl (lv_room (Nat.le_of_ble_eq_true rfl)) dL_law_361 ⟨Nat.le_of_ble_eq_true rfl, Nat.le_of_ble_eq_true rfl⟩) hS (fun r75 Hc locsc hr75 hz hk hS => ?_)
  subst hr75
  have hPo := hPo.kept (fun k x hx => hk x.1 ((hPo k x hx).lt))
  have hEq : r75 = k9 ∧ (k9 = nI 0 → f9 0 = b6.toInt64) := by
    rcases hw with ⟨-, r, h, -⟩ | ⟨hk, h⟩ | ⟨hk, h, hw2⟩ | ⟨hk, h, hw2⟩
    · exact h.elim
    · rcases hm with ⟨ht, h5⟩ | ⟨ht, h5, h6⟩ | ⟨ht, h5, h6⟩
      · exact ⟨ht.trans hk.symm, fun h0 => absurd (hk.symm.trans h0) (by decide +kernel)⟩
      · exact absurd h5 h
      · exact absurd h5 h
    · rcases hm with ⟨ht, h5⟩ | ⟨ht, h5, h6⟩ | ⟨ht, h5, h6⟩
      · exact absurd h h5
      · exact ⟨ht.trans hk.symm, fun h0 => absurd (hk.symm.trans h0) (by decide +kernel)⟩
      · exact absurd h6 hw2
    · rcases hm with ⟨ht, h5⟩ | ⟨ht, h5, h6⟩ | ⟨ht, h5, h6⟩
      · exact absurd h h5
      · exact absurd hw2 h6
      · exact ⟨ht.trans hk.symm, fun h0 => absurd (hk.symm.trans h0) (by decide +kernel)⟩
  refine lv_iload hx hb dL_law_364 (lv_at hl 1 rfl) ?_
  refine lv_icmp_eq (tgt := 371) hx hb dL_law_366 (by decide) (fun _ => ?_) (fun hcc => absurd (hEq.1) hcc)
  refine lv_iload hx hb dL_law_371 (lv_at hl 1 rfl) ?_
  refine lv_if_ne (tgt := 388) hx hb dL_law_373 (by decide) (fun hc373 => ?_) (fun hc373 => ?_)
  · refine lv_goto (tgt := 931) hx hb dL_law_388 (by decide) ?_
    exact law_end C0 (by decide) (by decide) hS (lv_sub hl [2, 6] rfl)
  · have hk0 : k9 = nI 0 := hc373.trans nI_0.symm
    refine lv_aload_n hx hb dL_law_376 rfl (lv_at hl 3 rfl) ?_
    refine lv_iconst (v := nI 0) hx hb dL_law_377 (by decide +kernel) ?_
    refine va_lald hx hb hK hPo 0 1 rfl rfl (vp_in_nI (by decide) (by decide)) dL_law_378 ?_
    refine zz_l (y := f9 0) (congrArg f9 (nI_clamp (by decide))) ?_
    refine lv_iload hx hb dL_law_379 (lv_at hl 0 rfl) ?_
    refine lv_i2l (v := b6.toInt64) hx hb dL_law_381 (rfl) ?_
    refine W.lcmp hx hb dL_law_382 ?_
    refine lv_if_eq (tgt := 388) hx hb dL_law_383 (by decide) (fun _ => ?_) (fun hcc => absurd ((lc_eq _ _).mpr (hEq.2 hk0)) hcc)
    refine lv_goto (tgt := 931) hx hb dL_law_388 (by decide) ?_
    exact law_end C0 (by decide) (by decide) hS (lv_sub hl [2, 6] rfl)

set_option maxHeartbeats 4000000 in
set_option maxRecDepth 100000 in
/-- the turn of gcd -/
theorem law_4 {p : Program} {l : Launch} {e : Env} {s : State} {m : MethodId} {below : List Frame} {meth : Method} {c : Code} {b : Nat} {xs : Nat → Int32} (hnt : l.stackTraces = false) (C0 : lw_At p s m meth c b 5 xs) {dC : Nat → ClassId} {dI : Nat → Nat → Nat} {ad : Nat → Nat} {g : Nat → Option Nat} {ck : Nat → ClassId} {sa : Nat → Nat} {L : List Nat} {pr : Nat} {adm : Nat → Nat} {ckm : Nat → ClassId} {Lm : List Nat} {ln : Nat → Nat} {o : Nat} (hok : cOk ad g L pr) (hmok : mOk adm Lm ln pr) (hK : va_K (dC, dI) vwCl (cT ck) s) (hKm : va_K (dC, dI) vwCl (mT ckm) s) (hX9 : cX sa (fun q : Nat => s.heap.size ≤ q) s s.heap) (hN9 : lNc s) {H : Heap} {locs : List Loc} (hP : va_P (dC, dI) vwCl ((((o, zL (ck 1) 1) :: cwX ad g ck pr (nI 0)) ++ va_pl L (fun _ => zI (ck 0))) ++ (mW adm ckm Lm ln pr (nI 0) (nI 0))) H) (hD : va_D (fun q : Nat => s.heap.size ≤ q) ((((o, zL (ck 1) 1) :: cwX ad g ck pr (nI 0)) ++ va_pl L (fun _ => zI (ck 0))) ++ (mW adm ckm Lm ln pr (nI 0) (nI 0)))) (hS : va_S (fun q : Nat => s.heap.size ≤ q) s.heap H locs) {ls : Array Slot} (hl : lv_has ls 7 [(4, .int (nI 1)), (3, .ref o), (2, .ref (adm 0)), (1, .ref (ad 0)), (0, .ref b)]) : W p l e room_1 s m #[Value.ref b] below meth c H locs 294 17270 (lw_Z below #[Value.ref b] s) (F0 m 391 ls []) := by
  obtain ⟨hx, hb, hr, hml, hown, hts, hX, hbl, hlocks, hgv⟩ := id C0
  have hown : s.vm.findClass RL = some m.cls := hown
  have hA : ∀ q : Nat, s.heap.size ≤ q → (fun q : Nat => s.heap.size ≤ q) q := fun _ h => h
  have hbA : ¬ (fun q : Nat => s.heap.size ≤ q) b := Nat.not_le.mpr hbl
  refine lv_aload_n hx hb dL_law_391 rfl (lv_at hl 3 rfl) ?_
  refine lv_aload_n hx hb dL_law_392 rfl (lv_at hl 4 rfl) ?_
  refine lv_iload hx hb dL_law_393 (lv_at hl 0 rfl) ?_
  refine lv_iconst (v := nI 1) hx hb dL_law_395 (by decide +kernel) ?_
  refine lv_iadd hx hb dL_law_396 ?_
  refine zz_i (y := nI 2) (by decide +kernel) ?_
  refine va_sld hx hb hX hbl hbA hS (vp_in_nI (by decide) (by decide)) dL_law_397 ?_
  refine zz_i (y := xs 2) (congrArg xs (nI_clamp (by decide))) ?_
  refine lv_aload_n hx hb dL_law_398 rfl (lv_at hl 4 rfl) ?_
  refine lv_iload hx hb dL_law_399 (lv_at hl 0 rfl) ?_
  refine lv_iconst (v := nI 2) hx hb dL_law_401 (by decide +kernel) ?_
  refine lv_iadd hx hb dL_law_402 ?_
  refine zz_i (y := nI 3) (by decide +kernel) ?_
  refine va_sld hx hb hX hbl hbA hS (vp_in_nI (by decide) (by decide)) dL_law_403 ?_
  refine zz_i (y := xs 3) (congrArg xs (nI_clamp (by decide))) ?_
  refine lv_aload_n hx hb dL_law_404 rfl (lv_at hl 1 rfl) ?_
  have hPh := wl_P hP
  have hDh := wl_D hD
  refine va_calli (vx_runSW (As := [.ref (ad 0), .int (xs 2), .int (xs 3), .ref o]) (rest := []) ⟨hx, hb, hml, hown, hts⟩ (c_L_gcd l hnt dC dI ad g ck sa L pr hok o H.size (xs 2) (xs 3)) (vx_cwSW 4 hts (gT_app (gT_of (by decide +kernel)) (gT_c (by decide +kernel) gT_l)) rfl rfl rfl (by decide +kernel) ⟨Nat.le_of_ble_eq_true rfl, Nat.le_of_ble_eq_true rfl⟩) ⟨lh_blind, lh_of hPh hK hDh hS hA hX9 hN9⟩ rfl rfl hl.1 rfl (lv_room (Nat.le_of_ble_eq_true rfl)) dL_law_405 ⟨Nat.le_of_ble_eq_true rfl, Nat.le_of_ble_eq_true rfl⟩) hS (fun q _ h => cF hDh hS hA q h) (cF hDh hS hA) (fun k9 f9 t Ha locsa ht hvm hw hB hz hk hS => ?_)
  have hPo : va_P (dC, dI) vwCl [(o, .inl (ck 1, 1, .inr (.inl f9)))] Ha := by rw [← ht]; exact hB
  have hPm : va_P (dC, dI) vwCl (mW adm ckm Lm ln pr (nI 0) (nI 0)) Ha := wr_kept hP hD hk
  have hDm : va_D (fun q : Nat => s.heap.size ≤ q) (mW adm ckm Lm ln pr (nI 0) (nI 0)) := wr_D hD
  have hoM : ¬ va_A (mW adm ckm Lm ln pr (nI 0) (nI 0)) Ha.size o := o_no hP hD rfl hz
  refine W.widen (k := 296) (n := 17282) (by decide) (by decide) ?_
  clear ht hvm hz hk hB
  refine lv_istore (lv' := [(5, .int k9), (4, .int (nI 1)), (3, .ref o), (2, .ref (adm 0)), (1, .ref (ad 0)), (0, .ref b)]) hx hb dL_law_408 hl (by decide) rfl (fun ls hl => ?_)
  refine lv_aload_n hx hb dL_law_410 rfl (lv_at hl 3 rfl) ?_
  refine lv_aload_n hx hb dL_law_411 rfl (lv_at hl 5 rfl) ?_
  refine lv_iload hx hb dL_law_412 (lv_at hl 1 rfl) ?_
  refine lv_iconst (v := nI 1) hx hb dL_law_414 (by decide +kernel) ?_
  refine lv_iadd hx hb dL_law_415 ?_
  refine zz_i (y := nI 2) (by decide +kernel) ?_
  refine va_sld hx hb hX hbl hbA hS (vp_in_nI (by decide) (by decide)) dL_law_416 ?_
  refine zz_i (y := xs 2) (congrArg xs (nI_clamp (by decide))) ?_
  refine lv_aload_n hx hb dL_law_417 rfl (lv_at hl 5 rfl) ?_
  refine lv_iload hx hb dL_law_418 (lv_at hl 1 rfl) ?_
  refine lv_iconst (v := nI 2) hx hb dL_law_420 (by decide +kernel) ?_
  refine lv_iadd hx hb dL_law_421 ?_
  refine zz_i (y := nI 3) (by decide +kernel) ?_
  refine va_sld hx hb hX hbl hbA hS (vp_in_nI (by decide) (by decide)) dL_law_422 ?_
  refine zz_i (y := xs 3) (congrArg xs (nI_clamp (by decide))) ?_
  refine va_calli (va_runV (As := [.int (xs 2), .int (xs 3)]) (rest := []) ⟨hx, hb, hml, hown, hts⟩ (c_X5_gcd l dC dI adm ckm Lm ln pr hmok Ha.size (nI 0) (xs 2) (xs 3)) (cwV 2 hts (gT_app (gT_of (by decide +kernel)) (gT_c (by decide +kernel) gT_m)) rfl rfl rfl (by decide +kernel) ⟨Nat.le_of_ble_eq_true rfl, Nat.le_of_ble_eq_true rfl⟩) ⟨mP_blind, va_recv hKm hPm (ci := 6) (q0 := 0) rfl rfl, mP_of hPm hKm hDm⟩ rfl rfl hl.1 rfl (lv_room (Nat.le_of_ble_eq_true rfl)) dL_law_423 ⟨Nat.le_of_ble_eq_true rfl, Nat.le_of_ble_eq_true rfl⟩) hS (fun q _ h => cF hDm hS hA q h) (cF hDm hS hA) (fun b6 u t Hb locsb ht hvm hm hB hz hk hS => ?_)
  obtain ⟨th9, gv9⟩ := u
  have hPt : va_P (dC, dI) vwCl (mO adm pr th9 gv9) Hb := by rw [← ht]; exact hB
  have hPo := out_kept hPo hoM hk
  clear hk hz
  refine lv_istore (lv' := [(6, .int b6), (5, .int k9), (4, .int (nI 1)), (3, .ref o), (2, .ref (adm 0)), (1, .ref (ad 0)), (0, .ref b)]) hx hb dL_law_426 hl (by decide) rfl (fun ls hl => ?_)
  refine lv_aload_n hx hb dL_law_428 rfl (lv_at hl 4 rfl) ?_
  refine pc_i (va_runV (As := []) (rest := []) ⟨hx, hb, hml, hown, hts⟩ (c_X5_thrown l dC dI adm pr th9 gv9) (cwV 0 hts (gT_app (gT_of (by decide +kernel)) (gT_c (by decide +kernel) gT_m)) rfl rfl rfl (by decide +kernel) ⟨Nat.le_of_ble_eq_true rfl, Nat.le_of_ble_eq_true rfl⟩) ⟨fun a U g mk h => ⟨h.1, h.2.1, va_K.moved (u := U) (U := U.calling g mk a) (Vm.Alike.refl U.vm) h.2.2⟩, va_recv hKm hPt (ci := 6) (q0 := 0) rfl rfl, fun U hU hW => ⟨rfl, by rw [hU]; exact hPt, va_K.moved hW.alike (hKm.sub [] rfl)⟩⟩ rfl rfl hl.1 rfl (lv_room (Nat.le_of_ble_eq_true rfl)) dL_law_429 ⟨Nat.le_of_ble_eq_true rfl, Nat.le_of_ble_eq_true rfl⟩) hS (fun r75 Hc locsc hr75 hz hk hS => ?_)
  subst hr75
  have hPo := hPo.kept (fun k x hx => hk x.1 ((hPo k x hx).lt))
  have hEq : r75 = k9 ∧ (k9 = nI 0 → f9 0 = b6.toInt64) := by
    rcases hw with ⟨hk, r, ⟨h1, h2, h3⟩, h4⟩ | ⟨hk, h⟩ <;> rcases hm with ⟨ht, h5, h6⟩ | ⟨ht, h5⟩
    · exact ⟨ht.trans hk.symm, fun _ => by rw [h4, h3, h6]⟩
    · exact absurd ⟨h1, h2⟩ h5
    · exact absurd h5 h
    · exact ⟨ht.trans hk.symm, fun h0 => absurd (hk.symm.trans h0) (by decide +kernel)⟩
  refine lv_iload hx hb dL_law_432 (lv_at hl 1 rfl) ?_
  refine lv_icmp_eq (tgt := 439) hx hb dL_law_434 (by decide) (fun _ => ?_) (fun hcc => absurd (hEq.1) hcc)
  refine lv_iload hx hb dL_law_439 (lv_at hl 1 rfl) ?_
  refine lv_if_ne (tgt := 456) hx hb dL_law_441 (by decide) (fun hc441 => ?_) (fun hc441 => ?_)
  · refine lv_goto (tgt := 931) hx hb dL_law_456 (by decide) ?_
    exact law_end C0 (by decide) (by decide) hS (lv_sub hl [2, 6] rfl)
  · have hk0 : k9 = nI 0 := hc441.trans nI_0.symm
    refine lv_aload_n hx hb dL_law_444 rfl (lv_at hl 3 rfl) ?_
    refine lv_iconst (v := nI 0) hx hb dL_law_445 (by decide +kernel) ?_
    refine va_lald hx hb hK hPo 0 1 rfl rfl (vp_in_nI (by decide) (by decide)) dL_law_446 ?_
    refine zz_l (y := f9 0) (congrArg f9 (nI_clamp (by decide))) ?_
    refine lv_iload hx hb dL_law_447 (lv_at hl 0 rfl) ?_
    refine lv_i2l (v := b6.toInt64) hx hb dL_law_449 (rfl) ?_
    refine W.lcmp hx hb dL_law_450 ?_
    refine lv_if_eq (tgt := 456) hx hb dL_law_451 (by decide) (fun _ => ?_) (fun hcc => absurd ((lc_eq _ _).mpr (hEq.2 hk0)) hcc)
    refine lv_goto (tgt := 931) hx hb dL_law_456 (by decide) ?_
    exact law_end C0 (by decide) (by decide) hS (lv_sub hl [2, 6] rfl)

set_option maxHeartbeats 4000000 in
set_option maxRecDepth 100000 in
/-- the turn of factor -/
theorem law_5 {p : Program} {l : Launch} {e : Env} {s : State} {m : MethodId} {below : List Frame} {meth : Method} {c : Code} {b : Nat} {xs : Nat → Int32} (hnt : l.stackTraces = false) (C0 : lw_At p s m meth c b 5 xs) {dC : Nat → ClassId} {dI : Nat → Nat → Nat} {ad : Nat → Nat} {g : Nat → Option Nat} {ck : Nat → ClassId} {sa : Nat → Nat} {L : List Nat} {pr : Nat} {adm : Nat → Nat} {ckm : Nat → ClassId} {Lm : List Nat} {ln : Nat → Nat} {o : Nat} (hok : cOk ad g L pr) (hmok : mOk adm Lm ln pr) (hK : va_K (dC, dI) vwCl (cT ck) s) (hKm : va_K (dC, dI) vwCl (mT ckm) s) (hX9 : cX sa (fun q : Nat => s.heap.size ≤ q) s s.heap) (hN9 : lNc s) {H : Heap} {locs : List Loc} (hP : va_P (dC, dI) vwCl ((((o, zL (ck 1) 1) :: cwX ad g ck pr (nI 0)) ++ va_pl L (fun _ => zI (ck 0))) ++ (mW adm ckm Lm ln pr (nI 0) (nI 0))) H) (hD : va_D (fun q : Nat => s.heap.size ≤ q) ((((o, zL (ck 1) 1) :: cwX ad g ck pr (nI 0)) ++ va_pl L (fun _ => zI (ck 0))) ++ (mW adm ckm Lm ln pr (nI 0) (nI 0)))) (hS : va_S (fun q : Nat => s.heap.size ≤ q) s.heap H locs) {ls : Array Slot} (hl : lv_has ls 7 [(4, .int (nI 1)), (3, .ref o), (2, .ref (adm 0)), (1, .ref (ad 0)), (0, .ref b)]) : W p l e room_1 s m #[Value.ref b] below meth c H locs 294 17270 (lw_Z below #[Value.ref b] s) (F0 m 459 ls []) := by
  obtain ⟨hx, hb, hr, hml, hown, hts, hX, hbl, hlocks, hgv⟩ := id C0
  have hown : s.vm.findClass RL = some m.cls := hown
  have hA : ∀ q : Nat, s.heap.size ≤ q → (fun q : Nat => s.heap.size ≤ q) q := fun _ h => h
  have hbA : ¬ (fun q : Nat => s.heap.size ≤ q) b := Nat.not_le.mpr hbl
  refine lv_aload_n hx hb dL_law_459 rfl (lv_at hl 3 rfl) ?_
  refine lv_aload_n hx hb dL_law_460 rfl (lv_at hl 4 rfl) ?_
  refine lv_iload hx hb dL_law_461 (lv_at hl 0 rfl) ?_
  refine lv_iconst (v := nI 1) hx hb dL_law_463 (by decide +kernel) ?_
  refine lv_iadd hx hb dL_law_464 ?_
  refine zz_i (y := nI 2) (by decide +kernel) ?_
  refine va_sld hx hb hX hbl hbA hS (vp_in_nI (by decide) (by decide)) dL_law_465 ?_
  refine zz_i (y := xs 2) (congrArg xs (nI_clamp (by decide))) ?_
  refine lv_aload_n hx hb dL_law_466 rfl (lv_at hl 4 rfl) ?_
  refine lv_iload hx hb dL_law_467 (lv_at hl 0 rfl) ?_
  refine lv_iconst (v := nI 2) hx hb dL_law_469 (by decide +kernel) ?_
  refine lv_iadd hx hb dL_law_470 ?_
  refine zz_i (y := nI 3) (by decide +kernel) ?_
  refine va_sld hx hb hX hbl hbA hS (vp_in_nI (by decide) (by decide)) dL_law_471 ?_
  refine zz_i (y := xs 3) (congrArg xs (nI_clamp (by decide))) ?_
  refine lv_i2l (v := (xs 3).toInt64) hx hb dL_law_472 (rfl) ?_
  refine lv_bipush (v := nI 32) hx hb dL_law_473 (by decide +kernel) ?_
  refine lv_lshl (v := ((xs 3).toInt64) <<< ((nI 32).toInt64 &&& 63)) hx hb dL_law_475 rfl ?_
  refine lv_aload_n hx hb dL_law_476 rfl (lv_at hl 4 rfl) ?_
  refine lv_iload hx hb dL_law_477 (lv_at hl 0 rfl) ?_
  refine lv_iconst (v := nI 3) hx hb dL_law_479 (by decide +kernel) ?_
  refine lv_iadd hx hb dL_law_480 ?_
  refine zz_i (y := nI 4) (by decide +kernel) ?_
  refine va_sld hx hb hX hbl hbA hS (vp_in_nI (by decide) (by decide)) dL_law_481 ?_
  refine zz_i (y := xs 4) (congrArg xs (nI_clamp (by decide))) ?_
  refine lv_i2l (v := (xs 4).toInt64) hx hb dL_law_482 (rfl) ?_
  refine lv_ldc2 (v := 4294967295) hx hb hown (hts (.constantLong RL 92 4294967295) (by decide +kernel)) dL_law_483 ?_
  refine lv_land hx hb dL_law_486 ?_
  refine lv_lor hx hb dL_law_487 ?_
  refine lv_aload_n hx hb dL_law_488 rfl (lv_at hl 1 rfl) ?_
  have hPh := wl_P hP
  have hDh := wl_D hD
  refine va_calli (vx_runSW (As := [.ref (ad 0), .int (xs 2), .long ((((xs 3).toInt64) <<< ((nI 32).toInt64 &&& 63)) ||| (((xs 4).toInt64) &&& 4294967295)), .ref o]) (rest := []) ⟨hx, hb, hml, hown, hts⟩ (c_L_factor l hnt dC dI ad g ck sa L pr hok o H.size (xs 2) ((xs 3).toInt64 <<< ((nI 32).toInt64 &&& 63) ||| ((xs 4).toInt64 &&& 4294967295))) (vx_cwSW 4 hts (gT_app (gT_of (by decide +kernel)) (gT_c (by decide +kernel) gT_l)) rfl rfl rfl (by decide +kernel) ⟨Nat.le_of_ble_eq_true rfl, Nat.le_of_ble_eq_true rfl⟩) ⟨lh_blind, lh_of hPh hK hDh hS hA hX9 hN9⟩ rfl rfl hl.1 rfl (lv_room (Nat.le_of_ble_eq_true rfl)) dL_law_489 ⟨Nat.le_of_ble_eq_true rfl, Nat.le_of_ble_eq_true rfl⟩) hS (fun q _ h => cF hDh hS hA q h) (cF hDh hS hA) (fun k9 f9 t Ha locsa ht hvm hw hB hz hk hS => ?_)
  have hPo : va_P (dC, dI) vwCl [(o, .inl (ck 1, 1, .inr (.inl f9)))] Ha := by rw [← ht]; exact hB
  have hPm : va_P (dC, dI) vwCl (mW adm ckm Lm ln pr (nI 0) (nI 0)) Ha := wr_kept hP hD hk
  have hDm : va_D (fun q : Nat => s.heap.size ≤ q) (mW adm ckm Lm ln pr (nI 0) (nI 0)) := wr_D hD
  have hoM : ¬ va_A (mW adm ckm Lm ln pr (nI 0) (nI 0)) Ha.size o := o_no hP hD rfl hz
  refine W.widen (k := 295) (n := 17276) (by decide) (by decide) ?_
  clear ht hvm hz hk hB
  refine lv_istore (lv' := [(5, .int k9), (4, .int (nI 1)), (3, .ref o), (2, .ref (adm 0)), (1, .ref (ad 0)), (0, .ref b)]) hx hb dL_law_492 hl (by decide) rfl (fun ls hl => ?_)
  refine lv_aload_n hx hb dL_law_494 rfl (lv_at hl 3 rfl) ?_
  refine lv_aload_n hx hb dL_law_495 rfl (lv_at hl 5 rfl) ?_
  refine lv_iload hx hb dL_law_496 (lv_at hl 1 rfl) ?_
  refine lv_iconst (v := nI 1) hx hb dL_law_498 (by decide +kernel) ?_
  refine lv_iadd hx hb dL_law_499 ?_
  refine zz_i (y := nI 2) (by decide +kernel) ?_
  refine va_sld hx hb hX hbl hbA hS (vp_in_nI (by decide) (by decide)) dL_law_500 ?_
  refine zz_i (y := xs 2) (congrArg xs (nI_clamp (by decide))) ?_
  refine lv_aload_n hx hb dL_law_501 rfl (lv_at hl 5 rfl) ?_
  refine lv_iload hx hb dL_law_502 (lv_at hl 1 rfl) ?_
  refine lv_iconst (v := nI 2) hx hb dL_law_504 (by decide +kernel) ?_
  refine lv_iadd hx hb dL_law_505 ?_
  refine zz_i (y := nI 3) (by decide +kernel) ?_
  refine va_sld hx hb hX hbl hbA hS (vp_in_nI (by decide) (by decide)) dL_law_506 ?_
  refine zz_i (y := xs 3) (congrArg xs (nI_clamp (by decide))) ?_
  refine lv_i2l (v := (xs 3).toInt64) hx hb dL_law_507 (rfl) ?_
  refine lv_bipush (v := nI 32) hx hb dL_law_508 (by decide +kernel) ?_
  refine lv_lshl (v := ((xs 3).toInt64) <<< ((nI 32).toInt64 &&& 63)) hx hb dL_law_510 rfl ?_
  refine lv_aload_n hx hb dL_law_511 rfl (lv_at hl 5 rfl) ?_
  refine lv_iload hx hb dL_law_512 (lv_at hl 1 rfl) ?_
  refine lv_iconst (v := nI 3) hx hb dL_law_514 (by decide +kernel) ?_
  refine lv_iadd hx hb dL_law_515 ?_
  refine zz_i (y := nI 4) (by decide +kernel) ?_
  refine va_sld hx hb hX hbl hbA hS (vp_in_nI (by decide) (by decide)) dL_law_516 ?_
  refine zz_i (y := xs 4) (congrArg xs (nI_clamp (by decide))) ?_
  refine lv_i2l (v := (xs 4).toInt64) hx hb dL_law_517 (rfl) ?_
  refine lv_ldc2 (v := 4294967295) hx hb hown (hts (.constantLong RL 92 4294967295) (by decide +kernel)) dL_law_518 ?_
  refine lv_land hx hb dL_law_521 ?_
  refine lv_lor hx hb dL_law_522 ?_
  refine va_calli (va_runV (As := [.int (xs 2), .long ((((xs 3).toInt64) <<< ((nI 32).toInt64 &&& 63)) ||| (((xs 4).toInt64) &&& 4294967295))]) (rest := []) ⟨hx, hb, hml, hown, hts⟩ (c_X5_factor l dC dI adm ckm Lm ln pr hmok Ha.size (nI 0) (xs 2) ((xs 3).toInt64 <<< ((nI 32).toInt64 &&& 63) ||| ((xs 4).toInt64 &&& 4294967295))) (cwV 2 hts (gT_app (gT_of (by decide +kernel)) (gT_c (by decide +kernel) gT_m)) rfl rfl rfl (by decide +kernel) ⟨Nat.le_of_ble_eq_true rfl, Nat.le_of_ble_eq_true rfl⟩) ⟨mP_blind, va_recv hKm hPm (ci := 6) (q0 := 0) rfl rfl, mP_of hPm hKm hDm⟩ rfl rfl hl.1 rfl (lv_room (Nat.le_of_ble_eq_true rfl)) dL_law_523 ⟨Nat.le_of_ble_eq_true rfl, Nat.le_of_ble_eq_true rfl⟩) hS (fun q _ h => cF hDm hS hA q h) (cF hDm hS hA) (fun b6 u t Hb locsb ht hvm hm hB hz hk hS => ?_)
  obtain ⟨th9, gv9⟩ := u
  have hPt : va_P (dC, dI) vwCl (mO adm pr th9 gv9) Hb := by rw [← ht]; exact hB
  have hPo := out_kept hPo hoM hk
  clear hk hz
  refine lv_istore (lv' := [(6, .int b6), (5, .int k9), (4, .int (nI 1)), (3, .ref o), (2, .ref (adm 0)), (1, .ref (ad 0)), (0, .ref b)]) hx hb dL_law_526 hl (by decide) rfl (fun ls hl => ?_)
  refine lv_aload_n hx hb dL_law_528 rfl (lv_at hl 4 rfl) ?_
  refine pc_i (va_runV (As := []) (rest := []) ⟨hx, hb, hml, hown, hts⟩ (c_X5_thrown l dC dI adm pr th9 gv9) (cwV 0 hts (gT_app (gT_of (by decide +kernel)) (gT_c (by decide +kernel) gT_m)) rfl rfl rfl (by decide +kernel) ⟨Nat.le_of_ble_eq_true rfl, Nat.le_of_ble_eq_true rfl⟩) ⟨fun a U g mk h => ⟨h.1, h.2.1, va_K.moved (u := U) (U := U.calling g mk a) (Vm.Alike.refl U.vm) h.2.2⟩, va_recv hKm hPt (ci := 6) (q0 := 0) rfl rfl, fun U hU hW => ⟨rfl, by rw [hU]; exact hPt, va_K.moved hW.alike (hKm.sub [] rfl)⟩⟩ rfl rfl hl.1 rfl (lv_room (Nat.le_of_ble_eq_true rfl)) dL_law_529 ⟨Nat.le_of_ble_eq_true rfl, Nat.le_of_ble_eq_true rfl⟩) hS (fun r75 Hc locsc hr75 hz hk hS => ?_)
  subst hr75
  have hPo := hPo.kept (fun k x hx => hk x.1 ((hPo k x hx).lt))
  have hEq : r75 = k9 ∧ (k9 = nI 0 → f9 0 = b6.toInt64) := by
    rcases hw with ⟨hk, r, ⟨h1, h3⟩, h4⟩ | ⟨hk, h⟩ <;> rcases hm with ⟨ht, h5, h6⟩ | ⟨ht, h5⟩
    · exact ⟨ht.trans hk.symm, fun _ => by rw [h4, h3, h6]⟩
    · exact absurd h1 h5
    · exact absurd h5 h
    · exact ⟨ht.trans hk.symm, fun h0 => absurd (hk.symm.trans h0) (by decide +kernel)⟩
  refine lv_iload hx hb dL_law_532 (lv_at hl 1 rfl) ?_
  refine lv_icmp_eq (tgt := 539) hx hb dL_law_534 (by decide) (fun _ => ?_) (fun hcc => absurd (hEq.1) hcc)
  refine lv_iload hx hb dL_law_539 (lv_at hl 1 rfl) ?_
  refine lv_if_ne (tgt := 556) hx hb dL_law_541 (by decide) (fun hc541 => ?_) (fun hc541 => ?_)
  · refine lv_goto (tgt := 931) hx hb dL_law_556 (by decide) ?_
    exact law_end C0 (by decide) (by decide) hS (lv_sub hl [2, 6] rfl)
  · have hk0 : k9 = nI 0 := hc541.trans nI_0.symm
    refine lv_aload_n hx hb dL_law_544 rfl (lv_at hl 3 rfl) ?_
    refine lv_iconst (v := nI 0) hx hb dL_law_545 (by decide +kernel) ?_
    refine va_lald hx hb hK hPo 0 1 rfl rfl (vp_in_nI (by decide) (by decide)) dL_law_546 ?_
    refine zz_l (y := f9 0) (congrArg f9 (nI_clamp (by decide))) ?_
    refine lv_iload hx hb dL_law_547 (lv_at hl 0 rfl) ?_
    refine lv_i2l (v := b6.toInt64) hx hb dL_law_549 (rfl) ?_
    refine W.lcmp hx hb dL_law_550 ?_
    refine lv_if_eq (tgt := 556) hx hb dL_law_551 (by decide) (fun _ => ?_) (fun hcc => absurd ((lc_eq _ _).mpr (hEq.2 hk0)) hcc)
    refine lv_goto (tgt := 931) hx hb dL_law_556 (by decide) ?_
    exact law_end C0 (by decide) (by decide) hS (lv_sub hl [2, 6] rfl)

set_option maxHeartbeats 4000000 in
set_option maxRecDepth 100000 in
/-- the turn of factorOf -/
theorem law_6 {p : Program} {l : Launch} {e : Env} {s : State} {m : MethodId} {below : List Frame} {meth : Method} {c : Code} {b : Nat} {xs : Nat → Int32} (hnt : l.stackTraces = false) (C0 : lw_At p s m meth c b 5 xs) {dC : Nat → ClassId} {dI : Nat → Nat → Nat} {ad : Nat → Nat} {g : Nat → Option Nat} {ck : Nat → ClassId} {sa : Nat → Nat} {L : List Nat} {pr : Nat} {adm : Nat → Nat} {ckm : Nat → ClassId} {Lm : List Nat} {ln : Nat → Nat} {o : Nat} (hok : cOk ad g L pr) (hmok : mOk adm Lm ln pr) (hK : va_K (dC, dI) vwCl (cT ck) s) (hKm : va_K (dC, dI) vwCl (mT ckm) s) (hX9 : cX sa (fun q : Nat => s.heap.size ≤ q) s s.heap) (hN9 : lNc s) {H : Heap} {locs : List Loc} (hP : va_P (dC, dI) vwCl ((((o, zL (ck 1) 1) :: cwX ad g ck pr (nI 0)) ++ va_pl L (fun _ => zI (ck 0))) ++ (mW adm ckm Lm ln pr (nI 0) (nI 0))) H) (hD : va_D (fun q : Nat => s.heap.size ≤ q) ((((o, zL (ck 1) 1) :: cwX ad g ck pr (nI 0)) ++ va_pl L (fun _ => zI (ck 0))) ++ (mW adm ckm Lm ln pr (nI 0) (nI 0)))) (hS : va_S (fun q : Nat => s.heap.size ≤ q) s.heap H locs) {ls : Array Slot} (hl : lv_has ls 7 [(4, .int (nI 1)), (3, .ref o), (2, .ref (adm 0)), (1, .ref (ad 0)), (0, .ref b)]) : W p l e room_1 s m #[Value.ref b] below meth c H locs 294 17270 (lw_Z below #[Value.ref b] s) (F0 m 559 ls []) := by
  obtain ⟨hx, hb, hr, hml, hown, hts, hX, hbl, hlocks, hgv⟩ := id C0
  have hown : s.vm.findClass RL = some m.cls := hown
  have hA : ∀ q : Nat, s.heap.size ≤ q → (fun q : Nat => s.heap.size ≤ q) q := fun _ h => h
  have hbA : ¬ (fun q : Nat => s.heap.size ≤ q) b := Nat.not_le.mpr hbl
  refine lv_aload_n hx hb dL_law_559 rfl (lv_at hl 3 rfl) ?_
  refine lv_aload_n hx hb dL_law_560 rfl (lv_at hl 4 rfl) ?_
  refine lv_iload hx hb dL_law_561 (lv_at hl 0 rfl) ?_
  refine lv_iconst (v := nI 1) hx hb dL_law_563 (by decide +kernel) ?_
  refine lv_iadd hx hb dL_law_564 ?_
  refine zz_i (y := nI 2) (by decide +kernel) ?_
  refine va_sld hx hb hX hbl hbA hS (vp_in_nI (by decide) (by decide)) dL_law_565 ?_
  refine zz_i (y := xs 2) (congrArg xs (nI_clamp (by decide))) ?_
  refine lv_aload_n hx hb dL_law_566 rfl (lv_at hl 1 rfl) ?_
  have hPh := wl_P hP
  have hDh := wl_D hD
  refine va_calli (vx_runSW (As := [.ref (ad 0), .int (xs 2), .ref o]) (rest := []) ⟨hx, hb, hml, hown, hts⟩ (c_L_factorOf l hnt dC dI ad g ck sa L pr hok o H.size (xs 2)) (vx_cwSW 3 hts (gT_app (gT_of (by decide +kernel)) (gT_c (by decide +kernel) gT_l)) rfl rfl rfl (by decide +kernel) ⟨Nat.le_of_ble_eq_true rfl, Nat.le_of_ble_eq_true rfl⟩) ⟨lh_blind, lh_of hPh hK hDh hS hA hX9 hN9⟩ rfl rfl hl.1 rfl (lv_room (Nat.le_of_ble_eq_true rfl)) dL_law_567 ⟨Nat.le_of_ble_eq_true rfl, Nat.le_of_ble_eq_true rfl⟩) hS (fun q _ h => cF hDh hS hA q h) (cF hDh hS hA) (fun k9 f9 t Ha locsa ht hvm hw hB hz hk hS => ?_)
  have hPo : va_P (dC, dI) vwCl [(o, .inl (ck 1, 1, .inr (.inl f9)))] Ha := by rw [← ht]; exact hB
  have hPm : va_P (dC, dI) vwCl (mW adm ckm Lm ln pr (nI 0) (nI 0)) Ha := wr_kept hP hD hk
  have hDm : va_D (fun q : Nat => s.heap.size ≤ q) (mW adm ckm Lm ln pr (nI 0) (nI 0)) := wr_D hD
  have hoM : ¬ va_A (mW adm ckm Lm ln pr (nI 0) (nI 0)) Ha.size o := o_no hP hD rfl hz
  refine W.widen (k := 295) (n := 17276) (by decide) (by decide) ?_
  clear ht hvm hz hk hB
  refine lv_istore (lv' := [(5, .int k9), (4, .int (nI 1)), (3, .ref o), (2, .ref (adm 0)), (1, .ref (ad 0)), (0, .ref b)]) hx hb dL_law_570 hl (by decide) rfl (fun ls hl => ?_)
  refine lv_aload_n hx hb dL_law_572 rfl (lv_at hl 3 rfl) ?_
  refine lv_aload_n hx hb dL_law_573 rfl (lv_at hl 5 rfl) ?_
  refine lv_iload hx hb dL_law_574 (lv_at hl 1 rfl) ?_
  refine lv_iconst (v := nI 1) hx hb dL_law_576 (by decide +kernel) ?_
  refine lv_iadd hx hb dL_law_577 ?_
  refine zz_i (y := nI 2) (by decide +kernel) ?_
  refine va_sld hx hb hX hbl hbA hS (vp_in_nI (by decide) (by decide)) dL_law_578 ?_
  refine zz_i (y := xs 2) (congrArg xs (nI_clamp (by decide))) ?_
  refine va_calli (va_runV (As := [.int (xs 2)]) (rest := []) ⟨hx, hb, hml, hown, hts⟩ (c_X5_factorOf l dC dI adm ckm Lm ln pr hmok Ha.size (nI 0) (xs 2)) (cwV 1 hts (gT_app (gT_of (by decide +kernel)) (gT_c (by decide +kernel) gT_m)) rfl rfl rfl (by decide +kernel) ⟨Nat.le_of_ble_eq_true rfl, Nat.le_of_ble_eq_true rfl⟩) ⟨mP_blind, va_recv hKm hPm (ci := 6) (q0 := 0) rfl rfl, mP_of hPm hKm hDm⟩ rfl rfl hl.1 rfl (lv_room (Nat.le_of_ble_eq_true rfl)) dL_law_579 ⟨Nat.le_of_ble_eq_true rfl, Nat.le_of_ble_eq_true rfl⟩) hS (fun q _ h => cF hDm hS hA q h) (cF hDm hS hA) (fun b6 u t Hb locsb ht hvm hm hB hz hk hS => ?_)
  obtain ⟨th9, gv9⟩ := u
  have hPt : va_P (dC, dI) vwCl (mO adm pr th9 gv9) Hb := by rw [← ht]; exact hB
  have hPo := out_kept hPo hoM hk
  clear hk hz
  refine lv_istore (lv' := [(6, .int b6), (5, .int k9), (4, .int (nI 1)), (3, .ref o), (2, .ref (adm 0)), (1, .ref (ad 0)), (0, .ref b)]) hx hb dL_law_582 hl (by decide) rfl (fun ls hl => ?_)
  refine lv_aload_n hx hb dL_law_584 rfl (lv_at hl 4 rfl) ?_
  refine pc_i (va_runV (As := []) (rest := []) ⟨hx, hb, hml, hown, hts⟩ (c_X5_thrown l dC dI adm pr th9 gv9) (cwV 0 hts (gT_app (gT_of (by decide +kernel)) (gT_c (by decide +kernel) gT_m)) rfl rfl rfl (by decide +kernel) ⟨Nat.le_of_ble_eq_true rfl, Nat.le_of_ble_eq_true rfl⟩) ⟨fun a U g mk h => ⟨h.1, h.2.1, va_K.moved (u := U) (U := U.calling g mk a) (Vm.Alike.refl U.vm) h.2.2⟩, va_recv hKm hPt (ci := 6) (q0 := 0) rfl rfl, fun U hU hW => ⟨rfl, by rw [hU]; exact hPt, va_K.moved hW.alike (hKm.sub [] rfl)⟩⟩ rfl rfl hl.1 rfl (lv_room (Nat.le_of_ble_eq_true rfl)) dL_law_585 ⟨Nat.le_of_ble_eq_true rfl, Nat.le_of_ble_eq_true rfl⟩) hS (fun r75 Hc locsc hr75 hz hk hS => ?_)
  subst hr75
  have hPo := hPo.kept (fun k x hx => hk x.1 ((hPo k x hx).lt))
  have hEq : r75 = k9 ∧ (k9 = nI 0 → f9 0 = b6.toInt64) := by
    rcases hw with ⟨-, r, h, -⟩ | hk
    · exact h.elim
    · exact ⟨(show r75 = nI 1 from hm).trans hk.symm, fun h0 => absurd (hk.symm.trans h0) (by decide +kernel)⟩
  refine lv_iload hx hb dL_law_588 (lv_at hl 1 rfl) ?_
  refine lv_icmp_eq (tgt := 595) hx hb dL_law_590 (by decide) (fun _ => ?_) (fun hcc => absurd (hEq.1) hcc)
  refine lv_iload hx hb dL_law_595 (lv_at hl 1 rfl) ?_
  refine lv_if_ne (tgt := 612) hx hb dL_law_597 (by decide) (fun hc597 => ?_) (fun hc597 => ?_)
  · refine lv_goto (tgt := 931) hx hb dL_law_612 (by decide) ?_
    exact law_end C0 (by decide) (by decide) hS (lv_sub hl [2, 6] rfl)
  · have hk0 : k9 = nI 0 := hc597.trans nI_0.symm
    refine lv_aload_n hx hb dL_law_600 rfl (lv_at hl 3 rfl) ?_
    refine lv_iconst (v := nI 0) hx hb dL_law_601 (by decide +kernel) ?_
    refine va_lald hx hb hK hPo 0 1 rfl rfl (vp_in_nI (by decide) (by decide)) dL_law_602 ?_
    refine zz_l (y := f9 0) (congrArg f9 (nI_clamp (by decide))) ?_
    refine lv_iload hx hb dL_law_603 (lv_at hl 0 rfl) ?_
    refine lv_i2l (v := b6.toInt64) hx hb dL_law_605 (rfl) ?_
    refine W.lcmp hx hb dL_law_606 ?_
    refine lv_if_eq (tgt := 612) hx hb dL_law_607 (by decide) (fun _ => ?_) (fun hcc => absurd ((lc_eq _ _).mpr (hEq.2 hk0)) hcc)
    refine lv_goto (tgt := 931) hx hb dL_law_612 (by decide) ?_
    exact law_end C0 (by decide) (by decide) hS (lv_sub hl [2, 6] rfl)

set_option maxHeartbeats 4000000 in
set_option maxRecDepth 100000 in
/-- the turn of multiplicity -/
theorem law_7 {p : Program} {l : Launch} {e : Env} {s : State} {m : MethodId} {below : List Frame} {meth : Method} {c : Code} {b : Nat} {xs : Nat → Int32} (hnt : l.stackTraces = false) (C0 : lw_At p s m meth c b 5 xs) {dC : Nat → ClassId} {dI : Nat → Nat → Nat} {ad : Nat → Nat} {g : Nat → Option Nat} {ck : Nat → ClassId} {sa : Nat → Nat} {L : List Nat} {pr : Nat} {adm : Nat → Nat} {ckm : Nat → ClassId} {Lm : List Nat} {ln : Nat → Nat} {o : Nat} (hok : cOk ad g L pr) (hmok : mOk adm Lm ln pr) (hK : va_K (dC, dI) vwCl (cT ck) s) (hKm : va_K (dC, dI) vwCl (mT ckm) s) (hX9 : cX sa (fun q : Nat => s.heap.size ≤ q) s s.heap) (hN9 : lNc s) {H : Heap} {locs : List Loc} (hP : va_P (dC, dI) vwCl ((((o, zL (ck 1) 1) :: cwX ad g ck pr (nI 0)) ++ va_pl L (fun _ => zI (ck 0))) ++ (mW adm ckm Lm ln pr (nI 0) (nI 0))) H) (hD : va_D (fun q : Nat => s.heap.size ≤ q) ((((o, zL (ck 1) 1) :: cwX ad g ck pr (nI 0)) ++ va_pl L (fun _ => zI (ck 0))) ++ (mW adm ckm Lm ln pr (nI 0) (nI 0)))) (hS : va_S (fun q : Nat => s.heap.size ≤ q) s.heap H locs) {ls : Array Slot} (hl : lv_has ls 7 [(4, .int (nI 1)), (3, .ref o), (2, .ref (adm 0)), (1, .ref (ad 0)), (0, .ref b)]) : W p l e room_1 s m #[Value.ref b] below meth c H locs 294 17270 (lw_Z below #[Value.ref b] s) (F0 m 615 ls []) := by
  obtain ⟨hx, hb, hr, hml, hown, hts, hX, hbl, hlocks, hgv⟩ := id C0
  have hown : s.vm.findClass RL = some m.cls := hown
  have hA : ∀ q : Nat, s.heap.size ≤ q → (fun q : Nat => s.heap.size ≤ q) q := fun _ h => h
  have hbA : ¬ (fun q : Nat => s.heap.size ≤ q) b := Nat.not_le.mpr hbl
  refine lv_aload_n hx hb dL_law_615 rfl (lv_at hl 3 rfl) ?_
  refine lv_aload_n hx hb dL_law_616 rfl (lv_at hl 4 rfl) ?_
  refine lv_iload hx hb dL_law_617 (lv_at hl 0 rfl) ?_
  refine lv_iconst (v := nI 1) hx hb dL_law_619 (by decide +kernel) ?_
  refine lv_iadd hx hb dL_law_620 ?_
  refine zz_i (y := nI 2) (by decide +kernel) ?_
  refine va_sld hx hb hX hbl hbA hS (vp_in_nI (by decide) (by decide)) dL_law_621 ?_
  refine zz_i (y := xs 2) (congrArg xs (nI_clamp (by decide))) ?_
  refine lv_aload_n hx hb dL_law_622 rfl (lv_at hl 1 rfl) ?_
  have hPh := wl_P hP
  have hDh := wl_D hD
  refine va_calli (vx_runSW (As := [.ref (ad 0), .int (xs 2), .ref o]) (rest := []) ⟨hx, hb, hml, hown, hts⟩ (c_L_multiplicity l hnt dC dI ad g ck sa L pr hok o H.size (xs 2)) (vx_cwSW 3 hts (gT_app (gT_of (by decide +kernel)) (gT_c (by decide +kernel) gT_l)) rfl rfl rfl (by decide +kernel) ⟨Nat.le_of_ble_eq_true rfl, Nat.le_of_ble_eq_true rfl⟩) ⟨lh_blind, lh_of hPh hK hDh hS hA hX9 hN9⟩ rfl rfl hl.1 rfl (lv_room (Nat.le_of_ble_eq_true rfl)) dL_law_623 ⟨Nat.le_of_ble_eq_true rfl, Nat.le_of_ble_eq_true rfl⟩) hS (fun q _ h => cF hDh hS hA q h) (cF hDh hS hA) (fun k9 f9 t Ha locsa ht hvm hw hB hz hk hS => ?_)
  have hPo : va_P (dC, dI) vwCl [(o, .inl (ck 1, 1, .inr (.inl f9)))] Ha := by rw [← ht]; exact hB
  have hPm : va_P (dC, dI) vwCl (mW adm ckm Lm ln pr (nI 0) (nI 0)) Ha := wr_kept hP hD hk
  have hDm : va_D (fun q : Nat => s.heap.size ≤ q) (mW adm ckm Lm ln pr (nI 0) (nI 0)) := wr_D hD
  have hoM : ¬ va_A (mW adm ckm Lm ln pr (nI 0) (nI 0)) Ha.size o := o_no hP hD rfl hz
  refine W.widen (k := 295) (n := 17276) (by decide) (by decide) ?_
  clear ht hvm hz hk hB
  refine lv_istore (lv' := [(5, .int k9), (4, .int (nI 1)), (3, .ref o), (2, .ref (adm 0)), (1, .ref (ad 0)), (0, .ref b)]) hx hb dL_law_626 hl (by decide) rfl (fun ls hl => ?_)
  refine lv_aload_n hx hb dL_law_628 rfl (lv_at hl 3 rfl) ?_
  refine lv_aload_n hx hb dL_law_629 rfl (lv_at hl 5 rfl) ?_
  refine lv_iload hx hb dL_law_630 (lv_at hl 1 rfl) ?_
  refine lv_iconst (v := nI 1) hx hb dL_law_632 (by decide +kernel) ?_
  refine lv_iadd hx hb dL_law_633 ?_
  refine zz_i (y := nI 2) (by decide +kernel) ?_
  refine va_sld hx hb hX hbl hbA hS (vp_in_nI (by decide) (by decide)) dL_law_634 ?_
  refine zz_i (y := xs 2) (congrArg xs (nI_clamp (by decide))) ?_
  refine va_calli (va_runV (As := [.int (xs 2)]) (rest := []) ⟨hx, hb, hml, hown, hts⟩ (c_X5_multiplicity l dC dI adm ckm Lm ln pr hmok Ha.size (nI 0) (xs 2)) (cwV 1 hts (gT_app (gT_of (by decide +kernel)) (gT_c (by decide +kernel) gT_m)) rfl rfl rfl (by decide +kernel) ⟨Nat.le_of_ble_eq_true rfl, Nat.le_of_ble_eq_true rfl⟩) ⟨mP_blind, va_recv hKm hPm (ci := 6) (q0 := 0) rfl rfl, mP_of hPm hKm hDm⟩ rfl rfl hl.1 rfl (lv_room (Nat.le_of_ble_eq_true rfl)) dL_law_635 ⟨Nat.le_of_ble_eq_true rfl, Nat.le_of_ble_eq_true rfl⟩) hS (fun q _ h => cF hDm hS hA q h) (cF hDm hS hA) (fun b6 u t Hb locsb ht hvm hm hB hz hk hS => ?_)
  obtain ⟨th9, gv9⟩ := u
  have hPt : va_P (dC, dI) vwCl (mO adm pr th9 gv9) Hb := by rw [← ht]; exact hB
  have hPo := out_kept hPo hoM hk
  clear hk hz
  refine lv_istore (lv' := [(6, .int b6), (5, .int k9), (4, .int (nI 1)), (3, .ref o), (2, .ref (adm 0)), (1, .ref (ad 0)), (0, .ref b)]) hx hb dL_law_638 hl (by decide) rfl (fun ls hl => ?_)
  refine lv_aload_n hx hb dL_law_640 rfl (lv_at hl 4 rfl) ?_
  refine pc_i (va_runV (As := []) (rest := []) ⟨hx, hb, hml, hown, hts⟩ (c_X5_thrown l dC dI adm pr th9 gv9) (cwV 0 hts (gT_app (gT_of (by decide +kernel)) (gT_c (by decide +kernel) gT_m)) rfl rfl rfl (by decide +kernel) ⟨Nat.le_of_ble_eq_true rfl, Nat.le_of_ble_eq_true rfl⟩) ⟨fun a U g mk h => ⟨h.1, h.2.1, va_K.moved (u := U) (U := U.calling g mk a) (Vm.Alike.refl U.vm) h.2.2⟩, va_recv hKm hPt (ci := 6) (q0 := 0) rfl rfl, fun U hU hW => ⟨rfl, by rw [hU]; exact hPt, va_K.moved hW.alike (hKm.sub [] rfl)⟩⟩ rfl rfl hl.1 rfl (lv_room (Nat.le_of_ble_eq_true rfl)) dL_law_641 ⟨Nat.le_of_ble_eq_true rfl, Nat.le_of_ble_eq_true rfl⟩) hS (fun r75 Hc locsc hr75 hz hk hS => ?_)
  subst hr75
  have hPo := hPo.kept (fun k x hx => hk x.1 ((hPo k x hx).lt))
  have hEq : r75 = k9 ∧ (k9 = nI 0 → f9 0 = b6.toInt64) := by
    rcases hw with ⟨-, r, h, -⟩ | hk
    · exact h.elim
    · exact ⟨(show r75 = nI 1 from hm).trans hk.symm, fun h0 => absurd (hk.symm.trans h0) (by decide +kernel)⟩
  refine lv_iload hx hb dL_law_644 (lv_at hl 1 rfl) ?_
  refine lv_icmp_eq (tgt := 651) hx hb dL_law_646 (by decide) (fun _ => ?_) (fun hcc => absurd (hEq.1) hcc)
  refine lv_iload hx hb dL_law_651 (lv_at hl 1 rfl) ?_
  refine lv_if_ne (tgt := 668) hx hb dL_law_653 (by decide) (fun hc653 => ?_) (fun hc653 => ?_)
  · refine lv_goto (tgt := 931) hx hb dL_law_668 (by decide) ?_
    exact law_end C0 (by decide) (by decide) hS (lv_sub hl [2, 6] rfl)
  · have hk0 : k9 = nI 0 := hc653.trans nI_0.symm
    refine lv_aload_n hx hb dL_law_656 rfl (lv_at hl 3 rfl) ?_
    refine lv_iconst (v := nI 0) hx hb dL_law_657 (by decide +kernel) ?_
    refine va_lald hx hb hK hPo 0 1 rfl rfl (vp_in_nI (by decide) (by decide)) dL_law_658 ?_
    refine zz_l (y := f9 0) (congrArg f9 (nI_clamp (by decide))) ?_
    refine lv_iload hx hb dL_law_659 (lv_at hl 0 rfl) ?_
    refine lv_i2l (v := b6.toInt64) hx hb dL_law_661 (rfl) ?_
    refine W.lcmp hx hb dL_law_662 ?_
    refine lv_if_eq (tgt := 668) hx hb dL_law_663 (by decide) (fun _ => ?_) (fun hcc => absurd ((lc_eq _ _).mpr (hEq.2 hk0)) hcc)
    refine lv_goto (tgt := 931) hx hb dL_law_668 (by decide) ?_
    exact law_end C0 (by decide) (by decide) hS (lv_sub hl [2, 6] rfl)

set_option maxHeartbeats 4000000 in
set_option maxRecDepth 100000 in
/-- the turn of at -/
theorem law_8 {p : Program} {l : Launch} {e : Env} {s : State} {m : MethodId} {below : List Frame} {meth : Method} {c : Code} {b : Nat} {xs : Nat → Int32} (hnt : l.stackTraces = false) (C0 : lw_At p s m meth c b 5 xs) {dC : Nat → ClassId} {dI : Nat → Nat → Nat} {ad : Nat → Nat} {g : Nat → Option Nat} {ck : Nat → ClassId} {sa : Nat → Nat} {L : List Nat} {pr : Nat} {adm : Nat → Nat} {ckm : Nat → ClassId} {Lm : List Nat} {ln : Nat → Nat} {o : Nat} (hok : cOk ad g L pr) (hmok : mOk adm Lm ln pr) (hK : va_K (dC, dI) vwCl (cT ck) s) (hKm : va_K (dC, dI) vwCl (mT ckm) s) (hX9 : cX sa (fun q : Nat => s.heap.size ≤ q) s s.heap) (hN9 : lNc s) {H : Heap} {locs : List Loc} (hP : va_P (dC, dI) vwCl ((((o, zL (ck 1) 1) :: cwX ad g ck pr (nI 0)) ++ va_pl L (fun _ => zI (ck 0))) ++ (mW adm ckm Lm ln pr (nI 0) (nI 0))) H) (hD : va_D (fun q : Nat => s.heap.size ≤ q) ((((o, zL (ck 1) 1) :: cwX ad g ck pr (nI 0)) ++ va_pl L (fun _ => zI (ck 0))) ++ (mW adm ckm Lm ln pr (nI 0) (nI 0)))) (hS : va_S (fun q : Nat => s.heap.size ≤ q) s.heap H locs) {ls : Array Slot} (hl : lv_has ls 7 [(4, .int (nI 1)), (3, .ref o), (2, .ref (adm 0)), (1, .ref (ad 0)), (0, .ref b)]) : W p l e room_1 s m #[Value.ref b] below meth c H locs 294 17270 (lw_Z below #[Value.ref b] s) (F0 m 671 ls []) := by
  obtain ⟨hx, hb, hr, hml, hown, hts, hX, hbl, hlocks, hgv⟩ := id C0
  have hown : s.vm.findClass RL = some m.cls := hown
  have hA : ∀ q : Nat, s.heap.size ≤ q → (fun q : Nat => s.heap.size ≤ q) q := fun _ h => h
  have hbA : ¬ (fun q : Nat => s.heap.size ≤ q) b := Nat.not_le.mpr hbl
  refine lv_aload_n hx hb dL_law_671 rfl (lv_at hl 3 rfl) ?_
  refine lv_aload_n hx hb dL_law_672 rfl (lv_at hl 4 rfl) ?_
  refine lv_iload hx hb dL_law_673 (lv_at hl 0 rfl) ?_
  refine lv_iconst (v := nI 1) hx hb dL_law_675 (by decide +kernel) ?_
  refine lv_iadd hx hb dL_law_676 ?_
  refine zz_i (y := nI 2) (by decide +kernel) ?_
  refine va_sld hx hb hX hbl hbA hS (vp_in_nI (by decide) (by decide)) dL_law_677 ?_
  refine zz_i (y := xs 2) (congrArg xs (nI_clamp (by decide))) ?_
  refine lv_aload_n hx hb dL_law_678 rfl (lv_at hl 4 rfl) ?_
  refine lv_iload hx hb dL_law_679 (lv_at hl 0 rfl) ?_
  refine lv_iconst (v := nI 2) hx hb dL_law_681 (by decide +kernel) ?_
  refine lv_iadd hx hb dL_law_682 ?_
  refine zz_i (y := nI 3) (by decide +kernel) ?_
  refine va_sld hx hb hX hbl hbA hS (vp_in_nI (by decide) (by decide)) dL_law_683 ?_
  refine zz_i (y := xs 3) (congrArg xs (nI_clamp (by decide))) ?_
  refine lv_aload_n hx hb dL_law_684 rfl (lv_at hl 1 rfl) ?_
  have hPh := wl_P hP
  have hDh := wl_D hD
  refine va_calli (vx_runSW (As := [.ref (ad 0), .int (xs 2), .int (xs 3), .ref o]) (rest := []) ⟨hx, hb, hml, hown, hts⟩ (c_L_at l hnt dC dI ad g ck sa L pr hok o H.size (xs 2) (xs 3)) (vx_cwSW 4 hts (gT_app (gT_of (by decide +kernel)) (gT_c (by decide +kernel) gT_l)) rfl rfl rfl (by decide +kernel) ⟨Nat.le_of_ble_eq_true rfl, Nat.le_of_ble_eq_true rfl⟩) ⟨lh_blind, lh_of hPh hK hDh hS hA hX9 hN9⟩ rfl rfl hl.1 rfl (lv_room (Nat.le_of_ble_eq_true rfl)) dL_law_685 ⟨Nat.le_of_ble_eq_true rfl, Nat.le_of_ble_eq_true rfl⟩) hS (fun q _ h => cF hDh hS hA q h) (cF hDh hS hA) (fun k9 f9 t Ha locsa ht hvm hw hB hz hk hS => ?_)
  have hPo : va_P (dC, dI) vwCl [(o, .inl (ck 1, 1, .inr (.inl f9)))] Ha := by rw [← ht]; exact hB
  have hPm : va_P (dC, dI) vwCl (mW adm ckm Lm ln pr (nI 0) (nI 0)) Ha := wr_kept hP hD hk
  have hDm : va_D (fun q : Nat => s.heap.size ≤ q) (mW adm ckm Lm ln pr (nI 0) (nI 0)) := wr_D hD
  have hoM : ¬ va_A (mW adm ckm Lm ln pr (nI 0) (nI 0)) Ha.size o := o_no hP hD rfl hz
  refine W.widen (k := 296) (n := 17282) (by decide) (by decide) ?_
  clear ht hvm hz hk hB
  refine lv_istore (lv' := [(5, .int k9), (4, .int (nI 1)), (3, .ref o), (2, .ref (adm 0)), (1, .ref (ad 0)), (0, .ref b)]) hx hb dL_law_688 hl (by decide) rfl (fun ls hl => ?_)
  refine lv_aload_n hx hb dL_law_690 rfl (lv_at hl 3 rfl) ?_
  refine lv_aload_n hx hb dL_law_691 rfl (lv_at hl 5 rfl) ?_
  refine lv_iload hx hb dL_law_692 (lv_at hl 1 rfl) ?_
  refine lv_iconst (v := nI 1) hx hb dL_law_694 (by decide +kernel) ?_
  refine lv_iadd hx hb dL_law_695 ?_
  refine zz_i (y := nI 2) (by decide +kernel) ?_
  refine va_sld hx hb hX hbl hbA hS (vp_in_nI (by decide) (by decide)) dL_law_696 ?_
  refine zz_i (y := xs 2) (congrArg xs (nI_clamp (by decide))) ?_
  refine lv_aload_n hx hb dL_law_697 rfl (lv_at hl 5 rfl) ?_
  refine lv_iload hx hb dL_law_698 (lv_at hl 1 rfl) ?_
  refine lv_iconst (v := nI 2) hx hb dL_law_700 (by decide +kernel) ?_
  refine lv_iadd hx hb dL_law_701 ?_
  refine zz_i (y := nI 3) (by decide +kernel) ?_
  refine va_sld hx hb hX hbl hbA hS (vp_in_nI (by decide) (by decide)) dL_law_702 ?_
  refine zz_i (y := xs 3) (congrArg xs (nI_clamp (by decide))) ?_
  refine va_calli (va_runV (As := [.int (xs 2), .int (xs 3)]) (rest := []) ⟨hx, hb, hml, hown, hts⟩ (c_X5_at l dC dI adm ckm Lm ln pr hmok Ha.size (nI 0) (xs 2) (xs 3)) (cwV 2 hts (gT_app (gT_of (by decide +kernel)) (gT_c (by decide +kernel) gT_m)) rfl rfl rfl (by decide +kernel) ⟨Nat.le_of_ble_eq_true rfl, Nat.le_of_ble_eq_true rfl⟩) ⟨mP_blind, va_recv hKm hPm (ci := 6) (q0 := 0) rfl rfl, mP_of hPm hKm hDm⟩ rfl rfl hl.1 rfl (lv_room (Nat.le_of_ble_eq_true rfl)) dL_law_703 ⟨Nat.le_of_ble_eq_true rfl, Nat.le_of_ble_eq_true rfl⟩) hS (fun q _ h => cF hDm hS hA q h) (cF hDm hS hA) (fun b6 u t Hb locsb ht hvm hm hB hz hk hS => ?_)
  obtain ⟨th9, gv9⟩ := u
  have hPt : va_P (dC, dI) vwCl (mO adm pr th9 gv9) Hb := by rw [← ht]; exact hB
  have hPo := out_kept hPo hoM hk
  clear hk hz
  refine lv_istore (lv' := [(6, .int b6), (5, .int k9), (4, .int (nI 1)), (3, .ref o), (2, .ref (adm 0)), (1, .ref (ad 0)), (0, .ref b)]) hx hb dL_law_706 hl (by decide) rfl (fun ls hl => ?_)
  refine lv_aload_n hx hb dL_law_708 rfl (lv_at hl 4 rfl) ?_
  refine pc_i (va_runV (As := []) (rest := []) ⟨hx, hb, hml, hown, hts⟩ (c_X5_thrown l dC dI adm pr th9 gv9) (cwV 0 hts (gT_app (gT_of (by decide +kernel)) (gT_c (by decide +kernel) gT_m)) rfl rfl rfl (by decide +kernel) ⟨Nat.le_of_ble_eq_true rfl, Nat.le_of_ble_eq_true rfl⟩) ⟨fun a U g mk h => ⟨h.1, h.2.1, va_K.moved (u := U) (U := U.calling g mk a) (Vm.Alike.refl U.vm) h.2.2⟩, va_recv hKm hPt (ci := 6) (q0 := 0) rfl rfl, fun U hU hW => ⟨rfl, by rw [hU]; exact hPt, va_K.moved hW.alike (hKm.sub [] rfl)⟩⟩ rfl rfl hl.1 rfl (lv_room (Nat.le_of_ble_eq_true rfl)) dL_law_709 ⟨Nat.le_of_ble_eq_true rfl, Nat.le_of_ble_eq_true rfl⟩) hS (fun r75 Hc locsc hr75 hz hk hS => ?_)
  subst hr75
  have hPo := hPo.kept (fun k x hx => hk x.1 ((hPo k x hx).lt))
  have hEq : r75 = k9 ∧ (k9 = nI 0 → f9 0 = b6.toInt64) := by
    rcases hw with ⟨hk, r, ⟨h1, h2, h3⟩, h4⟩ | ⟨hk, h⟩ <;> rcases hm with ⟨ht, h5, h6⟩ | ⟨ht, h5⟩
    · exact ⟨ht.trans hk.symm, fun _ => by rw [h4, h3, h6]⟩
    · exact absurd ⟨h1, h2⟩ h5
    · exact absurd h5 h
    · exact ⟨ht.trans hk.symm, fun h0 => absurd (hk.symm.trans h0) (by decide +kernel)⟩
  refine lv_iload hx hb dL_law_712 (lv_at hl 1 rfl) ?_
  refine lv_icmp_eq (tgt := 719) hx hb dL_law_714 (by decide) (fun _ => ?_) (fun hcc => absurd (hEq.1) hcc)
  refine lv_iload hx hb dL_law_719 (lv_at hl 1 rfl) ?_
  refine lv_if_ne (tgt := 736) hx hb dL_law_721 (by decide) (fun hc721 => ?_) (fun hc721 => ?_)
  · refine lv_goto (tgt := 931) hx hb dL_law_736 (by decide) ?_
    exact law_end C0 (by decide) (by decide) hS (lv_sub hl [2, 6] rfl)
  · have hk0 : k9 = nI 0 := hc721.trans nI_0.symm
    refine lv_aload_n hx hb dL_law_724 rfl (lv_at hl 3 rfl) ?_
    refine lv_iconst (v := nI 0) hx hb dL_law_725 (by decide +kernel) ?_
    refine va_lald hx hb hK hPo 0 1 rfl rfl (vp_in_nI (by decide) (by decide)) dL_law_726 ?_
    refine zz_l (y := f9 0) (congrArg f9 (nI_clamp (by decide))) ?_
    refine lv_iload hx hb dL_law_727 (lv_at hl 0 rfl) ?_
    refine lv_i2l (v := b6.toInt64) hx hb dL_law_729 (rfl) ?_
    refine W.lcmp hx hb dL_law_730 ?_
    refine lv_if_eq (tgt := 736) hx hb dL_law_731 (by decide) (fun _ => ?_) (fun hcc => absurd ((lc_eq _ _).mpr (hEq.2 hk0)) hcc)
    refine lv_goto (tgt := 931) hx hb dL_law_736 (by decide) ?_
    exact law_end C0 (by decide) (by decide) hS (lv_sub hl [2, 6] rfl)

set_option maxHeartbeats 4000000 in
set_option maxRecDepth 100000 in
/-- the turn of root -/
theorem law_9 {p : Program} {l : Launch} {e : Env} {s : State} {m : MethodId} {below : List Frame} {meth : Method} {c : Code} {b : Nat} {xs : Nat → Int32} (hnt : l.stackTraces = false) (C0 : lw_At p s m meth c b 5 xs) {dC : Nat → ClassId} {dI : Nat → Nat → Nat} {ad : Nat → Nat} {g : Nat → Option Nat} {ck : Nat → ClassId} {sa : Nat → Nat} {L : List Nat} {pr : Nat} {adm : Nat → Nat} {ckm : Nat → ClassId} {Lm : List Nat} {ln : Nat → Nat} {o : Nat} (hok : cOk ad g L pr) (hmok : mOk adm Lm ln pr) (hK : va_K (dC, dI) vwCl (cT ck) s) (hKm : va_K (dC, dI) vwCl (mT ckm) s) (hX9 : cX sa (fun q : Nat => s.heap.size ≤ q) s s.heap) (hN9 : lNc s) {H : Heap} {locs : List Loc} (hP : va_P (dC, dI) vwCl ((((o, zL (ck 1) 1) :: cwX ad g ck pr (nI 0)) ++ va_pl L (fun _ => zI (ck 0))) ++ (mW adm ckm Lm ln pr (nI 0) (nI 0))) H) (hD : va_D (fun q : Nat => s.heap.size ≤ q) ((((o, zL (ck 1) 1) :: cwX ad g ck pr (nI 0)) ++ va_pl L (fun _ => zI (ck 0))) ++ (mW adm ckm Lm ln pr (nI 0) (nI 0)))) (hS : va_S (fun q : Nat => s.heap.size ≤ q) s.heap H locs) {ls : Array Slot} (hl : lv_has ls 7 [(4, .int (nI 1)), (3, .ref o), (2, .ref (adm 0)), (1, .ref (ad 0)), (0, .ref b)]) : W p l e room_1 s m #[Value.ref b] below meth c H locs 294 17270 (lw_Z below #[Value.ref b] s) (F0 m 739 ls []) := by
  obtain ⟨hx, hb, hr, hml, hown, hts, hX, hbl, hlocks, hgv⟩ := id C0
  have hown : s.vm.findClass RL = some m.cls := hown
  have hA : ∀ q : Nat, s.heap.size ≤ q → (fun q : Nat => s.heap.size ≤ q) q := fun _ h => h
  have hbA : ¬ (fun q : Nat => s.heap.size ≤ q) b := Nat.not_le.mpr hbl
  refine lv_aload_n hx hb dL_law_739 rfl (lv_at hl 3 rfl) ?_
  refine lv_aload_n hx hb dL_law_740 rfl (lv_at hl 4 rfl) ?_
  refine lv_iload hx hb dL_law_741 (lv_at hl 0 rfl) ?_
  refine lv_iconst (v := nI 1) hx hb dL_law_743 (by decide +kernel) ?_
  refine lv_iadd hx hb dL_law_744 ?_
  refine zz_i (y := nI 2) (by decide +kernel) ?_
  refine va_sld hx hb hX hbl hbA hS (vp_in_nI (by decide) (by decide)) dL_law_745 ?_
  refine zz_i (y := xs 2) (congrArg xs (nI_clamp (by decide))) ?_
  refine lv_aload_n hx hb dL_law_746 rfl (lv_at hl 4 rfl) ?_
  refine lv_iload hx hb dL_law_747 (lv_at hl 0 rfl) ?_
  refine lv_iconst (v := nI 2) hx hb dL_law_749 (by decide +kernel) ?_
  refine lv_iadd hx hb dL_law_750 ?_
  refine zz_i (y := nI 3) (by decide +kernel) ?_
  refine va_sld hx hb hX hbl hbA hS (vp_in_nI (by decide) (by decide)) dL_law_751 ?_
  refine zz_i (y := xs 3) (congrArg xs (nI_clamp (by decide))) ?_
  refine lv_aload_n hx hb dL_law_752 rfl (lv_at hl 1 rfl) ?_
  have hPh := wl_P hP
  have hDh := wl_D hD
  refine va_calli (vx_runSW (As := [.ref (ad 0), .int (xs 2), .int (xs 3), .ref o]) (rest := []) ⟨hx, hb, hml, hown, hts⟩ (c_L_root l hnt dC dI ad g ck sa L pr hok o H.size (xs 2) (xs 3)) (vx_cwSW 4 hts (gT_app (gT_of (by decide +kernel)) (gT_c (by decide +kernel) gT_l)) rfl rfl rfl (by decide +kernel) ⟨Nat.le_of_ble_eq_true rfl, Nat.le_of_ble_eq_true rfl⟩) ⟨lh_blind, lh_of hPh hK hDh hS hA hX9 hN9⟩ rfl rfl hl.1 rfl (lv_room (Nat.le_of_ble_eq_true rfl)) dL_law_753 ⟨Nat.le_of_ble_eq_true rfl, Nat.le_of_ble_eq_true rfl⟩) hS (fun q _ h => cF hDh hS hA q h) (cF hDh hS hA) (fun k9 f9 t Ha locsa ht hvm hw hB hz hk hS => ?_)
  have hPo : va_P (dC, dI) vwCl [(o, .inl (ck 1, 1, .inr (.inl f9)))] Ha := by rw [← ht]; exact hB
  have hPm : va_P (dC, dI) vwCl (mW adm ckm Lm ln pr (nI 0) (nI 0)) Ha := wr_kept hP hD hk
  have hDm : va_D (fun q : Nat => s.heap.size ≤ q) (mW adm ckm Lm ln pr (nI 0) (nI 0)) := wr_D hD
  have hoM : ¬ va_A (mW adm ckm Lm ln pr (nI 0) (nI 0)) Ha.size o := o_no hP hD rfl hz
  refine W.widen (k := 295) (n := 17276) (by decide) (by decide) ?_
  clear ht hvm hz hk hB
  refine lv_istore (lv' := [(5, .int k9), (4, .int (nI 1)), (3, .ref o), (2, .ref (adm 0)), (1, .ref (ad 0)), (0, .ref b)]) hx hb dL_law_756 hl (by decide) rfl (fun ls hl => ?_)
  refine lv_aload_n hx hb dL_law_758 rfl (lv_at hl 3 rfl) ?_
  refine lv_aload_n hx hb dL_law_759 rfl (lv_at hl 5 rfl) ?_
  refine lv_iload hx hb dL_law_760 (lv_at hl 1 rfl) ?_
  refine lv_iconst (v := nI 1) hx hb dL_law_762 (by decide +kernel) ?_
  refine lv_iadd hx hb dL_law_763 ?_
  refine zz_i (y := nI 2) (by decide +kernel) ?_
  refine va_sld hx hb hX hbl hbA hS (vp_in_nI (by decide) (by decide)) dL_law_764 ?_
  refine zz_i (y := xs 2) (congrArg xs (nI_clamp (by decide))) ?_
  refine lv_aload_n hx hb dL_law_765 rfl (lv_at hl 5 rfl) ?_
  refine lv_iload hx hb dL_law_766 (lv_at hl 1 rfl) ?_
  refine lv_iconst (v := nI 2) hx hb dL_law_768 (by decide +kernel) ?_
  refine lv_iadd hx hb dL_law_769 ?_
  refine zz_i (y := nI 3) (by decide +kernel) ?_
  refine va_sld hx hb hX hbl hbA hS (vp_in_nI (by decide) (by decide)) dL_law_770 ?_
  refine zz_i (y := xs 3) (congrArg xs (nI_clamp (by decide))) ?_
  refine va_calli (va_runV (As := [.int (xs 2), .int (xs 3)]) (rest := []) ⟨hx, hb, hml, hown, hts⟩ (c_X5_root l dC dI adm ckm Lm ln pr hmok Ha.size (nI 0) (xs 2) (xs 3)) (cwV 2 hts (gT_app (gT_of (by decide +kernel)) (gT_c (by decide +kernel) gT_m)) rfl rfl rfl (by decide +kernel) ⟨Nat.le_of_ble_eq_true rfl, Nat.le_of_ble_eq_true rfl⟩) ⟨mP_blind, va_recv hKm hPm (ci := 6) (q0 := 0) rfl rfl, mP_of hPm hKm hDm⟩ rfl rfl hl.1 rfl (lv_room (Nat.le_of_ble_eq_true rfl)) dL_law_771 ⟨Nat.le_of_ble_eq_true rfl, Nat.le_of_ble_eq_true rfl⟩) hS (fun q _ h => cF hDm hS hA q h) (cF hDm hS hA) (fun b6 u t Hb locsb ht hvm hm hB hz hk hS => ?_)
  obtain ⟨th9, gv9⟩ := u
  have hPt : va_P (dC, dI) vwCl (mO adm pr th9 gv9) Hb := by rw [← ht]; exact hB
  have hPo := out_kept hPo hoM hk
  clear hk hz
  refine lv_istore (lv' := [(6, .int b6), (5, .int k9), (4, .int (nI 1)), (3, .ref o), (2, .ref (adm 0)), (1, .ref (ad 0)), (0, .ref b)]) hx hb dL_law_774 hl (by decide) rfl (fun ls hl => ?_)
  refine lv_aload_n hx hb dL_law_776 rfl (lv_at hl 4 rfl) ?_
  refine pc_i (va_runV (As := []) (rest := []) ⟨hx, hb, hml, hown, hts⟩ (c_X5_thrown l dC dI adm pr th9 gv9) (cwV 0 hts (gT_app (gT_of (by decide +kernel)) (gT_c (by decide +kernel) gT_m)) rfl rfl rfl (by decide +kernel) ⟨Nat.le_of_ble_eq_true rfl, Nat.le_of_ble_eq_true rfl⟩) ⟨fun a U g mk h => ⟨h.1, h.2.1, va_K.moved (u := U) (U := U.calling g mk a) (Vm.Alike.refl U.vm) h.2.2⟩, va_recv hKm hPt (ci := 6) (q0 := 0) rfl rfl, fun U hU hW => ⟨rfl, by rw [hU]; exact hPt, va_K.moved hW.alike (hKm.sub [] rfl)⟩⟩ rfl rfl hl.1 rfl (lv_room (Nat.le_of_ble_eq_true rfl)) dL_law_777 ⟨Nat.le_of_ble_eq_true rfl, Nat.le_of_ble_eq_true rfl⟩) hS (fun r75 Hc locsc hr75 hz hk hS => ?_)
  subst hr75
  have hPo := hPo.kept (fun k x hx => hk x.1 ((hPo k x hx).lt))
  have hEq : r75 = k9 ∧ (k9 = nI 0 → f9 0 = b6.toInt64) := by
    rcases hw with ⟨hk, r, ⟨h1, h3⟩, h4⟩ | ⟨hk, h⟩ <;> rcases hm with ⟨ht, h5, h6⟩ | ⟨ht, h5⟩
    · refine ⟨ht.trans hk.symm, fun _ => ?_⟩
      rcases h3 with ⟨h7, h8⟩ | ⟨h7, h8⟩ <;> rcases h6 with ⟨g7, g8⟩ | ⟨g7, g8⟩
      · rw [h4, h7, g7]
      · exact absurd h8 g8
      · exact absurd g8 h8
      · rw [h4, h7, g7]
    · exact absurd h1 h5
    · exact absurd h5 h
    · exact ⟨ht.trans hk.symm, fun h0 => absurd (hk.symm.trans h0) (by decide +kernel)⟩
  refine lv_iload hx hb dL_law_780 (lv_at hl 1 rfl) ?_
  refine lv_icmp_eq (tgt := 787) hx hb dL_law_782 (by decide) (fun _ => ?_) (fun hcc => absurd (hEq.1) hcc)
  refine lv_iload hx hb dL_law_787 (lv_at hl 1 rfl) ?_
  refine lv_if_ne (tgt := 804) hx hb dL_law_789 (by decide) (fun hc789 => ?_) (fun hc789 => ?_)
  · refine lv_goto (tgt := 931) hx hb dL_law_804 (by decide) ?_
    exact law_end C0 (by decide) (by decide) hS (lv_sub hl [2, 6] rfl)
  · have hk0 : k9 = nI 0 := hc789.trans nI_0.symm
    refine lv_aload_n hx hb dL_law_792 rfl (lv_at hl 3 rfl) ?_
    refine lv_iconst (v := nI 0) hx hb dL_law_793 (by decide +kernel) ?_
    refine va_lald hx hb hK hPo 0 1 rfl rfl (vp_in_nI (by decide) (by decide)) dL_law_794 ?_
    refine zz_l (y := f9 0) (congrArg f9 (nI_clamp (by decide))) ?_
    refine lv_iload hx hb dL_law_795 (lv_at hl 0 rfl) ?_
    refine lv_i2l (v := b6.toInt64) hx hb dL_law_797 (rfl) ?_
    refine W.lcmp hx hb dL_law_798 ?_
    refine lv_if_eq (tgt := 804) hx hb dL_law_799 (by decide) (fun _ => ?_) (fun hcc => absurd ((lc_eq _ _).mpr (hEq.2 hk0)) hcc)
    refine lv_goto (tgt := 931) hx hb dL_law_804 (by decide) ?_
    exact law_end C0 (by decide) (by decide) hS (lv_sub hl [2, 6] rfl)

set_option maxHeartbeats 4000000 in
set_option maxRecDepth 100000 in
/-- the turn of inverse -/
theorem law_10 {p : Program} {l : Launch} {e : Env} {s : State} {m : MethodId} {below : List Frame} {meth : Method} {c : Code} {b : Nat} {xs : Nat → Int32} (hnt : l.stackTraces = false) (C0 : lw_At p s m meth c b 5 xs) {dC : Nat → ClassId} {dI : Nat → Nat → Nat} {ad : Nat → Nat} {g : Nat → Option Nat} {ck : Nat → ClassId} {sa : Nat → Nat} {L : List Nat} {pr : Nat} {adm : Nat → Nat} {ckm : Nat → ClassId} {Lm : List Nat} {ln : Nat → Nat} {o : Nat} (hok : cOk ad g L pr) (hmok : mOk adm Lm ln pr) (hK : va_K (dC, dI) vwCl (cT ck) s) (hKm : va_K (dC, dI) vwCl (mT ckm) s) (hX9 : cX sa (fun q : Nat => s.heap.size ≤ q) s s.heap) (hN9 : lNc s) {H : Heap} {locs : List Loc} (hP : va_P (dC, dI) vwCl ((((o, zL (ck 1) 1) :: cwX ad g ck pr (nI 0)) ++ va_pl L (fun _ => zI (ck 0))) ++ (mW adm ckm Lm ln pr (nI 0) (nI 0))) H) (hD : va_D (fun q : Nat => s.heap.size ≤ q) ((((o, zL (ck 1) 1) :: cwX ad g ck pr (nI 0)) ++ va_pl L (fun _ => zI (ck 0))) ++ (mW adm ckm Lm ln pr (nI 0) (nI 0)))) (hS : va_S (fun q : Nat => s.heap.size ≤ q) s.heap H locs) {ls : Array Slot} (hl : lv_has ls 7 [(4, .int (nI 1)), (3, .ref o), (2, .ref (adm 0)), (1, .ref (ad 0)), (0, .ref b)]) : W p l e room_1 s m #[Value.ref b] below meth c H locs 294 17270 (lw_Z below #[Value.ref b] s) (F0 m 807 ls []) := by
  obtain ⟨hx, hb, hr, hml, hown, hts, hX, hbl, hlocks, hgv⟩ := id C0
  have hown : s.vm.findClass RL = some m.cls := hown
  have hA : ∀ q : Nat, s.heap.size ≤ q → (fun q : Nat => s.heap.size ≤ q) q := fun _ h => h
  have hbA : ¬ (fun q : Nat => s.heap.size ≤ q) b := Nat.not_le.mpr hbl
  refine lv_aload_n hx hb dL_law_807 rfl (lv_at hl 3 rfl) ?_
  refine lv_aload_n hx hb dL_law_808 rfl (lv_at hl 4 rfl) ?_
  refine lv_iload hx hb dL_law_809 (lv_at hl 0 rfl) ?_
  refine lv_iconst (v := nI 1) hx hb dL_law_811 (by decide +kernel) ?_
  refine lv_iadd hx hb dL_law_812 ?_
  refine zz_i (y := nI 2) (by decide +kernel) ?_
  refine va_sld hx hb hX hbl hbA hS (vp_in_nI (by decide) (by decide)) dL_law_813 ?_
  refine zz_i (y := xs 2) (congrArg xs (nI_clamp (by decide))) ?_
  refine lv_aload_n hx hb dL_law_814 rfl (lv_at hl 1 rfl) ?_
  have hPh := wl_P hP
  have hDh := wl_D hD
  refine va_calli (vx_runSW (As := [.ref (ad 0), .int (xs 2), .ref o]) (rest := []) ⟨hx, hb, hml, hown, hts⟩ (c_L_inverse l hnt dC dI ad g ck sa L pr hok o H.size (xs 2)) (vx_cwSW 3 hts (gT_app (gT_of (by decide +kernel)) (gT_c (by decide +kernel) gT_l)) rfl rfl rfl (by decide +kernel) ⟨Nat.le_of_ble_eq_true rfl, Nat.le_of_ble_eq_true rfl⟩) ⟨lh_blind, lh_of hPh hK hDh hS hA hX9 hN9⟩ rfl rfl hl.1 rfl (lv_room (Nat.le_of_ble_eq_true rfl)) dL_law_815 ⟨Nat.le_of_ble_eq_true rfl, Nat.le_of_ble_eq_true rfl⟩) hS (fun q _ h => cF hDh hS hA q h) (cF hDh hS hA) (fun k9 f9 t Ha locsa ht hvm hw hB hz hk hS => ?_)
  have hPo : va_P (dC, dI) vwCl [(o, .inl (ck 1, 1, .inr (.inl f9)))] Ha := by rw [← ht]; exact hB
  have hPm : va_P (dC, dI) vwCl (mW adm ckm Lm ln pr (nI 0) (nI 0)) Ha := wr_kept hP hD hk
  have hDm : va_D (fun q : Nat => s.heap.size ≤ q) (mW adm ckm Lm ln pr (nI 0) (nI 0)) := wr_D hD
  have hoM : ¬ va_A (mW adm ckm Lm ln pr (nI 0) (nI 0)) Ha.size o := o_no hP hD rfl hz
  refine W.widen (k := 295) (n := 17276) (by decide) (by decide) ?_
  clear ht hvm hz hk hB
  refine lv_istore (lv' := [(5, .int k9), (4, .int (nI 1)), (3, .ref o), (2, .ref (adm 0)), (1, .ref (ad 0)), (0, .ref b)]) hx hb dL_law_818 hl (by decide) rfl (fun ls hl => ?_)
  refine lv_aload_n hx hb dL_law_820 rfl (lv_at hl 3 rfl) ?_
  refine lv_aload_n hx hb dL_law_821 rfl (lv_at hl 5 rfl) ?_
  refine lv_iload hx hb dL_law_822 (lv_at hl 1 rfl) ?_
  refine lv_iconst (v := nI 1) hx hb dL_law_824 (by decide +kernel) ?_
  refine lv_iadd hx hb dL_law_825 ?_
  refine zz_i (y := nI 2) (by decide +kernel) ?_
  refine va_sld hx hb hX hbl hbA hS (vp_in_nI (by decide) (by decide)) dL_law_826 ?_
  refine zz_i (y := xs 2) (congrArg xs (nI_clamp (by decide))) ?_
  refine va_calli (va_runV (As := [.int (xs 2)]) (rest := []) ⟨hx, hb, hml, hown, hts⟩ (c_X5_inverse l dC dI adm ckm Lm ln pr hmok Ha.size (nI 0) (xs 2)) (cwV 1 hts (gT_app (gT_of (by decide +kernel)) (gT_c (by decide +kernel) gT_m)) rfl rfl rfl (by decide +kernel) ⟨Nat.le_of_ble_eq_true rfl, Nat.le_of_ble_eq_true rfl⟩) ⟨mP_blind, va_recv hKm hPm (ci := 6) (q0 := 0) rfl rfl, mP_of hPm hKm hDm⟩ rfl rfl hl.1 rfl (lv_room (Nat.le_of_ble_eq_true rfl)) dL_law_827 ⟨Nat.le_of_ble_eq_true rfl, Nat.le_of_ble_eq_true rfl⟩) hS (fun q _ h => cF hDm hS hA q h) (cF hDm hS hA) (fun b6 u t Hb locsb ht hvm hm hB hz hk hS => ?_)
  obtain ⟨th9, gv9⟩ := u
  have hPt : va_P (dC, dI) vwCl (mO adm pr th9 gv9) Hb := by rw [← ht]; exact hB
  have hPo := out_kept hPo hoM hk
  clear hk hz
  refine lv_istore (lv' := [(6, .int b6), (5, .int k9), (4, .int (nI 1)), (3, .ref o), (2, .ref (adm 0)), (1, .ref (ad 0)), (0, .ref b)]) hx hb dL_law_830 hl (by decide) rfl (fun ls hl => ?_)
  refine lv_aload_n hx hb dL_law_832 rfl (lv_at hl 4 rfl) ?_
  refine pc_i (va_runV (As := []) (rest := []) ⟨hx, hb, hml, hown, hts⟩ (c_X5_thrown l dC dI adm pr th9 gv9) (cwV 0 hts (gT_app (gT_of (by decide +kernel)) (gT_c (by decide +kernel) gT_m)) rfl rfl rfl (by decide +kernel) ⟨Nat.le_of_ble_eq_true rfl, Nat.le_of_ble_eq_true rfl⟩) ⟨fun a U g mk h => ⟨h.1, h.2.1, va_K.moved (u := U) (U := U.calling g mk a) (Vm.Alike.refl U.vm) h.2.2⟩, va_recv hKm hPt (ci := 6) (q0 := 0) rfl rfl, fun U hU hW => ⟨rfl, by rw [hU]; exact hPt, va_K.moved hW.alike (hKm.sub [] rfl)⟩⟩ rfl rfl hl.1 rfl (lv_room (Nat.le_of_ble_eq_true rfl)) dL_law_833 ⟨Nat.le_of_ble_eq_true rfl, Nat.le_of_ble_eq_true rfl⟩) hS (fun r75 Hc locsc hr75 hz hk hS => ?_)
  subst hr75
  have hPo := hPo.kept (fun k x hx => hk x.1 ((hPo k x hx).lt))
  have hEq : r75 = k9 ∧ (k9 = nI 0 → f9 0 = b6.toInt64) := by
    rcases hw with ⟨hk, r, ⟨h1, z, h3, h7⟩, h4⟩ | ⟨hk, h⟩ <;> rcases hm with ⟨ht, h5, z9, h6, h8⟩ | ⟨ht, h5⟩
    · exact ⟨ht.trans hk.symm, fun _ => by rw [h4, h3, h6, inv_uniq h7 h8]⟩
    · exact absurd h5 h1
    · exact absurd h h5
    · exact ⟨ht.trans hk.symm, fun h0 => absurd (hk.symm.trans h0) (by decide +kernel)⟩
  refine lv_iload hx hb dL_law_836 (lv_at hl 1 rfl) ?_
  refine lv_icmp_eq (tgt := 843) hx hb dL_law_838 (by decide) (fun _ => ?_) (fun hcc => absurd (hEq.1) hcc)
  refine lv_iload hx hb dL_law_843 (lv_at hl 1 rfl) ?_
  refine lv_if_ne (tgt := 860) hx hb dL_law_845 (by decide) (fun hc845 => ?_) (fun hc845 => ?_)
  · refine lv_goto (tgt := 931) hx hb dL_law_860 (by decide) ?_
    exact law_end C0 (by decide) (by decide) hS (lv_sub hl [2, 6] rfl)
  · have hk0 : k9 = nI 0 := hc845.trans nI_0.symm
    refine lv_aload_n hx hb dL_law_848 rfl (lv_at hl 3 rfl) ?_
    refine lv_iconst (v := nI 0) hx hb dL_law_849 (by decide +kernel) ?_
    refine va_lald hx hb hK hPo 0 1 rfl rfl (vp_in_nI (by decide) (by decide)) dL_law_850 ?_
    refine zz_l (y := f9 0) (congrArg f9 (nI_clamp (by decide))) ?_
    refine lv_iload hx hb dL_law_851 (lv_at hl 0 rfl) ?_
    refine lv_i2l (v := b6.toInt64) hx hb dL_law_853 (rfl) ?_
    refine W.lcmp hx hb dL_law_854 ?_
    refine lv_if_eq (tgt := 860) hx hb dL_law_855 (by decide) (fun _ => ?_) (fun hcc => absurd ((lc_eq _ _).mpr (hEq.2 hk0)) hcc)
    refine lv_goto (tgt := 931) hx hb dL_law_860 (by decide) ?_
    exact law_end C0 (by decide) (by decide) hS (lv_sub hl [2, 6] rfl)

set_option maxHeartbeats 4000000 in
set_option maxRecDepth 100000 in
/-- the turn of lift -/
theorem law_11 {p : Program} {l : Launch} {e : Env} {s : State} {m : MethodId} {below : List Frame} {meth : Method} {c : Code} {b : Nat} {xs : Nat → Int32} (hnt : l.stackTraces = false) (C0 : lw_At p s m meth c b 5 xs) {dC : Nat → ClassId} {dI : Nat → Nat → Nat} {ad : Nat → Nat} {g : Nat → Option Nat} {ck : Nat → ClassId} {sa : Nat → Nat} {L : List Nat} {pr : Nat} {adm : Nat → Nat} {ckm : Nat → ClassId} {Lm : List Nat} {ln : Nat → Nat} {o : Nat} (hok : cOk ad g L pr) (hmok : mOk adm Lm ln pr) (hK : va_K (dC, dI) vwCl (cT ck) s) (hKm : va_K (dC, dI) vwCl (mT ckm) s) (hX9 : cX sa (fun q : Nat => s.heap.size ≤ q) s s.heap) (hN9 : lNc s) {H : Heap} {locs : List Loc} (hP : va_P (dC, dI) vwCl ((((o, zL (ck 1) 1) :: cwX ad g ck pr (nI 0)) ++ va_pl L (fun _ => zI (ck 0))) ++ (mW adm ckm Lm ln pr (nI 0) (nI 0))) H) (hD : va_D (fun q : Nat => s.heap.size ≤ q) ((((o, zL (ck 1) 1) :: cwX ad g ck pr (nI 0)) ++ va_pl L (fun _ => zI (ck 0))) ++ (mW adm ckm Lm ln pr (nI 0) (nI 0)))) (hS : va_S (fun q : Nat => s.heap.size ≤ q) s.heap H locs) {ls : Array Slot} (hl : lv_has ls 7 [(4, .int (nI 1)), (3, .ref o), (2, .ref (adm 0)), (1, .ref (ad 0)), (0, .ref b)]) : W p l e room_1 s m #[Value.ref b] below meth c H locs 294 17270 (lw_Z below #[Value.ref b] s) (F0 m 863 ls []) := by
  obtain ⟨hx, hb, hr, hml, hown, hts, hX, hbl, hlocks, hgv⟩ := id C0
  have hown : s.vm.findClass RL = some m.cls := hown
  have hA : ∀ q : Nat, s.heap.size ≤ q → (fun q : Nat => s.heap.size ≤ q) q := fun _ h => h
  have hbA : ¬ (fun q : Nat => s.heap.size ≤ q) b := Nat.not_le.mpr hbl
  refine lv_aload_n hx hb dL_law_863 rfl (lv_at hl 3 rfl) ?_
  refine lv_aload_n hx hb dL_law_864 rfl (lv_at hl 4 rfl) ?_
  refine lv_iload hx hb dL_law_865 (lv_at hl 0 rfl) ?_
  refine lv_iconst (v := nI 1) hx hb dL_law_867 (by decide +kernel) ?_
  refine lv_iadd hx hb dL_law_868 ?_
  refine zz_i (y := nI 2) (by decide +kernel) ?_
  refine va_sld hx hb hX hbl hbA hS (vp_in_nI (by decide) (by decide)) dL_law_869 ?_
  refine zz_i (y := xs 2) (congrArg xs (nI_clamp (by decide))) ?_
  refine lv_aload_n hx hb dL_law_870 rfl (lv_at hl 4 rfl) ?_
  refine lv_iload hx hb dL_law_871 (lv_at hl 0 rfl) ?_
  refine lv_iconst (v := nI 2) hx hb dL_law_873 (by decide +kernel) ?_
  refine lv_iadd hx hb dL_law_874 ?_
  refine zz_i (y := nI 3) (by decide +kernel) ?_
  refine va_sld hx hb hX hbl hbA hS (vp_in_nI (by decide) (by decide)) dL_law_875 ?_
  refine zz_i (y := xs 3) (congrArg xs (nI_clamp (by decide))) ?_
  refine lv_aload_n hx hb dL_law_876 rfl (lv_at hl 1 rfl) ?_
  have hPh := wl_P hP
  have hDh := wl_D hD
  refine va_calli (vx_runSW (As := [.ref (ad 0), .int (xs 2), .int (xs 3), .ref o]) (rest := []) ⟨hx, hb, hml, hown, hts⟩ (c_L_lift l hnt dC dI ad g ck sa L pr hok o H.size (xs 2) (xs 3)) (vx_cwSW 4 hts (gT_app (gT_of (by decide +kernel)) (gT_c (by decide +kernel) gT_l)) rfl rfl rfl (by decide +kernel) ⟨Nat.le_of_ble_eq_true rfl, Nat.le_of_ble_eq_true rfl⟩) ⟨lh_blind, lh_of hPh hK hDh hS hA hX9 hN9⟩ rfl rfl hl.1 rfl (lv_room (Nat.le_of_ble_eq_true rfl)) dL_law_877 ⟨Nat.le_of_ble_eq_true rfl, Nat.le_of_ble_eq_true rfl⟩) hS (fun q _ h => cF hDh hS hA q h) (cF hDh hS hA) (fun k9 f9 t Ha locsa ht hvm hw hB hz hk hS => ?_)
  have hPo : va_P (dC, dI) vwCl [(o, .inl (ck 1, 1, .inr (.inl f9)))] Ha := by rw [← ht]; exact hB
  have hPm : va_P (dC, dI) vwCl (mW adm ckm Lm ln pr (nI 0) (nI 0)) Ha := wr_kept hP hD hk
  have hDm : va_D (fun q : Nat => s.heap.size ≤ q) (mW adm ckm Lm ln pr (nI 0) (nI 0)) := wr_D hD
  have hoM : ¬ va_A (mW adm ckm Lm ln pr (nI 0) (nI 0)) Ha.size o := o_no hP hD rfl hz
  refine W.widen (k := 295) (n := 17276) (by decide) (by decide) ?_
  clear ht hvm hz hk hB
  refine lv_istore (lv' := [(5, .int k9), (4, .int (nI 1)), (3, .ref o), (2, .ref (adm 0)), (1, .ref (ad 0)), (0, .ref b)]) hx hb dL_law_880 hl (by decide) rfl (fun ls hl => ?_)
  refine lv_aload_n hx hb dL_law_882 rfl (lv_at hl 3 rfl) ?_
  refine lv_aload_n hx hb dL_law_883 rfl (lv_at hl 5 rfl) ?_
  refine lv_iload hx hb dL_law_884 (lv_at hl 1 rfl) ?_
  refine lv_iconst (v := nI 1) hx hb dL_law_886 (by decide +kernel) ?_
  refine lv_iadd hx hb dL_law_887 ?_
  refine zz_i (y := nI 2) (by decide +kernel) ?_
  refine va_sld hx hb hX hbl hbA hS (vp_in_nI (by decide) (by decide)) dL_law_888 ?_
  refine zz_i (y := xs 2) (congrArg xs (nI_clamp (by decide))) ?_
  refine lv_aload_n hx hb dL_law_889 rfl (lv_at hl 5 rfl) ?_
  refine lv_iload hx hb dL_law_890 (lv_at hl 1 rfl) ?_
  refine lv_iconst (v := nI 2) hx hb dL_law_892 (by decide +kernel) ?_
  refine lv_iadd hx hb dL_law_893 ?_
  refine zz_i (y := nI 3) (by decide +kernel) ?_
  refine va_sld hx hb hX hbl hbA hS (vp_in_nI (by decide) (by decide)) dL_law_894 ?_
  refine zz_i (y := xs 3) (congrArg xs (nI_clamp (by decide))) ?_
  refine va_calli (va_runV (As := [.int (xs 2), .int (xs 3)]) (rest := []) ⟨hx, hb, hml, hown, hts⟩ (c_X5_lift l dC dI adm ckm Lm ln pr hmok Ha.size (nI 0) (xs 2) (xs 3)) (cwV 2 hts (gT_app (gT_of (by decide +kernel)) (gT_c (by decide +kernel) gT_m)) rfl rfl rfl (by decide +kernel) ⟨Nat.le_of_ble_eq_true rfl, Nat.le_of_ble_eq_true rfl⟩) ⟨mP_blind, va_recv hKm hPm (ci := 6) (q0 := 0) rfl rfl, mP_of hPm hKm hDm⟩ rfl rfl hl.1 rfl (lv_room (Nat.le_of_ble_eq_true rfl)) dL_law_895 ⟨Nat.le_of_ble_eq_true rfl, Nat.le_of_ble_eq_true rfl⟩) hS (fun q _ h => cF hDm hS hA q h) (cF hDm hS hA) (fun b6 u t Hb locsb ht hvm hm hB hz hk hS => ?_)
  obtain ⟨th9, gv9⟩ := u
  have hPt : va_P (dC, dI) vwCl (mO adm pr th9 gv9) Hb := by rw [← ht]; exact hB
  have hPo := out_kept hPo hoM hk
  clear hk hz
  refine lv_istore (lv' := [(6, .int b6), (5, .int k9), (4, .int (nI 1)), (3, .ref o), (2, .ref (adm 0)), (1, .ref (ad 0)), (0, .ref b)]) hx hb dL_law_898 hl (by decide) rfl (fun ls hl => ?_)
  refine lv_aload_n hx hb dL_law_900 rfl (lv_at hl 4 rfl) ?_
  refine pc_i (va_runV (As := []) (rest := []) ⟨hx, hb, hml, hown, hts⟩ (c_X5_thrown l dC dI adm pr th9 gv9) (cwV 0 hts (gT_app (gT_of (by decide +kernel)) (gT_c (by decide +kernel) gT_m)) rfl rfl rfl (by decide +kernel) ⟨Nat.le_of_ble_eq_true rfl, Nat.le_of_ble_eq_true rfl⟩) ⟨fun a U g mk h => ⟨h.1, h.2.1, va_K.moved (u := U) (U := U.calling g mk a) (Vm.Alike.refl U.vm) h.2.2⟩, va_recv hKm hPt (ci := 6) (q0 := 0) rfl rfl, fun U hU hW => ⟨rfl, by rw [hU]; exact hPt, va_K.moved hW.alike (hKm.sub [] rfl)⟩⟩ rfl rfl hl.1 rfl (lv_room (Nat.le_of_ble_eq_true rfl)) dL_law_901 ⟨Nat.le_of_ble_eq_true rfl, Nat.le_of_ble_eq_true rfl⟩) hS (fun r75 Hc locsc hr75 hz hk hS => ?_)
  subst hr75
  have hPo := hPo.kept (fun k x hx => hk x.1 ((hPo k x hx).lt))
  have hEq : r75 = k9 ∧ (k9 = nI 0 → f9 0 = b6.toInt64) := by
    rcases hw with ⟨-, r, h, -⟩ | hk
    · exact h.elim
    · exact ⟨(show r75 = nI 1 from hm).trans hk.symm, fun h0 => absurd (hk.symm.trans h0) (by decide +kernel)⟩
  refine lv_iload hx hb dL_law_904 (lv_at hl 1 rfl) ?_
  refine lv_icmp_eq (tgt := 911) hx hb dL_law_906 (by decide) (fun _ => ?_) (fun hcc => absurd (hEq.1) hcc)
  refine lv_iload hx hb dL_law_911 (lv_at hl 1 rfl) ?_
  refine lv_if_ne (tgt := 928) hx hb dL_law_913 (by decide) (fun hc913 => ?_) (fun hc913 => ?_)
  · refine lv_goto (tgt := 931) hx hb dL_law_928 (by decide) ?_
    exact law_end C0 (by decide) (by decide) hS (lv_sub hl [2, 6] rfl)
  · have hk0 : k9 = nI 0 := hc913.trans nI_0.symm
    refine lv_aload_n hx hb dL_law_916 rfl (lv_at hl 3 rfl) ?_
    refine lv_iconst (v := nI 0) hx hb dL_law_917 (by decide +kernel) ?_
    refine va_lald hx hb hK hPo 0 1 rfl rfl (vp_in_nI (by decide) (by decide)) dL_law_918 ?_
    refine zz_l (y := f9 0) (congrArg f9 (nI_clamp (by decide))) ?_
    refine lv_iload hx hb dL_law_919 (lv_at hl 0 rfl) ?_
    refine lv_i2l (v := b6.toInt64) hx hb dL_law_921 (rfl) ?_
    refine W.lcmp hx hb dL_law_922 ?_
    refine lv_if_eq (tgt := 928) hx hb dL_law_923 (by decide) (fun _ => ?_) (fun hcc => absurd ((lc_eq _ _).mpr (hEq.2 hk0)) hcc)
    refine lv_goto (tgt := 931) hx hb dL_law_928 (by decide) ?_
    exact law_end C0 (by decide) (by decide) hS (lv_sub hl [2, 6] rfl)
