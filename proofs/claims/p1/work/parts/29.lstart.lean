set_option maxHeartbeats 4000000 in
set_option maxRecDepth 100000 in
/-- the law on every script of at most 5 ints -/
theorem whole_start {p : Program} {e : Env} {s : State} {m : MethodId} {below : List Frame} {meth : Method} {c : Code} (l : Launch) (hnt : l.stackTraces = false) {b L : Nat} {xs : Nat → Int32} (hL : L ≤ 5) (C0 : lw_At p s m meth c b L xs) : W p l e room_1 s m #[Value.ref b] below meth c s.heap [] 0 0 (lw_Z below #[Value.ref b] s) (entryFrame m ([Value.ref b] : List Value).toArray 7) := by
  obtain ⟨hx, hb, hr, hml, hown, hts, hX, hbl, hlocks, hgv⟩ := id C0
  have hown : s.vm.findClass RL = some m.cls := hown
  have hfl := flat_of_before _ hgv
  have hA : ∀ q : Nat, s.heap.size ≤ q → (fun q : Nat => s.heap.size ≤ q) q := fun _ h => h
  have hA0 : ∀ q : Nat, q < s.heap.size → ¬ (fun q : Nat => s.heap.size ≤ q) q := fun _ h => Nat.not_le.mpr h
  have hbA : ¬ (fun q : Nat => s.heap.size ≤ q) b := Nat.not_le.mpr hbl
  obtain ⟨c_J, i_J, hKnJ⟩ := u_known (C := RJx00060) (T := TJx00060) (N := 6) (n := 6) hts iTJ (hts (.instantiable RJx00060 6) (by decide +kernel))
  obtain ⟨c_0, i_0, hKn0⟩ := u_known (C := RX0) (T := TX0) (N := 5) (n := 5) hts iT0 (hts (.instantiable RX0 5) (by decide +kernel))
  obtain ⟨c_1, i_1, hKn1⟩ := u_known (C := RX1) (T := TX1) (N := 9) (n := 9) hts iT1 (hts (.instantiable RX1 9) (by decide +kernel))
  obtain ⟨c_2, i_2, hKn2⟩ := u_known (C := RX2) (T := TX2) (N := 4) (n := 4) hts iT2 (hts (.instantiable RX2 4) (by decide +kernel))
  obtain ⟨c_3, i_3, hKn3⟩ := u_known (C := RX3) (T := TX3) (N := 13) (n := 13) hts iT3 (hts (.instantiable RX3 13) (by decide +kernel))
  obtain ⟨c_4, i_4, hKn4⟩ := u_known (C := RX4) (T := TX4) (N := 10) (n := 10) hts iT4 (hts (.instantiable RX4 10) (by decide +kernel))
  obtain ⟨c_5, i_5, hKn5⟩ := u_known (C := RX5) (T := TX5) (N := 36) (n := 36) hts iT5 (hts (.instantiable RX5 36) (by decide +kernel))
  obtain ⟨dC, dI, hKc⟩ : ∃ (dC : Nat → ClassId) (dI : Nat → Nat → Nat), ∀ (k : Nat) (q : vw_C), vwCl[k]? = some q → u_Kn s q.1 q.2.1 q.2.2 (dC k) (dI k) := by
    refine ⟨fun k => match k with | 0 => c_J | 1 => c_0 | 2 => c_1 | 3 => c_2 | 4 => c_3 | 5 => c_4 | _ => c_5, fun k => match k with | 0 => i_J | 1 => i_0 | 2 => i_1 | 3 => i_2 | 4 => i_3 | 5 => i_4 | _ => i_5, ?_⟩
    intro k q hq
    match k, hq with
    | 0, hq => cases hq; exact hKnJ
    | 1, hq => cases hq; exact hKn0
    | 2, hq => cases hq; exact hKn1
    | 3, hq => cases hq; exact hKn2
    | 4, hq => cases hq; exact hKn3
    | 5, hq => cases hq; exact hKn4
    | 6, hq => cases hq; exact hKn5
    | k + 7, hq => simp [vwCl] at hq
  obtain ⟨cI, kI, mI, fI, gI, eI⟩ := Cond.arrayClass_spec (hts (.arrayClass .int) (by decide +kernel))
  obtain ⟨cJ, kJ, mJ, fJ, gJ, eJ⟩ := Cond.arrayClass_spec (hts (.arrayClass .long) (by decide +kernel))
  have hKb : va_K (dC, dI) vwCl [(cI, .int), (cJ, .long)] s := ⟨hKc, fun k q h => by
    match k, h with
    | 0, h => cases h; exact ⟨fun n z => ⟨fun k h => (by cases h), kI, gI, mI, eI⟩, fI⟩
    | 1, h => cases h; exact ⟨fun n z => ⟨fun k h => (by cases h), kJ, gJ, mJ, eJ⟩, fJ⟩
    | k + 2, h => simp at h⟩
  have hO : va_AOA .int s := va_AOA.of (hts (.arrayOver (.array .int)) (by decide +kernel))
  obtain ⟨a0, hs0⟩ := cx_use (hts (.stringRef RX4 181 "no such polynomial") (by decide +kernel)) (hfl (.exactly (.string RX4 181) "java/lang/String") (by decide +kernel))
  obtain ⟨a1, hs1⟩ := cx_use (hts (.stringRef RX4 184 "no such coefficient") (by decide +kernel)) (hfl (.exactly (.string RX4 184) "java/lang/String") (by decide +kernel))
  obtain ⟨a2, hs2⟩ := cx_use (hts (.stringRef RX4 186 "no such factor") (by decide +kernel)) (hfl (.exactly (.string RX4 186) "java/lang/String") (by decide +kernel))
  obtain ⟨a3, hs3⟩ := cx_use (hts (.stringRef RX4 110 "what is neither 0 nor 1") (by decide +kernel)) (hfl (.exactly (.string RX4 110) "java/lang/String") (by decide +kernel))
  obtain ⟨a4, hs4⟩ := cx_use (hts (.stringRef RX4 114 "the divisor is 0") (by decide +kernel)) (hfl (.exactly (.string RX4 114) "java/lang/String") (by decide +kernel))
  obtain ⟨a5, hs5⟩ := cx_use (hts (.stringRef RX4 164 "0 has no inverse") (by decide +kernel)) (hfl (.exactly (.string RX4 164) "java/lang/String") (by decide +kernel))
  have hX9 : cX (adOf [a0, a1, a2, a3, a4, a5]) (fun q : Nat => s.heap.size ≤ q) s s.heap := ⟨fun w hw => va_Nw.of (cNL_on w hw) (hts w (cNL_tbl w hw)), ⟨vx_Zqof (hts (.laysStatic Bundle.tN "UNASSIGNED_STACK" Bundle.steD) (by decide +kernel)) (hts (.initialized Bundle.tN) (by decide +kernel)) (hfl (.isRef (.static Bundle.tN "UNASSIGNED_STACK" Bundle.steD)) (by decide +kernel)) hA0, vx_Zqof (hts (.laysStatic Bundle.tN "SUPPRESSED_SENTINEL" Bundle.listD) (by decide +kernel)) (hts (.initialized Bundle.tN) (by decide +kernel)) (hfl (.isRef (.static Bundle.tN "SUPPRESSED_SENTINEL" Bundle.listD)) (by decide +kernel)) hA0⟩, hs0, hs1, hs2, hs3, hs4, hs5⟩
  generalize adOf [a0, a1, a2, a3, a4, a5] = sa at hX9
  have hN9 : lNc s := ⟨va_Nc.of (hfl (.not (.castable nmI nmA)) (by decide +kernel)), va_Nc.of (hfl (.not (.castable nmI nmS)) (by decide +kernel)), va_Nc.of (hfl (.not (.castable nmE nmA)) (by decide +kernel)), va_Nc.of (hfl (.not (.castable nmE nmS)) (by decide +kernel)), va_Nc.of (hfl (.not (.castable nmE nmI)) (by decide +kernel))⟩
  have hS : va_S (fun q : Nat => s.heap.size ≤ q) s.heap s.heap [] := va_S.rf
  have hP : va_P (dC, dI) vwCl [] s.heap := fun k q h => by simp at h
  have hD : va_D (fun q : Nat => s.heap.size ≤ q) [] := ⟨fun i j p q h => by simp at h, fun k q h => by simp at h⟩
  have hl := lv_entry ([.ref b]) (n := 7) (Nat.le_of_ble_eq_true rfl)
  rw [lg_entry_eq]
  generalize (lg_sl ([.ref b]) ++ List.replicate (7 - (lg_sl ([.ref b])).length) Slot.unset).toArray = ls at hl ⊢
  have hl : lv_has ls 7 [(0, .ref b)] := hl
  refine va_new (D := (dC, dI)) (ci := 5) (fs := [.int 0, .null, .null, .null, .null, .null, .null, .null, .null, .int 0]) (C := RX4) (T := TX4) (N := 10) hx hb hts iT4 tyX4 tyX4_ok hown (hts (.classLink RL 8 RX4) (by decide +kernel)) (hts (.instantiable RX4 10) (by decide +kernel)) (hts (.initialized RX4) (by decide +kernel)) hKb hP hD hS hA rfl (fun j hj => by rcases (show j = 0 ∨ j = 1 ∨ j = 2 ∨ j = 3 ∨ j = 4 ∨ j = 5 ∨ j = 6 ∨ j = 7 ∨ j = 8 ∨ j = 9 by omega) with rfl | rfl | rfl | rfl | rfl | rfl | rfl | rfl | rfl | rfl <;> rfl) (Nat.le_of_ble_eq_true rfl) (Nat.le_of_ble_eq_true rfl) dL_law_0 (fun q0 H hP hD hS => ?_)
  have hP : va_P (dC, dI) vwCl [(q0, .inr (5, [.int 0, .null, .null, .null, .null, .null, .null, .null, .null, .int 0]))] H := hP
  have hD : va_D (fun q : Nat => s.heap.size ≤ q) [(q0, .inr (5, [.int 0, .null, .null, .null, .null, .null, .null, .null, .null, .int 0]))] := hD
  refine W.widen (k := 1) (n := 10) (by omega) (by omega) ?_
  refine lv_dup hx hb dL_law_3 rfl ?_
  refine lv_aload_n hx hb dL_law_4 rfl (lv_at hl 0 rfl) ?_
  refine lv_iconst (v := nI 0) hx hb dL_law_5 (by decide +kernel) ?_
  refine pc_i (va_runS (As := [.ref b, .int (nI 0)]) (rest := [.ref q0, .ref q0]) ⟨hx, hb, hml, hown, hts⟩ (c_L_cell l b L (by omega) xs) (va_cwS 2 hts (gT_app (gT_of (by decide +kernel)) (gT_c (by decide +kernel) (fun w h => nomatch h))) rfl rfl rfl (by decide +kernel) ⟨Nat.le_of_ble_eq_true rfl, Nat.le_of_ble_eq_true rfl⟩) ⟨fun a U g mk h => ⟨h.1, va_X.moved (u := U) (U := U.calling g mk a) (Vm.Alike.refl U.vm) h.2.1, h.2.2⟩, fun U hU hW => ⟨rfl, by rw [hU]; exact va_X.moved hW.alike (hX.kept (hS.2.1 b hbl hbA)), by rw [hU]; exact Nat.lt_of_lt_of_le hbl hS.1⟩⟩ rfl rfl hl.1 rfl (lv_room (Nat.le_of_ble_eq_true rfl)) dL_law_6 ⟨Nat.le_of_ble_eq_true rfl, Nat.le_of_ble_eq_true rfl⟩) hS (fun rc H9 locs9 hrc hz9 hk9 hS => ?_)
  have hP := hP.kept (fun k x hx => hk9 x.1 ((hP k x hx).lt))
  generalize H9 = H at hP hS ⊢
  clear hz9 hk9
  have hFq := cF hD hS hA
  refine va_callv (va_runI (As := [.int rc]) (rest := [.ref q0]) ⟨hx, hb, hml, hown, hts⟩ (c_X4_init l dC dI cI cJ q0 H.size rc) (cwI 1 hts (gT_c (by decide +kernel) gT_k) rfl rfl rfl (hts (.initialized RX4) (by decide +kernel)) (hts (.methodLink RL 65 yX4_init) (by decide +kernel)) (hts (.instanceMethod yX4_init) (by decide +kernel)) rfl (by decide +kernel) ⟨Nat.le_of_ble_eq_true rfl, Nat.le_of_ble_eq_true rfl⟩) ⟨nP_blind, fun U hU hW => ⟨rfl, by rw [hU], by rw [hU]; exact hP, va_K.moved hW.alike hKb, hD.weaken (fun _ _ _ _ => trivial), va_AOA.moved hW.alike hO⟩⟩ rfl rfl hl.1 rfl (lv_room (Nat.le_of_ble_eq_true rfl)) dL_law_9 ⟨Nat.le_of_ble_eq_true rfl, Nat.le_of_ble_eq_true rfl⟩) hS (fun q _ h => hFq q h) hFq (fun u t H1 locs1 ht hvm hw hB hz hk hS => ?_)
  obtain ⟨adl, g, L4, pr, c2⟩ := u
  obtain ⟨hok, hgp, had⟩ := hw
  obtain ⟨hPc, hDc, hKt⟩ := hB
  dsimp only at hok hgp had hPc hDc hKt
  rw [ht] at hPc
  have hK4 : va_K (dC, dI) vwCl (cT (ckOf cI cJ c2)) s := va_K.moved hvm.symm hKt
  subst had
  have hP : va_P (dC, dI) vwCl (cW (adOf adl) g (ckOf cI cJ c2) L4 pr (nI 0)) H1 := hPc
  have hD : va_D (fun q : Nat => s.heap.size ≤ q) (cW (adOf adl) g (ckOf cI cJ c2) L4 pr (nI 0)) := hDc.weaken (fun k q _ h => hFq q.1 h)
  generalize adOf adl = ad at hok hP hD ⊢
  generalize H1 = H at hP hS ⊢
  clear hPc hDc hKt hz hk hvm ht hFq
  refine W.widen (k := 252) (n := 8033) (by omega) (by omega) ?_
  refine lv_astore_n (lv' := [(1, .ref (ad 0)), (0, .ref b)]) hx hb dL_law_12 rfl hl (by decide) rfl (fun ls hl => ?_)
  refine va_new (D := (dC, dI)) (ci := 6) (fs := [.int 0, .long 0, .null, .int 0, .null, .null, .null, .null, .int 0, .null, .null, .int 0, .null, .null, .null, .null, .null, .null, .null, .null, .null, .null, .null, .null, .null, .null, .null, .null, .null, .null, .null, .null, .null, .null, .int 0, .long 0]) (C := RX5) (T := TX5) (N := 36) hx hb hts iT5 tyX5 tyX5_ok hown (hts (.classLink RL 68 RX5) (by decide +kernel)) (hts (.instantiable RX5 36) (by decide +kernel)) (hts (.initialized RX5) (by decide +kernel)) hKb hP hD hS hA rfl (fun j hj => by rcases (show j = 0 ∨ j = 1 ∨ j = 2 ∨ j = 3 ∨ j = 4 ∨ j = 5 ∨ j = 6 ∨ j = 7 ∨ j = 8 ∨ j = 9 ∨ j = 10 ∨ j = 11 ∨ j = 12 ∨ j = 13 ∨ j = 14 ∨ j = 15 ∨ j = 16 ∨ j = 17 ∨ j = 18 ∨ j = 19 ∨ j = 20 ∨ j = 21 ∨ j = 22 ∨ j = 23 ∨ j = 24 ∨ j = 25 ∨ j = 26 ∨ j = 27 ∨ j = 28 ∨ j = 29 ∨ j = 30 ∨ j = 31 ∨ j = 32 ∨ j = 33 ∨ j = 34 ∨ j = 35 by omega) with rfl | rfl | rfl | rfl | rfl | rfl | rfl | rfl | rfl | rfl | rfl | rfl | rfl | rfl | rfl | rfl | rfl | rfl | rfl | rfl | rfl | rfl | rfl | rfl | rfl | rfl | rfl | rfl | rfl | rfl | rfl | rfl | rfl | rfl | rfl | rfl <;> rfl) (Nat.le_of_ble_eq_true rfl) (Nat.le_of_ble_eq_true rfl) dL_law_13 (fun q1 H hP hD hS => ?_)
  have hP : va_P (dC, dI) vwCl ((cW ad g (ckOf cI cJ c2) L4 pr (nI 0)) ++ [(q1, .inr (6, [.int 0, .long 0, .null, .int 0, .null, .null, .null, .null, .int 0, .null, .null, .int 0, .null, .null, .null, .null, .null, .null, .null, .null, .null, .null, .null, .null, .null, .null, .null, .null, .null, .null, .null, .null, .null, .null, .int 0, .long 0]))]) H := hP
  have hD : va_D (fun q : Nat => s.heap.size ≤ q) ((cW ad g (ckOf cI cJ c2) L4 pr (nI 0)) ++ [(q1, .inr (6, [.int 0, .long 0, .null, .int 0, .null, .null, .null, .null, .int 0, .null, .null, .int 0, .null, .null, .null, .null, .null, .null, .null, .null, .null, .null, .null, .null, .null, .null, .null, .null, .null, .null, .null, .null, .null, .null, .int 0, .long 0]))]) := hD
  refine W.widen (k := 253) (n := 8069) (by omega) (by omega) ?_
  refine lv_dup hx hb dL_law_16 rfl ?_
  refine lv_aload_n hx hb dL_law_17 rfl (lv_at hl 1 rfl) ?_
  refine lv_iconst (v := nI 0) hx hb dL_law_18 (by decide +kernel) ?_
  refine pc_i (va_runS (As := [.ref b, .int (nI 0)]) (rest := [.ref q1, .ref q1]) ⟨hx, hb, hml, hown, hts⟩ (c_L_cell l b L (by omega) xs) (va_cwS 2 hts (gT_app (gT_of (by decide +kernel)) (gT_c (by decide +kernel) (fun w h => nomatch h))) rfl rfl rfl (by decide +kernel) ⟨Nat.le_of_ble_eq_true rfl, Nat.le_of_ble_eq_true rfl⟩) ⟨fun a U g mk h => ⟨h.1, va_X.moved (u := U) (U := U.calling g mk a) (Vm.Alike.refl U.vm) h.2.1, h.2.2⟩, fun U hU hW => ⟨rfl, by rw [hU]; exact va_X.moved hW.alike (hX.kept (hS.2.1 b hbl hbA)), by rw [hU]; exact Nat.lt_of_lt_of_le hbl hS.1⟩⟩ rfl rfl hl.1 rfl (lv_room (Nat.le_of_ble_eq_true rfl)) dL_law_19 ⟨Nat.le_of_ble_eq_true rfl, Nat.le_of_ble_eq_true rfl⟩) hS (fun rc2 H9 locs9 hrc2 hz9 hk9 hS => ?_)
  have hP := hP.kept (fun k x hx => hk9 x.1 ((hP k x hx).lt))
  generalize H9 = H at hP hS ⊢
  clear hz9 hk9
  obtain rfl : rc = rc2 := hrc.trans hrc2.symm
  have hPr := wr_P hP
  have hDr := wr_D hD
  have hFq := cF hDr hS hA
  refine va_callv (va_runI (As := [.int rc]) (rest := [.ref q1]) ⟨hx, hb, hml, hown, hts⟩ (c_X5_init l dC dI cI cJ q1 H.size rc) (cwI 1 hts (gT_c (by decide +kernel) gT_k) rfl rfl rfl (hts (.initialized RX5) (by decide +kernel)) (hts (.methodLink RL 70 yX5_init) (by decide +kernel)) (hts (.instanceMethod yX5_init) (by decide +kernel)) rfl (by decide +kernel) ⟨Nat.le_of_ble_eq_true rfl, Nat.le_of_ble_eq_true rfl⟩) ⟨nP_blind, fun U hU hW => ⟨rfl, by rw [hU], by rw [hU]; exact hPr, va_K.moved hW.alike hKb, hDr.weaken (fun _ _ _ _ => trivial), va_AOA.moved hW.alike hO⟩⟩ rfl rfl hl.1 rfl (lv_room (Nat.le_of_ble_eq_true rfl)) dL_law_22 ⟨Nat.le_of_ble_eq_true rfl, Nat.le_of_ble_eq_true rfl⟩) hS (fun q _ h => hFq q h) hFq (fun u t H1 locs1 ht hvm hw hB hz hk hS => ?_)
  obtain ⟨adlm, Lm, ln, prm⟩ := u
  obtain ⟨hmok, hgpm, hadm⟩ := hw
  obtain ⟨hPm, hDm⟩ := hB
  dsimp only at hmok hgpm hadm hPm hDm
  rw [ht] at hPm
  obtain rfl : prm = pr := gp_uniq hgpm hgp
  subst hadm
  obtain ⟨hP, hD⟩ := w_join hP hD hk hFq hPm hDm
  generalize adOf adlm = adm at hmok hP hD ⊢
  generalize H1 = H at hP hS ⊢
  clear hPm hDm hz hk hvm ht hFq hPr hDr
  refine W.widen (k := 293) (n := 17269) (by omega) (by omega) ?_
  refine lv_astore_n (lv' := [(2, .ref (adm 0)), (1, .ref (ad 0)), (0, .ref b)]) hx hb dL_law_25 rfl hl (by decide) rfl (fun ls hl => ?_)
  refine lv_iconst (v := nI 1) hx hb dL_law_26 (by decide +kernel) ?_
  refine va_newa (atype := .long) hx hb (hts (.arrayClass .long) (by decide +kernel)) (ty := .long) rfl hKb hP hD hS hA (N' := 1) (a0 := (1, .inr (.inl (fun _ => 0)))) (fun cA => rfl) (by decide +kernel) (by decide +kernel) (by decide) (Nat.le_of_ble_eq_true rfl) (Nat.le_of_ble_eq_true rfl) dL_law_27 (fun o cA H hK3 hP hD hS => ?_)
  obtain rfl : cJ = cA := k_long hK3 1 2 rfl rfl
  have hP9 := va_P.swap (a := []) (b := (cW ad g (ckOf cI cJ c2) L4 prm (nI 0)) ++ (mW adm (ckOf cI cJ cJ) Lm ln prm (nI 0) (nI 0))) (c := [(o, zL cJ 1)]) hP
  have hD9 := va_D.swap (a := []) (b := (cW ad g (ckOf cI cJ c2) L4 prm (nI 0)) ++ (mW adm (ckOf cI cJ cJ) Lm ln prm (nI 0) (nI 0))) (c := [(o, zL cJ 1)]) hD
  have hP : va_P (dC, dI) vwCl ((((o, zL (ckOf cI cJ c2 1) 1) :: cwX ad g (ckOf cI cJ c2) prm (nI 0)) ++ va_pl L4 (fun _ => zI (ckOf cI cJ c2 0))) ++ (mW adm (ckOf cI cJ cJ) Lm ln prm (nI 0) (nI 0))) H := hP9
  have hD : va_D (fun q : Nat => s.heap.size ≤ q) ((((o, zL (ckOf cI cJ c2 1) 1) :: cwX ad g (ckOf cI cJ c2) prm (nI 0)) ++ va_pl L4 (fun _ => zI (ckOf cI cJ c2 0))) ++ (mW adm (ckOf cI cJ cJ) Lm ln prm (nI 0) (nI 0))) := hD9
  refine W.widen (k := 294) (n := 17270) (by omega) (by omega) ?_
  have hKm : va_K (dC, dI) vwCl (mT (ckOf cI cJ cJ)) s := hKb.sub [1] rfl
  refine lv_astore_n (lv' := [(3, .ref o), (2, .ref (adm 0)), (1, .ref (ad 0)), (0, .ref b)]) hx hb dL_law_29 rfl hl (by decide) rfl (fun ls hl => ?_)
  refine lv_iconst (v := nI 1) hx hb dL_law_30 (by decide +kernel) ?_
  refine lv_istore (lv' := [(4, .int (nI 1)), (3, .ref o), (2, .ref (adm 0)), (1, .ref (ad 0)), (0, .ref b)]) hx hb dL_law_31 hl (by decide) rfl (fun ls hl => ?_)
  rcases (show L = 0 ∨ L = 1 ∨ L = 2 ∨ L = 3 ∨ L = 4 ∨ L = 5 by omega) with rfl | rfl | rfl | rfl | rfl | rfl
  · refine lv_iload hx hb dL_law_33 (lv_at hl 0 rfl) ?_
    refine lv_aload_n hx hb dL_law_35 rfl (lv_at hl 4 rfl) ?_
    refine va_slen hx hb hX hbl hbA hS dL_law_36 ?_
    refine zz_i (y := nI 0) (rfl) ?_
    refine lv_iconst (v := nI 4) hx hb dL_law_37 (by decide +kernel) ?_
    refine lv_isub hx hb dL_law_38 ?_
    refine lv_icmp_gt (tgt := 937) hx hb dL_law_39 (by decide) (fun _ => ?_) (fun hcc => absurd (by decide +kernel) hcc)
    refine lv_iconst (v := 1) hx hb dL_law_937 (by decide +kernel) ?_
    refine va_forget (fun q hq => hS.2.2 q hq) ?_
    refine W.widen (k := 600002) (n := 7302198) (by decide) (by decide) ?_
    exact lw_ret hx hb hr hlocks dL_law_938
  · refine lv_iload hx hb dL_law_33 (lv_at hl 0 rfl) ?_
    refine lv_aload_n hx hb dL_law_35 rfl (lv_at hl 4 rfl) ?_
    refine va_slen hx hb hX hbl hbA hS dL_law_36 ?_
    refine zz_i (y := nI 1) (rfl) ?_
    refine lv_iconst (v := nI 4) hx hb dL_law_37 (by decide +kernel) ?_
    refine lv_isub hx hb dL_law_38 ?_
    refine lv_icmp_gt (tgt := 937) hx hb dL_law_39 (by decide) (fun _ => ?_) (fun hcc => absurd (by decide +kernel) hcc)
    refine lv_iconst (v := 1) hx hb dL_law_937 (by decide +kernel) ?_
    refine va_forget (fun q hq => hS.2.2 q hq) ?_
    refine W.widen (k := 600002) (n := 7302198) (by decide) (by decide) ?_
    exact lw_ret hx hb hr hlocks dL_law_938
  · refine lv_iload hx hb dL_law_33 (lv_at hl 0 rfl) ?_
    refine lv_aload_n hx hb dL_law_35 rfl (lv_at hl 4 rfl) ?_
    refine va_slen hx hb hX hbl hbA hS dL_law_36 ?_
    refine zz_i (y := nI 2) (rfl) ?_
    refine lv_iconst (v := nI 4) hx hb dL_law_37 (by decide +kernel) ?_
    refine lv_isub hx hb dL_law_38 ?_
    refine lv_icmp_gt (tgt := 937) hx hb dL_law_39 (by decide) (fun _ => ?_) (fun hcc => absurd (by decide +kernel) hcc)
    refine lv_iconst (v := 1) hx hb dL_law_937 (by decide +kernel) ?_
    refine va_forget (fun q hq => hS.2.2 q hq) ?_
    refine W.widen (k := 600002) (n := 7302198) (by decide) (by decide) ?_
    exact lw_ret hx hb hr hlocks dL_law_938
  · refine lv_iload hx hb dL_law_33 (lv_at hl 0 rfl) ?_
    refine lv_aload_n hx hb dL_law_35 rfl (lv_at hl 4 rfl) ?_
    refine va_slen hx hb hX hbl hbA hS dL_law_36 ?_
    refine zz_i (y := nI 3) (rfl) ?_
    refine lv_iconst (v := nI 4) hx hb dL_law_37 (by decide +kernel) ?_
    refine lv_isub hx hb dL_law_38 ?_
    refine lv_icmp_gt (tgt := 937) hx hb dL_law_39 (by decide) (fun _ => ?_) (fun hcc => absurd (by decide +kernel) hcc)
    refine lv_iconst (v := 1) hx hb dL_law_937 (by decide +kernel) ?_
    refine va_forget (fun q hq => hS.2.2 q hq) ?_
    refine W.widen (k := 600002) (n := 7302198) (by decide) (by decide) ?_
    exact lw_ret hx hb hr hlocks dL_law_938
  · refine lv_iload hx hb dL_law_33 (lv_at hl 0 rfl) ?_
    refine lv_aload_n hx hb dL_law_35 rfl (lv_at hl 4 rfl) ?_
    refine va_slen hx hb hX hbl hbA hS dL_law_36 ?_
    refine zz_i (y := nI 4) (rfl) ?_
    refine lv_iconst (v := nI 4) hx hb dL_law_37 (by decide +kernel) ?_
    refine lv_isub hx hb dL_law_38 ?_
    refine lv_icmp_gt (tgt := 937) hx hb dL_law_39 (by decide) (fun _ => ?_) (fun hcc => absurd (by decide +kernel) hcc)
    refine lv_iconst (v := 1) hx hb dL_law_937 (by decide +kernel) ?_
    refine va_forget (fun q hq => hS.2.2 q hq) ?_
    refine W.widen (k := 600002) (n := 7302198) (by decide) (by decide) ?_
    exact lw_ret hx hb hr hlocks dL_law_938
  · refine lv_iload hx hb dL_law_33 (lv_at hl 0 rfl) ?_
    refine lv_aload_n hx hb dL_law_35 rfl (lv_at hl 4 rfl) ?_
    refine va_slen hx hb hX hbl hbA hS dL_law_36 ?_
    refine zz_i (y := nI 5) (rfl) ?_
    refine lv_iconst (v := nI 4) hx hb dL_law_37 (by decide +kernel) ?_
    refine lv_isub hx hb dL_law_38 ?_
    refine zz_i (y := nI 1) (by decide +kernel) ?_
    refine lv_icmp_gt (tgt := 937) hx hb dL_law_39 (by decide) (fun hcc => absurd hcc (by decide +kernel)) (fun _ => ?_)
    refine lv_aload_n hx hb dL_law_42 rfl (lv_at hl 4 rfl) ?_
    refine lv_iload hx hb dL_law_43 (lv_at hl 0 rfl) ?_
    refine va_sld hx hb hX hbl hbA hS (vp_in_nI (by decide) (by decide)) dL_law_45 ?_
    refine zz_i (y := xs 1) (congrArg xs (nI_clamp (by decide))) ?_
    refine lv_bipush (v := nI 15) hx hb dL_law_46 (by decide +kernel) ?_
    obtain ⟨j, hj, ej⟩ := pk_andE (xs 1) (m := nI 15) 4 (by decide +kernel)
    refine lv_iand hx hb dL_law_48 ?_
    refine zz_i (y := nI j) (ej) ?_
    rcases (show j = 0 ∨ j = 1 ∨ j = 2 ∨ j = 3 ∨ j = 4 ∨ j = 5 ∨ j = 6 ∨ j = 7 ∨ j = 8 ∨ j = 9 ∨ j = 10 ∨ j = 11 ∨ j = 12 ∨ j = 13 ∨ j = 14 ∨ j = 15 by omega) with rfl | rfl | rfl | rfl | rfl | rfl | rfl | rfl | rfl | rfl | rfl | rfl | rfl | rfl | rfl | rfl
    · refine lv_tableIn (off := 63) (tgt := 112) hx hb dL_law_49 (by decide +kernel) (by decide +kernel) (by decide +kernel) (by decide) ?_
      exact law_0 hnt C0 hok hmok hK4 hKm hX9 hN9 hP hD hS hl
    · refine lv_tableIn (off := 107) (tgt := 156) hx hb dL_law_49 (by decide +kernel) (by decide +kernel) (by decide +kernel) (by decide) ?_
      exact law_1 hnt C0 hok hmok hK4 hKm hX9 hN9 hP hD hS hl
    · refine lv_tableIn (off := 194) (tgt := 243) hx hb dL_law_49 (by decide +kernel) (by decide +kernel) (by decide +kernel) (by decide) ?_
      exact law_2 hnt C0 hok hmok hK4 hKm hX9 hN9 hP hD hS hl
    · refine lv_tableIn (off := 262) (tgt := 311) hx hb dL_law_49 (by decide +kernel) (by decide +kernel) (by decide +kernel) (by decide) ?_
      exact law_3 hnt C0 hok hmok hK4 hKm hX9 hN9 hP hD hS hl
    · refine lv_tableIn (off := 342) (tgt := 391) hx hb dL_law_49 (by decide +kernel) (by decide +kernel) (by decide +kernel) (by decide) ?_
      exact law_4 hnt C0 hok hmok hK4 hKm hX9 hN9 hP hD hS hl
    · refine lv_tableIn (off := 410) (tgt := 459) hx hb dL_law_49 (by decide +kernel) (by decide +kernel) (by decide +kernel) (by decide) ?_
      exact law_5 hnt C0 hok hmok hK4 hKm hX9 hN9 hP hD hS hl
    · refine lv_tableIn (off := 510) (tgt := 559) hx hb dL_law_49 (by decide +kernel) (by decide +kernel) (by decide +kernel) (by decide) ?_
      exact law_6 hnt C0 hok hmok hK4 hKm hX9 hN9 hP hD hS hl
    · refine lv_tableIn (off := 566) (tgt := 615) hx hb dL_law_49 (by decide +kernel) (by decide +kernel) (by decide +kernel) (by decide) ?_
      exact law_7 hnt C0 hok hmok hK4 hKm hX9 hN9 hP hD hS hl
    · refine lv_tableIn (off := 622) (tgt := 671) hx hb dL_law_49 (by decide +kernel) (by decide +kernel) (by decide +kernel) (by decide) ?_
      exact law_8 hnt C0 hok hmok hK4 hKm hX9 hN9 hP hD hS hl
    · refine lv_tableIn (off := 690) (tgt := 739) hx hb dL_law_49 (by decide +kernel) (by decide +kernel) (by decide +kernel) (by decide) ?_
      exact law_9 hnt C0 hok hmok hK4 hKm hX9 hN9 hP hD hS hl
    · refine lv_tableIn (off := 758) (tgt := 807) hx hb dL_law_49 (by decide +kernel) (by decide +kernel) (by decide +kernel) (by decide) ?_
      exact law_10 hnt C0 hok hmok hK4 hKm hX9 hN9 hP hD hS hl
    · refine lv_tableIn (off := 814) (tgt := 863) hx hb dL_law_49 (by decide +kernel) (by decide +kernel) (by decide +kernel) (by decide) ?_
      exact law_11 hnt C0 hok hmok hK4 hKm hX9 hN9 hP hD hS hl
    · refine lv_tableOut (tgt := 931) hx hb dL_law_49 (by decide +kernel) (by decide) ?_
      exact law_end C0 (by decide) (by decide) hS (lv_sub hl [0, 4] rfl)
    · refine lv_tableOut (tgt := 931) hx hb dL_law_49 (by decide +kernel) (by decide) ?_
      exact law_end C0 (by decide) (by decide) hS (lv_sub hl [0, 4] rfl)
    · refine lv_tableOut (tgt := 931) hx hb dL_law_49 (by decide +kernel) (by decide) ?_
      exact law_end C0 (by decide) (by decide) hS (lv_sub hl [0, 4] rfl)
    · refine lv_tableOut (tgt := 931) hx hb dL_law_49 (by decide +kernel) (by decide) ?_
      exact law_end C0 (by decide) (by decide) hS (lv_sub hl [0, 4] rfl)
