set_option maxHeartbeats 4000000 in
set_option maxRecDepth 100000 in
/-- isOddPrime(n), n above 2: whether n is a prime -/
theorem c_X4_isOddPrime (l : Launch) {N : Nat} (hN3 : 3 ≤ N) (hN31 : N < 2 ^ 31) : Met l yX4_isOddPrime wsX4_isOddPrime ({ frames := 0, cells := 0, slots := 0, locals := 0 }) (pPc [.int (nI N)]) (pQi (fun r => (r = nI 1 ∧ isPr N) ∨ (r = nI 0 ∧ ¬ isPr N))) 0 0 (fun _ => False) := by
  refine Met.ofW (cc := cX4_isOddPrime) (maxL := 2) (ret := (some .boolean)) (by decide +kernel) rfl ?_
  intro p e s m args below meth c s₁ B hml hv
  obtain ⟨rfl, -⟩ := hv
  have hx := B.exec
  have hb := B.bytes
  have hr := B.returns
  have hts := atoms_spec (ws := wsX4_isOddPrime) B.pre
  have hown : s.vm.findClass RX4 = some m.cls := findClass_of_methodNamed B.named
  have hlocks := B.notSynchronized
  have hS : va_S (fun _ => False) s.heap s.heap [] := va_S.rf
  have hl := lv_entry ([.int (nI N)]) (n := 2) (Nat.le_of_ble_eq_true rfl)
  rw [lg_entry_eq]
  generalize (lg_sl ([.int (nI N)]) ++ List.replicate (2 - (lg_sl ([.int (nI N)])).length) Slot.unset).toArray = ls at hl ⊢
  have hl : lv_has ls 2 [(0, .int (nI N))] := hl
  refine lv_iload_n hx hb dX4_isOddPrime_0 rfl (lv_at hl 0 rfl) ?_
  refine lv_iconst (v := nI 2) hx hb dX4_isOddPrime_1 (by decide +kernel) ?_
  refine lv_irem hx hb dX4_isOddPrime_2 (nI_ne0 (by decide) (by decide)) ?_
  refine zz_i (y := nI (N % 2)) (pk_rem hN31 (by decide) (by decide)) ?_
  refine lv_if_ne (tgt := 8) hx hb dX4_isOddPrime_3 (by decide) (fun hc3 => ?_) (fun hc3 => ?_)
  · have h2 : N % 2 ≠ 0 := fun h => hc3 (by rw [h]; exact nI_0)
    refine lv_iconst (v := nI 3) hx hb dX4_isOddPrime_8 (by decide +kernel) ?_
    refine lv_istore_n (lv' := [(1, .int (nI 3)), (0, .int (nI N))]) hx hb dX4_isOddPrime_9 rfl hl (by decide) rfl (fun ls hl => ?_)
    have LOOP10 : ∀ (f : Nat) (d : Nat), N + 1 - d < f → 3 ≤ d → d % 2 = 1 → d < 65536 → (∀ e, 2 ≤ e → e < d → N % e ≠ 0) → ∀ (ls : Array Slot), lv_has ls 2 [(1, .int (nI d)), (0, .int (nI N))] → W p l e (headSpec wsX4_isOddPrime ({ frames := 0, cells := 0, slots := 0, locals := 0 })).room s m ([.int (nI N)] : List Value).toArray below meth c s.heap [] 0 0 (MQ below (pQi (fun r => (r = nI 1 ∧ isPr N) ∨ (r = nI 0 ∧ ¬ isPr N))) ([.int (nI N)] : List Value).toArray s 0 0 (fun _ => False)) (F0 m 10 ls []) := by
      intro f
      induction f with
      | zero => intro d hf; exact absurd hf (Nat.not_lt_zero _)
      | succ f ih =>
        intro d hf h3 hd1 hd hall ls hl
        have hq : N / d ≤ N := Nat.div_le_self N d
        refine lv_iload_n hx hb dX4_isOddPrime_10 rfl (lv_at hl 0 rfl) ?_
        refine lv_iload_n hx hb dX4_isOddPrime_11 rfl (lv_at hl 1 rfl) ?_
        refine lv_iload_n hx hb dX4_isOddPrime_12 rfl (lv_at hl 0 rfl) ?_
        refine lv_idiv hx hb dX4_isOddPrime_13 (nI_ne0 (by omega) (by omega)) ?_
        refine zz_i (y := nI (N / d)) (pk_div hN31 (by omega) (by omega)) ?_
        refine lv_icmp_gt (tgt := 31) hx hb dX4_isOddPrime_14 (by decide) (fun hc14 => ?_) (fun hc14 => ?_)
        · have hlt : N / d < d := (nI_ltI (by omega) (by omega)).mp hc14
          have hdd : N < d * d := (Nat.div_lt_iff_lt_mul (by omega)).mp hlt
          refine lv_iconst (v := nI 1) hx hb dX4_isOddPrime_31 (by decide +kernel) ?_
          refine W.zret hx hb hr (by rfl) (fun t ht hW => pQi_end ?_ (hS.F ht)) hS.2.2 dX4_isOddPrime_32
          exact Or.inl ⟨rfl, pr_exit (by omega) hall hdd⟩
        · have hle : d ≤ N / d := Nat.le_of_not_lt fun h => hc14 ((nI_ltI (by omega) (by omega)).mpr h)
          have hdd : d * d ≤ N := (Nat.le_div_iff_mul_le (by omega)).mp hle
          have hdN : d ≤ N := Nat.le_trans hle hq
          have hm : N % d < d := Nat.mod_lt N (by omega)
          refine lv_iload_n hx hb dX4_isOddPrime_17 rfl (lv_at hl 1 rfl) ?_
          refine lv_iload_n hx hb dX4_isOddPrime_18 rfl (lv_at hl 0 rfl) ?_
          refine lv_irem hx hb dX4_isOddPrime_19 (nI_ne0 (by omega) (by omega)) ?_
          refine zz_i (y := nI (N % d)) (pk_rem hN31 (by omega) (by omega)) ?_
          refine lv_if_ne (tgt := 25) hx hb dX4_isOddPrime_20 (by decide) (fun hc20 => ?_) (fun hc20 => ?_)
          · have h0 : N % d ≠ 0 := fun h => hc20 (by rw [h]; exact nI_0)
            have hd2 : d + 2 < 65536 := by
              rcases Nat.lt_or_ge (d + 2) 65536 with q | q
              · exact q
              · have := Nat.mul_le_mul (show 65534 ≤ d by omega) (show 65534 ≤ d by omega)
                omega
            refine lv_iinc (v := nI (d + 2)) (lv' := [(1, .int (nI (d + 2))), (0, .int (nI N))]) hx hb dX4_isOddPrime_25 hl (k := 0) rfl (nI_add d 2) (by decide) rfl (fun ls hl => ?_)
            refine lv_goto (tgt := 10) hx hb dX4_isOddPrime_28 (by decide) ?_
            exact ih (d + 2) (by omega) (by omega) (by omega) hd2 (pr_step h2 hd1 hall h0) ls hl
          · refine lv_iconst (v := nI 0) hx hb dX4_isOddPrime_23 (by decide +kernel) ?_
            refine W.zret hx hb hr (by rfl) (fun t ht hW => pQi_end ?_ (hS.F ht)) hS.2.2 dX4_isOddPrime_24
            exact Or.inr ⟨rfl, pr_no (by omega) hdd ((nI_eq (by omega) (by decide)).mp (hc20.trans nI_0.symm))⟩
    exact LOOP10 (N + 2) 3 (by omega) (by decide) (by decide) (by decide) (fun e h2e h3e => by rw [show e = 2 by omega]; exact h2) ls hl
  · have h2 : N % 2 = 0 := (nI_eq (by omega) (by decide)).mp (hc3.trans nI_0.symm)
    refine lv_iconst (v := nI 0) hx hb dX4_isOddPrime_6 (by decide +kernel) ?_
    refine W.zret hx hb hr (by rfl) (fun t ht hW => pQi_end ?_ (hS.F ht)) hS.2.2 dX4_isOddPrime_7
    exact Or.inr ⟨rfl, pr_no (d := 2) (by decide) (by omega) h2⟩

set_option maxHeartbeats 4000000 in
set_option maxRecDepth 100000 in
/-- greatestPrimeUpTo(number) -/
theorem c_X4_greatestPrimeUpTo (l : Launch) (x : Int32) : Met l yX4_greatestPrimeUpTo wsX4_greatestPrimeUpTo ({ frames := 1, cells := 0, slots := 0, locals := 21 }) (pPc [.int x]) (pQi (fun r => ∃ q : Nat, r = nI q ∧ gpOf x q)) 0 0 (fun _ => False) := by
  refine Met.ofW (cc := cX4_greatestPrimeUpTo) (maxL := 2) (ret := (some .int)) (by decide +kernel) rfl ?_
  intro p e s m args below meth c s₁ B hml hv
  obtain ⟨rfl, -⟩ := hv
  have hx := B.exec
  have hb := B.bytes
  have hr := B.returns
  have hts := atoms_spec (ws := wsX4_greatestPrimeUpTo) B.pre
  have hown : s.vm.findClass RX4 = some m.cls := findClass_of_methodNamed B.named
  have hlocks := B.notSynchronized
  have hS : va_S (fun _ => False) s.heap s.heap [] := va_S.rf
  have hl := lv_entry ([.int x]) (n := 2) (Nat.le_of_ble_eq_true rfl)
  rw [lg_entry_eq]
  generalize (lg_sl ([.int x]) ++ List.replicate (2 - (lg_sl ([.int x])).length) Slot.unset).toArray = ls at hl ⊢
  have hl : lv_has ls 2 [(0, .int x)] := hl
  by_cases hx2 : x ≤ nI 2
  · have hgp2 : ((x.toInt < 2 ∧ 2 = 2) ∨ (((2 : Nat) : Int) ≤ x.toInt ∧ ∀ k : Nat, 2 < k → (k : Int) ≤ x.toInt → ¬ isPr k)) := by
      have h9 : x.toInt ≤ 2 := by rw [Int32.le_iff_toInt_le, nI_toInt (by decide)] at hx2; exact hx2
      by_cases h8 : x.toInt < 2
      · exact Or.inl ⟨h8, rfl⟩
      · exact Or.inr ⟨by omega, fun k h1 h2 => by omega⟩
    refine lv_iload_n hx hb dX4_greatestPrimeUpTo_0 rfl (lv_at hl 0 rfl) ?_
    refine lv_istore_n (lv' := [(1, .int x), (0, .int x)]) hx hb dX4_greatestPrimeUpTo_1 rfl hl (by decide) rfl (fun ls hl => ?_)
    refine lv_iload_n hx hb dX4_greatestPrimeUpTo_2 rfl (lv_at hl 0 rfl) ?_
    refine lv_iconst (v := nI 2) hx hb dX4_greatestPrimeUpTo_3 (by decide +kernel) ?_
    refine lv_icmp_le (tgt := 22) hx hb dX4_greatestPrimeUpTo_4 (by decide) (fun _ => ?_) (fun hcc => absurd (hx2) hcc)
    refine lv_iconst (v := nI 2) hx hb dX4_greatestPrimeUpTo_22 (by decide +kernel) ?_
    refine W.iret hx hb hr (fun t ht hW => pQi_end ?_ (hS.F ht)) hS.2.2 dX4_greatestPrimeUpTo_23
    exact ⟨2, rfl, pr_two, by decide, hgp2⟩
  · have h0 : ¬ x < 0 := fun h => hx2 (by simp only [Int32.le_iff_toInt_le, Int32.lt_iff_toInt_lt, nI_toInt (show 2 < 2 ^ 31 by decide)] at h ⊢; have h9 : (0 : Int32).toInt = 0 := rfl; omega)
    obtain ⟨X, hX31, rfl⟩ := nI_of h0
    have hX3 : 3 ≤ X := Nat.lt_of_not_le fun h => hx2 (nI_le h (by decide))
    refine lv_iload_n hx hb dX4_greatestPrimeUpTo_0 rfl (lv_at hl 0 rfl) ?_
    refine lv_istore_n (lv' := [(1, .int (nI X)), (0, .int (nI X))]) hx hb dX4_greatestPrimeUpTo_1 rfl hl (by decide) rfl (fun ls hl => ?_)
    have LOOP2 : ∀ (f : Nat) (k : Nat), k < f → 2 ≤ k → k ≤ X → (∀ j, k < j → j ≤ X → ¬ isPr j) → ∀ (H : Heap) (locs : List Loc), va_S (fun _ => False) s.heap H locs → ∀ (ls : Array Slot), lv_has ls 2 [(1, .int (nI k)), (0, .int (nI X))] → W p l e (headSpec wsX4_greatestPrimeUpTo ({ frames := 1, cells := 0, slots := 0, locals := 21 })).room s m ([.int (nI X)] : List Value).toArray below meth c H locs 0 0 (MQ below (pQi (fun r => ∃ q : Nat, r = nI q ∧ gpOf (nI X) q)) ([.int (nI X)] : List Value).toArray s 0 0 (fun _ => False)) (F0 m 2 ls []) := by
      intro f
      induction f with
      | zero => intro k hf; exact absurd hf (Nat.not_lt_zero _)
      | succ f ih =>
        intro k hf h2 hkX hno H locs hS ls hl
        refine lv_iload_n hx hb dX4_greatestPrimeUpTo_2 rfl (lv_at hl 0 rfl) ?_
        refine lv_iconst (v := nI 2) hx hb dX4_greatestPrimeUpTo_3 (by decide +kernel) ?_
        refine lv_icmp_le (tgt := 22) hx hb dX4_greatestPrimeUpTo_4 (by decide) (fun hc4 => ?_) (fun hc4 => ?_)
        · have hk : k = 2 := Nat.le_antisymm ((nI_leI (by omega) (by decide)).mp hc4) h2
          subst hk
          refine lv_iconst (v := nI 2) hx hb dX4_greatestPrimeUpTo_22 (by decide +kernel) ?_
          refine W.iret hx hb hr (fun t ht hW => pQi_end ?_ (hS.F ht)) hS.2.2 dX4_greatestPrimeUpTo_23
          exact ⟨2, rfl, pr_two, by decide, Or.inr ⟨by rw [nI_toInt hX31]; omega, fun j h1 h2 => by rw [nI_toInt hX31] at h2; exact hno j h1 (by omega)⟩⟩
        · have hk3 : 3 ≤ k := Nat.lt_of_not_le fun h => hc4 (nI_le h (by decide))
          refine lv_iload_n hx hb dX4_greatestPrimeUpTo_7 rfl (lv_at hl 0 rfl) ?_
          refine pc_i (va_runS (As := [.int (nI k)]) (rest := []) ⟨hx, hb, hml, hown, hts⟩ (c_X4_isOddPrime l (N := k) hk3 (by omega)) (va_cwS 1 hts gX4_greatestPrimeUpTo_X4_isOddPrime rfl rfl rfl (by decide +kernel) ⟨Nat.le_of_ble_eq_true rfl, Nat.le_of_ble_eq_true rfl⟩) pPc_S rfl rfl hl.1 rfl (lv_room (Nat.le_of_ble_eq_true rfl)) dX4_greatestPrimeUpTo_8 ⟨Nat.le_of_ble_eq_true rfl, Nat.le_of_ble_eq_true rfl⟩) hS (fun rb H locs hw hz hk hS => ?_)
          refine lv_if_eq (tgt := 16) hx hb dX4_greatestPrimeUpTo_11 (by decide) (fun hc11 => ?_) (fun hc11 => ?_)
          · have hnp : ¬ isPr k := by
              rcases hw with ⟨h, -⟩ | ⟨-, h⟩
              · rw [h] at hc11; exact absurd hc11 (by decide)
              · exact h
            refine lv_iinc (v := nI (k - 1)) (lv' := [(1, .int (nI (k - 1))), (0, .int (nI X))]) hx hb dX4_greatestPrimeUpTo_16 hl (k := 0) rfl (sb_m1 (by omega)) (by decide) rfl (fun ls hl => ?_)
            refine lv_goto (tgt := 2) hx hb dX4_greatestPrimeUpTo_19 (by decide) ?_
            exact ih (k - 1) (by omega) (by omega) (by omega) (fun j h1 h2 => (Nat.lt_or_eq_of_le (show k ≤ j by omega)).elim (fun h => hno j h h2) (fun h => h ▸ hnp)) H locs hS ls hl
          · have hp : isPr k := by
              rcases hw with ⟨-, h⟩ | ⟨h, -⟩
              · exact h
              · exact absurd (h.trans nI_0) hc11
            refine lv_iload_n hx hb dX4_greatestPrimeUpTo_14 rfl (lv_at hl 0 rfl) ?_
            refine W.iret hx hb hr (fun t ht hW => pQi_end ?_ (hS.F ht)) hS.2.2 dX4_greatestPrimeUpTo_15
            exact ⟨k, rfl, hp, by omega, Or.inr ⟨by rw [nI_toInt hX31]; omega, fun j h1 h2 => by rw [nI_toInt hX31] at h2; exact hno j h1 (by omega)⟩⟩
    exact LOOP2 (X + 1) X (by omega) (by omega) (Nat.le_refl X) (fun j h1 h2 => by omega) s.heap [] hS ls hl

set_option maxHeartbeats 4000000 in
set_option maxRecDepth 100000 in
/-- the reference's isPrime(p) -/
theorem c_X5_isPrime (l : Launch) {N : Nat} (h2 : 2 ≤ N) (hN31 : N < 2 ^ 31) : Met l yX5_isPrime wsX5_isPrime ({ frames := 0, cells := 0, slots := 0, locals := 0 }) (pPc [.long (lN N)]) (pQi (fun r => (r = nI 1 ∧ isPr N) ∨ (r = nI 0 ∧ ¬ isPr N))) 0 0 (fun _ => False) := by
  refine Met.ofW (cc := cX5_isPrime) (maxL := 4) (ret := (some .boolean)) (by decide +kernel) rfl ?_
  intro p e s m args below meth c s₁ B hml hv
  obtain ⟨rfl, -⟩ := hv
  have hx := B.exec
  have hb := B.bytes
  have hr := B.returns
  have hts := atoms_spec (ws := wsX5_isPrime) B.pre
  have hown : s.vm.findClass RX5 = some m.cls := findClass_of_methodNamed B.named
  have hlocks := B.notSynchronized
  have hS : va_S (fun _ => False) s.heap s.heap [] := va_S.rf
  have hl := lv_entry ([.long (lN N)]) (n := 4) (Nat.le_of_ble_eq_true rfl)
  rw [lg_entry_eq]
  generalize (lg_sl ([.long (lN N)]) ++ List.replicate (4 - (lg_sl ([.long (lN N)])).length) Slot.unset).toArray = ls at hl ⊢
  have hl : lv_has ls 4 [(0, .long (lN N))] := hl
  refine lv_ldc2 (v := 2) hx hb hown (hts (.constantLong RX5 98 2) (by decide +kernel)) dX5_isPrime_0 ?_
  refine zz_l (y := lN 2) (rfl) ?_
  refine lv_lstore_n (lv' := [(2, .long (lN 2)), (0, .long (lN N))]) hx hb dX5_isPrime_3 rfl hl (by decide) rfl (fun ls hl => ?_)
  have LOOP4 : ∀ (f : Nat) (d : Nat), N + 1 - d < f → 2 ≤ d → d < 65536 → (∀ e, 2 ≤ e → e < d → N % e ≠ 0) → ∀ (ls : Array Slot), lv_has ls 4 [(2, .long (lN d)), (0, .long (lN N))] → W p l e (headSpec wsX5_isPrime ({ frames := 0, cells := 0, slots := 0, locals := 0 })).room s m ([.long (lN N)] : List Value).toArray below meth c s.heap [] 0 0 (MQ below (pQi (fun r => (r = nI 1 ∧ isPr N) ∨ (r = nI 0 ∧ ¬ isPr N))) ([.long (lN N)] : List Value).toArray s 0 0 (fun _ => False)) (F0 m 4 ls []) := by
    intro f
    induction f with
    | zero => intro d hf; exact absurd hf (Nat.not_lt_zero _)
    | succ f ih =>
      intro d hf h2d hd hall ls hl
      have hdd9 : d * d < 65536 * 65536 := Nat.mul_lt_mul_of_lt_of_lt hd hd
      refine lv_lload_n hx hb dX5_isPrime_4 rfl (lv_at hl 0 rfl) ?_
      refine lv_lload_n hx hb dX5_isPrime_5 rfl (lv_at hl 0 rfl) ?_
      refine lv_lmul hx hb dX5_isPrime_6 ?_
      refine zz_l (y := lN (d * d)) (lN_mul d d) ?_
      refine lv_lload_n hx hb dX5_isPrime_7 rfl (lv_at hl 1 rfl) ?_
      refine W.lcmp hx hb dX5_isPrime_8 ?_
      refine lv_if_gt (tgt := 29) hx hb dX5_isPrime_9 (by decide) (fun hc9 => ?_) (fun hc9 => ?_)
      · have hdd : N < d * d := (pk_lLT (by omega) (by omega)).mp ((lc_gt _ _).mp hc9)
        refine lv_iconst (v := nI 1) hx hb dX5_isPrime_29 (by decide +kernel) ?_
        refine W.zret hx hb hr (by rfl) (fun t ht hW => pQi_end ?_ (hS.F ht)) hS.2.2 dX5_isPrime_30
        exact Or.inl ⟨rfl, pr_exit h2 hall hdd⟩
      · have hdd : d * d ≤ N := Nat.le_of_not_lt fun h => hc9 ((lc_gt _ _).mpr ((pk_lLT (by omega) (by omega)).mpr h))
        have hdN : d ≤ N := Nat.le_trans (Nat.le_mul_self d) hdd
        have hm : N % d < d := Nat.mod_lt N (by omega)
        refine lv_lload_n hx hb dX5_isPrime_12 rfl (lv_at hl 1 rfl) ?_
        refine lv_lload_n hx hb dX5_isPrime_13 rfl (lv_at hl 0 rfl) ?_
        refine lv_lrem hx hb dX5_isPrime_14 (fun h => absurd ((pk_lEQ (b := 0) (by omega) (by decide)).mp h) (by omega)) ?_
        refine zz_l (y := lN (N % d)) (pk_lRem (by omega) (by omega) (by omega)) ?_
        refine lv_lconst (v := lN 0) hx hb dX5_isPrime_15 (by decide +kernel) ?_
        refine W.lcmp hx hb dX5_isPrime_16 ?_
        refine lv_if_ne (tgt := 22) hx hb dX5_isPrime_17 (by decide) (fun hc17 => ?_) (fun hc17 => ?_)
        · have h0 : N % d ≠ 0 := fun h => hc17 ((lc_eq _ _).mpr (by rw [h]))
          have hd2 : d + 1 < 65536 := by
            rcases Nat.lt_or_ge (d + 1) 65536 with q | q
            · exact q
            · have := Nat.mul_le_mul (show 65535 ≤ d by omega) (show 65535 ≤ d by omega)
              omega
          refine lv_lload_n hx hb dX5_isPrime_22 rfl (lv_at hl 0 rfl) ?_
          refine lv_lconst (v := lN 1) hx hb dX5_isPrime_23 (by decide +kernel) ?_
          refine lv_ladd hx hb dX5_isPrime_24 ?_
          refine zz_l (y := lN (d + 1)) (lN_1 d) ?_
          refine lv_lstore_n (lv' := [(2, .long (lN (d + 1))), (0, .long (lN N))]) hx hb dX5_isPrime_25 rfl hl (by decide) rfl (fun ls hl => ?_)
          refine lv_goto (tgt := 4) hx hb dX5_isPrime_26 (by decide) ?_
          exact ih (d + 1) (by omega) (by omega) hd2 (pr_step1 hall h0) ls hl
        · refine lv_iconst (v := nI 0) hx hb dX5_isPrime_20 (by decide +kernel) ?_
          refine W.zret hx hb hr (by rfl) (fun t ht hW => pQi_end ?_ (hS.F ht)) hS.2.2 dX5_isPrime_21
          exact Or.inr ⟨rfl, pr_no h2d hdd ((pk_lEQ (by omega) (by decide)).mp ((lc_eq _ _).mp hc17))⟩
  exact LOOP4 (N + 2) 2 (by omega) (by decide) (by decide) (fun e h2e h3e => by omega) ls hl
