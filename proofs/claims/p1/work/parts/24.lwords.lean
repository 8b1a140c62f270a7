/-! the law's helpers: what a class is no kind of, the cell that bears the answer -/
abbrev nmS : String := "java/lang/IllegalStateException"
def lNc (U : State) : Prop := va_Nc nmI nmA U ∧ va_Nc nmI nmS U ∧ va_Nc nmE nmA U ∧ va_Nc nmE nmS U ∧ va_Nc nmE nmI U
theorem lNc.moved {u U : State} (hvm : u.vm.Alike U.vm) (h : lNc u) : lNc U := ⟨h.1.moved hvm, h.2.1.moved hvm, h.2.2.1.moved hvm, h.2.2.2.1.moved hvm, h.2.2.2.2.moved hvm⟩
theorem out_apart {D : va_G} {cl : List vw_C} {A : Nat → Prop} {o : Nat} {e : va_E} {X pl : va_W} {H : Heap} (hP : va_P D cl (((o, e) :: X) ++ pl) H) (hD : va_D A (((o, e) :: X) ++ pl)) : ¬ va_A (X ++ pl) H.size o := fun h => by
  rcases h with ⟨k, e9, hk⟩ | h
  · have h9 := hD.1 0 (k + 1) (o, e) (o, e9) rfl (by show ((o, e) :: (X ++ pl))[k + 1]? = _; rw [List.getElem?_cons_succ]; exact hk) rfl
    omega
  · have h9 := (hP 0 (o, e) rfl).lt
    exact absurd h9 (Nat.not_lt.mpr h)
theorem out_first {o : Nat} {e : va_E} {X pl : va_W} {k : Nat} {q : Nat × va_E} (h : ([(o, e)] : va_W)[k]? = some q) : (((o, e) :: X) ++ pl)[k]? = some q := by
  have h0 : k < 1 := (List.getElem?_eq_some_iff.mp h).1
  rw [show k = 0 by omega] at h ⊢
  exact h
theorem out_one {A : Nat → Prop} {o : Nat} {e : va_E} (h : A o) : va_D A [(o, e)] := ⟨fun i j x y hi hj _ => by
  have h0 : i < 1 := (List.getElem?_eq_some_iff.mp hi).1
  have h1 : j < 1 := (List.getElem?_eq_some_iff.mp hj).1
  omega, fun k q hk => by
  have h0 : k < 1 := (List.getElem?_eq_some_iff.mp hk).1
  rw [show k = 0 by omega] at hk
  cases hk
  exact h⟩
theorem out_kept {D : va_G} {cl : List vw_C} {o : Nat} {e : va_E} {ws : va_W} {H H1 : Heap} (hP : va_P D cl [(o, e)] H) (ho : ¬ va_A ws H.size o) (hk : ∀ q : Nat, q < H.size → ¬ va_A ws H.size q → H1[q]? = H[q]?) : va_P D cl [(o, e)] H1 := hP.kept (fun k x hx => by
  have hlt := (hP k x hx).lt
  have h0 : k < 1 := (List.getElem?_eq_some_iff.mp hx).1
  rw [show k = 0 by omega] at hx
  cases hx
  exact hk o hlt ho)

def lWS0 : List Cond := [.methodLink RL 7 yX4_poly,
  .instanceMethod yX4_poly,
  .selects RX4 yX4_poly yX4_poly,
  .initialized RX4,
  .code yX4_poly cX4_poly 1 (some .int),
  .methodLink RL 15 yX4_set,
  .instanceMethod yX4_set,
  .selects RX4 yX4_set yX4_set,
  .code yX4_set cX4_set 6 (some .boolean),
  .classLink RL 19 nmA,
  .methodLink RL 21 yX4_times,
  .instanceMethod yX4_times,
  .selects RX4 yX4_times yX4_times,
  .code yX4_times cX4_times 3 (some .int),
  .methodLink RL 27 yX4_over,
  .instanceMethod yX4_over,
  .selects RX4 yX4_over yX4_over,
  .code yX4_over cX4_over 7 (some .int),
  .classLink RL 13 nmS,
  .classLink RL 25 nmI,
  .classLink RL 31 nmE,
  .methodLink RL 33 yX4_gcd,
  .instanceMethod yX4_gcd,
  .selects RX4 yX4_gcd yX4_gcd,
  .code yX4_gcd cX4_gcd 3 (some .int),
  .methodLink RL 36 yX4_factor,
  .instanceMethod yX4_factor,
  .selects RX4 yX4_factor yX4_factor,
  .code yX4_factor cX4_factor 6 (some .int),
  .methodLink RL 40 yX4_factorOf,
  .instanceMethod yX4_factorOf,
  .selects RX4 yX4_factorOf yX4_factorOf,
  .code yX4_factorOf cX4_factorOf 2 (some .int),
  .methodLink RL 44 yX4_multiplicity,
  .instanceMethod yX4_multiplicity,
  .selects RX4 yX4_multiplicity yX4_multiplicity,
  .code yX4_multiplicity cX4_multiplicity 2 (some .int),
  .methodLink RL 47 yX4_at,
  .instanceMethod yX4_at,
  .selects RX4 yX4_at yX4_at,
  .code yX4_at cX4_at 3 (some .int),
  .methodLink RL 50 yX4_root,
  .instanceMethod yX4_root,
  .selects RX4 yX4_root yX4_root,
  .code yX4_root cX4_root 3 (some .int),
  .methodLink RL 53 yX4_inverse,
  .instanceMethod yX4_inverse,
  .selects RX4 yX4_inverse yX4_inverse,
  .code yX4_inverse cX4_inverse 3 (some .int),
  .methodLink RL 56 yX4_lift,
  .instanceMethod yX4_lift,
  .selects RX4 yX4_lift yX4_lift,
  .code yX4_lift cX4_lift 5 (some .int)]
def lWS : List Cond := lWS0 ++ cWS
theorem lWS0_good : ∀ w ∈ lWS0, goodWord w = true := by decide +kernel
theorem lWS_gi {hd : Cond} {w : Cond} (h : w ∈ lWS) : w ∈ hd :: lWS ∧ ((w.onTables && w.keeps) = true ∨ ∃ ty, w = .arrayClass ty) := ⟨List.mem_cons_of_mem _ h, good_of_word ((List.mem_append.mp h).elim (lWS0_good w) (cWS_good w))⟩
theorem gLv {hd : Cond} {own : String} {idx : Nat} {C : String} {y : MethodName} {cc : ByteArray} {k : Nat} {r : Option FieldType} (h : ∀ w ∈ ([.methodLink own idx y, .instanceMethod y, .selects C y y, .initialized C, .code y cc k r] : List Cond), w ∈ lWS) : GoodIn (hd :: lWS) (wsV own idx C y (.code y cc k r :: cWS)) := fun w hw => lWS_gi (by
  simp only [wsV, List.mem_append, List.mem_cons, List.not_mem_nil, or_false] at hw h
  rcases hw with hw | hw | hw
  · exact h w (by rcases hw with e | e | e | e <;> simp [e])
  · exact h w (by simp [hw])
  · exact List.mem_append_right _ hw)
