/-! the words of the class side: one list for all its methods -/
def cWS0 : List Cond := [.methodLink RX4 203 arraycopyName,
  .native arraycopyName,
  .static arraycopyName,
  .initialized "java/lang/System",
  .fieldLink RX4 19 "ResidueRows" "rows" "[[I",
  .fieldLink RX4 13 "ResidueRows" "prime" "I",
  .classLink RX4 179 nmA,
  .initialized nmA,
  .fieldLink RX4 50 "ResidueRows" "latest" "LResidueRows$Factored;",
  .fieldLink RX4 64 "ResidueRows" "next" "I",
  .methodLink RX4 193 yX4_copy,
  .static yX4_copy,
  .initialized RX4,
  .code yX4_copy cX4_copy 2 none,
  .fieldLink RX2 15 "ResidueRows$Residues" "wide" "[J",
  .methodLink RX2 84 yJ7_fill_d0a16,
  .static yJ7_fill_d0a16,
  .initialized RJ7,
  .code yJ7_fill_d0a16 cJ7_fill_d0a16 5 none,
  .fieldLink RX2 9 "ResidueRows$Residues" "prime" "J",
  .static yX4_degree,
  .code yX4_degree cX4_degree 2 (some .int),
  .methodLink RX2 36 yX2_multiplyWide,
  .instanceMethod yX2_multiplyWide,
  .selects RX2 yX2_multiplyWide yX2_multiplyWide,
  .initialized RX2,
  .code yX2_multiplyWide cX2_multiplyWide 12 none,
  .methodLink RX2 40 yX2_narrowRest,
  .instanceMethod yX2_narrowRest,
  .selects RX2 yX2_narrowRest yX2_narrowRest,
  .code yX2_narrowRest cX2_narrowRest 6 none,
  .fieldLink RX2 19 "ResidueRows$Residues" "dividend" "[I",
  .fieldLink RX2 23 "ResidueRows$Residues" "divisor" "[I",
  .methodLink RX2 77 yX2_makeMonic,
  .instanceMethod yX2_makeMonic,
  .selects RX2 yX2_makeMonic yX2_makeMonic,
  .code yX2_makeMonic cX2_makeMonic 3 none]
def cWS : List Cond := cWS0 ++ wsX40 ++ wsX20 ++ wsX00 ++ atA.filter goodWord ++ atI.filter goodWord ++ atE.filter goodWord ++ wsX2_reciprocal ++ wsJ9_floorMod_7cf53
theorem cWS_good : ∀ w ∈ cWS, goodWord w = true := by decide +kernel
theorem inCX4 : ∀ w ∈ wsX40, w ∈ cWS := by decide +kernel
theorem inCX2 : ∀ w ∈ wsX20, w ∈ cWS := by decide +kernel
theorem inCX0 : ∀ w ∈ wsX00, w ∈ cWS := by decide +kernel
theorem inCA : ∀ w ∈ atA.filter goodWord, w ∈ cWS := by decide +kernel
theorem inCI : ∀ w ∈ atI.filter goodWord, w ∈ cWS := by decide +kernel
theorem inCE : ∀ w ∈ atE.filter goodWord, w ∈ cWS := by decide +kernel
theorem inX2_reciprocal : ∀ w ∈ wsX2_reciprocal, w ∈ cWS := by decide +kernel
theorem inJ9_floorMod_7cf53 : ∀ w ∈ wsJ9_floorMod_7cf53, w ∈ cWS := by decide +kernel
theorem cWS_gi {hd : Cond} {w : Cond} (h : w ∈ cWS) : w ∈ hd :: cWS ∧ ((w.onTables && w.keeps) = true ∨ ∃ ty, w = .arrayClass ty) := ⟨List.mem_cons_of_mem _ h, good_of_word (cWS_good w h)⟩
theorem gWc {hd cw : Cond} (h : cw ∈ cWS) : GoodIn (hd :: cWS) (cw :: cWS) := fun w hw => cWS_gi ((List.mem_cons.mp hw).elim (fun e => e ▸ h) id)
theorem gWv {hd : Cond} {own : String} {idx : Nat} {C : String} {y : MethodName} {cc : ByteArray} {k : Nat} {r : Option FieldType} (h : ∀ w ∈ ([.methodLink own idx y, .instanceMethod y, .selects C y y, .initialized C, .code y cc k r] : List Cond), w ∈ cWS) : GoodIn (hd :: cWS) (wsV own idx C y (.code y cc k r :: cWS)) := fun w hw => cWS_gi (by
  simp only [wsV, List.mem_append, List.mem_cons, List.not_mem_nil, or_false] at hw h
  rcases hw with hw | hw | hw
  · exact h w (by rcases hw with e | e | e | e <;> simp [e])
  · exact h w (by simp [hw])
  · exact hw)
theorem gWs {hd : Cond} {own : String} {idx : Nat} {y : MethodName} {cc : ByteArray} {k : Nat} {r : Option FieldType} (h : ∀ w ∈ ([.methodLink own idx y, .static y, .initialized y.cls, .code y cc k r] : List Cond), w ∈ cWS) : GoodIn (hd :: cWS) (va_wsS own idx y (.code y cc k r :: cWS)) := fun w hw => cWS_gi (by
  simp only [va_wsS, List.mem_append, List.mem_cons, List.not_mem_nil, or_false] at hw h
  rcases hw with hw | hw | hw
  · exact h w (by rcases hw with e | e | e <;> simp [e])
  · exact h w (by simp [hw])
  · exact hw)
theorem gWp {hd : Cond} {own : String} {idx : Nat} {y : MethodName} {ws : List Cond} (h : ∀ w ∈ ([.methodLink own idx y, .static y, .initialized y.cls] : List Cond), w ∈ cWS) (h2 : ∀ w ∈ ws, w ∈ cWS) : GoodIn (hd :: cWS) (va_wsS own idx y ws) := fun w hw => cWS_gi (by
  rcases List.mem_append.mp hw with hw | hw
  · exact h w hw
  · exact h2 w hw)
