/-! the words of the class side: one list for all its methods -/
def cWS0 : List Cond := [.methodLink RX4 203 arraycopyName,
  .native arraycopyName,
  .static arraycopyName,
  .initialized "java/lang/System",
  .fieldLink RX4 19 "ResidueRows" "rows" "[[I",
  .fieldLink RX4 13 "ResidueRows" "prime" "I",
  .classLink RX4 179 nmA,
  .initialized nmA,
  .fieldLink RX4 50 "ResidueRows" "latest" "LResidueRows$Factored;",
  .fieldLink RX4 64 "ResidueRows" "next" "I",
  .methodLink RX4 193 yX4_copy,
  .static yX4_copy,
  .initialized RX4,
  .code yX4_copy cX4_copy 2 none,
  .fieldLink RX2 15 "ResidueRows$Residues" "wide" "[J",
  .methodLink RX2 84 yJ7_fill_d0a16,
  .static yJ7_fill_d0a16,
  .initialized RJ7,
  .code yJ7_fill_d0a16 cJ7_fill_d0a16 5 none,
  .fieldLink RX2 9 "ResidueRows$Residues" "prime" "J",
  .static yX4_degree,
  .code yX4_degree cX4_degree 2 (some .int),
  .methodLink RX2 36 yX2_multiplyWide,
  .instanceMethod yX2_multiplyWide,
  .selects RX2 yX2_multiplyWide yX2_multiplyWide,
  .initialized RX2,
  .code yX2_multiplyWide cX2_multiplyWide 12 none,
  .methodLink RX2 40 yX2_narrowRest,
  .instanceMethod yX2_narrowRest,
  .selects RX2 yX2_narrowRest yX2_narrowRest,
  .code yX2_narrowRest cX2_narrowRest 6 none,
  .fieldLink RX2 19 "ResidueRows$Residues" "dividend" "[I",
  .fieldLink RX2 23 "ResidueRows$Residues" "divisor" "[I",
  .methodLink RX2 77 yX2_makeMonic,
  .instanceMethod yX2_makeMonic,
  .selects RX2 yX2_makeMonic yX2_makeMonic,
  .code yX2_makeMonic cX2_makeMonic 3 none,
  .methodLink RX4 67 yX4_needNumbers,
  .instanceMethod yX4_needNumbers,
  .selects RX4 yX4_needNumbers yX4_needNumbers,
  .code yX4_needNumbers cX4_needNumbers 2 none,
  .fieldLink RX4 61 "ResidueRows" "made" "[I",
  .methodLink RX4 70 yJ7_fill_53178,
  .static yJ7_fill_53178,
  .code yJ7_fill_53178 cJ7_fill_53178 4 none,
  .methodLink RX4 76 yX4_keep,
  .instanceMethod yX4_keep,
  .selects RX4 yX4_keep yX4_keep,
  .code yX4_keep cX4_keep 3 (some .int),
  .methodLink RX4 80 yX4_needPolynomial,
  .instanceMethod yX4_needPolynomial,
  .selects RX4 yX4_needPolynomial yX4_needPolynomial,
  .code yX4_needPolynomial cX4_needPolynomial 2 none,
  .methodLink RX4 83 yX4_needCoefficient,
  .instanceMethod yX4_needCoefficient,
  .selects RX4 yX4_needCoefficient yX4_needCoefficient,
  .code yX4_needCoefficient cX4_needCoefficient 2 none,
  .methodLink RX4 86 yX4_readResidues,
  .instanceMethod yX4_readResidues,
  .selects RX4 yX4_readResidues yX4_readResidues,
  .code yX4_readResidues cX4_readResidues 5 none,
  .methodLink RX4 90 yJ9_floorMod_7cf53,
  .static yJ9_floorMod_7cf53,
  .initialized RJ9,
  .fieldLink RX4 54 "ResidueRows" "left" "[I",
  .fieldLink RX4 58 "ResidueRows" "right" "[I",
  .methodLink RX4 96 yX4_degree,
  .fieldLink RX4 27 "ResidueRows" "residues" "LResidueRows$Residues;",
  .methodLink RX4 106 yX2_product,
  .instanceMethod yX2_product,
  .selects RX2 yX2_product yX2_product,
  .code yX2_product cX2_product 4 none,
  .methodLink RX4 136 yX2_commonDivisor,
  .instanceMethod yX2_commonDivisor,
  .selects RX2 yX2_commonDivisor yX2_commonDivisor,
  .code yX2_commonDivisor cX2_commonDivisor 8 none,
  .classLink RX4 112 nmE,
  .initialized nmE,
  .classLink RX4 99 nmI,
  .initialized nmI,
  .methodLink RX4 155 yX4_needFactor,
  .instanceMethod yX4_needFactor,
  .selects RX4 yX4_needFactor yX4_needFactor,
  .code yX4_needFactor cX4_needFactor 2 none,
  .methodLink RX4 117 yX2_reciprocal,
  .static yX2_reciprocal]
def cWS : List Cond := cWS0 ++ wsX40 ++ wsX20 ++ wsX00 ++ atA.filter goodWord ++ atI.filter goodWord ++ atE.filter goodWord ++ wsX2_reciprocal ++ wsJ9_floorMod_7cf53
theorem cWS_good : ∀ w ∈ cWS, goodWord w = true := by decide +kernel
theorem inCX4 : ∀ w ∈ wsX40, w ∈ cWS := by decide +kernel
theorem inCX2 : ∀ w ∈ wsX20, w ∈ cWS := by decide +kernel
theorem inCX0 : ∀ w ∈ wsX00, w ∈ cWS := by decide +kernel
theorem inCA : ∀ w ∈ atA.filter goodWord, w ∈ cWS := by decide +kernel
theorem inCI : ∀ w ∈ atI.filter goodWord, w ∈ cWS := by decide +kernel
theorem inCE : ∀ w ∈ atE.filter goodWord, w ∈ cWS := by decide +kernel
theorem inX2_reciprocal : ∀ w ∈ wsX2_reciprocal, w ∈ cWS := by decide +kernel
theorem inJ9_floorMod_7cf53 : ∀ w ∈ wsJ9_floorMod_7cf53, w ∈ cWS := by decide +kernel
theorem cWS_gi {hd : Cond} {w : Cond} (h : w ∈ cWS) : w ∈ hd :: cWS ∧ ((w.onTables && w.keeps) = true ∨ ∃ ty, w = .arrayClass ty) := ⟨List.mem_cons_of_mem _ h, good_of_word (cWS_good w h)⟩
theorem gWc {hd cw : Cond} (h : cw ∈ cWS) : GoodIn (hd :: cWS) (cw :: cWS) := fun w hw => cWS_gi ((List.mem_cons.mp hw).elim (fun e => e ▸ h) id)
theorem gWv {hd : Cond} {own : String} {idx : Nat} {C : String} {y : MethodName} {cc : ByteArray} {k : Nat} {r : Option FieldType} (h : ∀ w ∈ ([.methodLink own idx y, .instanceMethod y, .selects C y y, .initialized C, .code y cc k r] : List Cond), w ∈ cWS) : GoodIn (hd :: cWS) (wsV own idx C y (.code y cc k r :: cWS)) := fun w hw => cWS_gi (by
  simp only [wsV, List.mem_append, List.mem_cons, List.not_mem_nil, or_false] at hw h
  rcases hw with hw | hw | hw
  · exact h w (by rcases hw with e | e | e | e <;> simp [e])
  · exact h w (by simp [hw])
  · exact hw)
theorem gWs {hd : Cond} {own : String} {idx : Nat} {y : MethodName} {cc : ByteArray} {k : Nat} {r : Option FieldType} (h : ∀ w ∈ ([.methodLink own idx y, .static y, .initialized y.cls, .code y cc k r] : List Cond), w ∈ cWS) : GoodIn (hd :: cWS) (va_wsS own idx y (.code y cc k r :: cWS)) := fun w hw => cWS_gi (by
  simp only [va_wsS, List.mem_append, List.mem_cons, List.not_mem_nil, or_false] at hw h
  rcases hw with hw | hw | hw
  · exact h w (by rcases hw with e | e | e <;> simp [e])
  · exact h w (by simp [hw])
  · exact hw)
theorem gWp {hd : Cond} {own : String} {idx : Nat} {y : MethodName} {ws : List Cond} (h : ∀ w ∈ ([.methodLink own idx y, .static y, .initialized y.cls] : List Cond), w ∈ cWS) (h2 : ∀ w ∈ ws, w ∈ cWS) : GoodIn (hd :: cWS) (va_wsS own idx y ws) := fun w hw => cWS_gi (by
  rcases List.mem_append.mp hw with hw | hw
  · exact h w hw
  · exact h2 w hw)
