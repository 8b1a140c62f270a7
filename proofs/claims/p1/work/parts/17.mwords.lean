/-! the words of the reference: one list for all its methods -/
def mWS0 : List Cond := [.fieldLink RX5 104 "ResidueRowsModel" "prime" "J",
  .fieldLink RX5 7 "ResidueRowsModel" "rows" "[J",
  .fieldLink RX5 112 "ResidueRowsModel" "given" "I",
  .fieldLink RX5 32 "ResidueRowsModel" "wide" "[J",
  .methodLink RX5 115 yX5_degree,
  .static yX5_degree,
  .initialized RX5,
  .code yX5_degree cX5_degree 2 (some .int),
  .fieldLink RX5 44 "ResidueRowsModel" "gcdA" "[J",
  .methodLink RX5 127 yX5_copy,
  .static yX5_copy,
  .code yX5_copy cX5_copy 3 none,
  .fieldLink RX5 47 "ResidueRowsModel" "gcdB" "[J",
  .methodLink RX5 138 yX5_monic,
  .instanceMethod yX5_monic,
  .selects RX5 yX5_monic yX5_monic,
  .code yX5_monic cX5_monic 6 none,
  .fieldLink RX5 108 "ResidueRowsModel" "thrown" "I",
  .fieldLink RX5 41 "ResidueRowsModel" "answer" "[J",
  .methodLink RX5 208 yX5_give,
  .instanceMethod yX5_give,
  .selects RX5 yX5_give yX5_give,
  .code yX5_give cX5_give 3 (some .int),
  .methodLink RX5 211 yX5_isRow,
  .instanceMethod yX5_isRow,
  .selects RX5 yX5_isRow yX5_isRow,
  .code yX5_isRow cX5_isRow 2 (some .boolean),
  .fieldLink RX5 35 "ResidueRowsModel" "one" "[J",
  .methodLink RX5 214 yX5_take,
  .instanceMethod yX5_take,
  .selects RX5 yX5_take yX5_take,
  .code yX5_take cX5_take 4 none,
  .fieldLink RX5 38 "ResidueRowsModel" "two" "[J",
  .methodLink RX5 123 yX5_spread,
  .instanceMethod yX5_spread,
  .selects RX5 yX5_spread yX5_spread,
  .code yX5_spread cX5_spread 5 none,
  .methodLink RX5 191 yX5_divisor,
  .instanceMethod yX5_divisor,
  .selects RX5 yX5_divisor yX5_divisor,
  .code yX5_divisor cX5_divisor 4 none,
  .methodLink RX5 218 yX5_raise,
  .instanceMethod yX5_raise,
  .selects RX5 yX5_raise yX5_raise,
  .code yX5_raise cX5_raise 2 (some .int),
  .fieldLink RX5 224 "ResidueRowsModel" "keptMany" "I",
  .methodLink RX5 168 yX5_modulo,
  .instanceMethod yX5_modulo,
  .selects RX5 yX5_modulo yX5_modulo,
  .code yX5_modulo cX5_modulo 5 (some .long),
  .methodLink RX5 119 yX5_inverseOf,
  .static yX5_inverseOf]
def mWS : List Cond := mWS0 ++ wsX50 ++ wsX5_inverseOf ++ wsX5_isPrime
theorem mWS_good : ∀ w ∈ mWS, goodWord w = true := by decide +kernel
theorem inMX5 : ∀ w ∈ wsX50, w ∈ mWS := by decide +kernel
theorem inMX5_inverseOf : ∀ w ∈ wsX5_inverseOf, w ∈ mWS := by decide +kernel
theorem inMX5_isPrime : ∀ w ∈ wsX5_isPrime, w ∈ mWS := by decide +kernel
theorem mWS_gi {hd : Cond} {w : Cond} (h : w ∈ mWS) : w ∈ hd :: mWS ∧ ((w.onTables && w.keeps) = true ∨ ∃ ty, w = .arrayClass ty) := ⟨List.mem_cons_of_mem _ h, good_of_word (mWS_good w h)⟩
theorem gMc {hd cw : Cond} (h : cw ∈ mWS) : GoodIn (hd :: mWS) (cw :: mWS) := fun w hw => mWS_gi ((List.mem_cons.mp hw).elim (fun e => e ▸ h) id)
theorem gMv {hd : Cond} {own : String} {idx : Nat} {C : String} {y : MethodName} {cc : ByteArray} {k : Nat} {r : Option FieldType} (h : ∀ w ∈ ([.methodLink own idx y, .instanceMethod y, .selects C y y, .initialized C, .code y cc k r] : List Cond), w ∈ mWS) : GoodIn (hd :: mWS) (wsV own idx C y (.code y cc k r :: mWS)) := fun w hw => mWS_gi (by
  simp only [wsV, List.mem_append, List.mem_cons, List.not_mem_nil, or_false] at hw h
  rcases hw with hw | hw | hw
  · exact h w (by rcases hw with e | e | e | e <;> simp [e])
  · exact h w (by simp [hw])
  · exact hw)
theorem gMs {hd : Cond} {own : String} {idx : Nat} {y : MethodName} {cc : ByteArray} {k : Nat} {r : Option FieldType} (h : ∀ w ∈ ([.methodLink own idx y, .static y, .initialized y.cls, .code y cc k r] : List Cond), w ∈ mWS) : GoodIn (hd :: mWS) (va_wsS own idx y (.code y cc k r :: mWS)) := fun w hw => mWS_gi (by
  simp only [va_wsS, List.mem_append, List.mem_cons, List.not_mem_nil, or_false] at hw h
  rcases hw with hw | hw | hw
  · exact h w (by rcases hw with e | e | e <;> simp [e])
  · exact h w (by simp [hw])
  · exact hw)
theorem gMp {hd : Cond} {own : String} {idx : Nat} {y : MethodName} {ws : List Cond} (h : ∀ w ∈ ([.methodLink own idx y, .static y, .initialized y.cls] : List Cond), w ∈ mWS) (h2 : ∀ w ∈ ws, w ∈ mWS) : GoodIn (hd :: mWS) (va_wsS own idx y ws) := fun w hw => mWS_gi (by
  rcases List.mem_append.mp hw with hw | hw
  · exact h w hw
  · exact h2 w hw)

