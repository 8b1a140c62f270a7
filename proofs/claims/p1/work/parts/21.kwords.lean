/-! the words of the constructors -/
def kWS0 : List Cond := [.methodLink RX2 3 objectInit,
  .instanceMethod objectInit,
  .code objectInit ⟨#[0xb1]⟩ 1 none,
  .fieldLink RX2 9 "ResidueRows$Residues" "prime" "J",
  .arrayClass .long,
  .fieldLink RX2 15 "ResidueRows$Residues" "wide" "[J",
  .arrayClass .int,
  .fieldLink RX2 19 "ResidueRows$Residues" "dividend" "[I",
  .fieldLink RX2 23 "ResidueRows$Residues" "divisor" "[I",
  .methodLink RX1 3 objectInit,
  .fieldLink RX1 9 "ResidueRows$Lifter" "prime" "I",
  .fieldLink RX1 15 "ResidueRows$Lifter" "residues" "LResidueRows$Residues;",
  .fieldLink RX1 19 "ResidueRows$Lifter" "target" "[I",
  .fieldLink RX1 23 "ResidueRows$Lifter" "cofactor" "[I",
  .fieldLink RX1 26 "ResidueRows$Lifter" "digit" "[I",
  .fieldLink RX1 29 "ResidueRows$Lifter" "high" "[I",
  .fieldLink RX1 32 "ResidueRows$Lifter" "low" "[I",
  .fieldLink RX1 35 "ResidueRows$Lifter" "highTimes" "[I",
  .fieldLink RX1 38 "ResidueRows$Lifter" "lowTimes" "[I",
  .methodLink RX3 3 objectInit,
  .fieldLink RX3 9 "ResidueRows$Splitter" "prime" "I",
  .fieldLink RX3 15 "ResidueRows$Splitter" "residues" "LResidueRows$Residues;",
  .fieldLink RX3 19 "ResidueRows$Splitter" "known" "[I",
  .classLink RX3 23 "[[I",
  .fieldLink RX3 25 "ResidueRows$Splitter" "parts" "[[I",
  .fieldLink RX3 28 "ResidueRows$Splitter" "exponents" "[I",
  .fieldLink RX3 31 "ResidueRows$Splitter" "matrix" "[[I",
  .fieldLink RX3 34 "ResidueRows$Splitter" "pivotRows" "[I",
  .fieldLink RX3 37 "ResidueRows$Splitter" "fixed" "[[I",
  .fieldLink RX3 40 "ResidueRows$Splitter" "image" "[I",
  .fieldLink RX3 43 "ResidueRows$Splitter" "sign" "[I",
  .fieldLink RX3 46 "ResidueRows$Splitter" "shared" "[I",
  .fieldLink RX3 49 "ResidueRows$Splitter" "count" "I",
  .fieldLink RX3 52 "ResidueRows$Splitter" "dimensions" "I",
  .methodLink RX0 3 objectInit,
  .fieldLink RX0 9 "ResidueRows$Factored" "whole" "[I",
  .classLink RX0 15 "[[I",
  .fieldLink RX0 17 "ResidueRows$Factored" "factors" "[[I",
  .fieldLink RX0 20 "ResidueRows$Factored" "exponents" "[I",
  .fieldLink RX0 23 "ResidueRows$Factored" "numbers" "[I",
  .fieldLink RX0 26 "ResidueRows$Factored" "count" "I",
  .methodLink RX4 3 objectInit,
  .methodLink RX4 9 yX4_greatestPrimeUpTo,
  .static yX4_greatestPrimeUpTo,
  .initialized RX4,
  .fieldLink RX4 13 "ResidueRows" "prime" "I",
  .classLink RX4 17 "[[I",
  .fieldLink RX4 19 "ResidueRows" "rows" "[[I",
  .classLink RX4 22 RX2,
  .instantiable RX2 4,
  .initialized RX2,
  .code yX2_init cX2_init 2 none,
  .methodLink RX4 24 yX2_init,
  .instanceMethod yX2_init,
  .fieldLink RX4 27 "ResidueRows" "residues" "LResidueRows$Residues;",
  .classLink RX4 31 RX3,
  .instantiable RX3 13,
  .initialized RX3,
  .code yX3_init cX3_init 3 none,
  .methodLink RX4 33 yX3_init,
  .instanceMethod yX3_init,
  .fieldLink RX4 36 "ResidueRows" "splitter" "LResidueRows$Splitter;",
  .classLink RX4 40 RX1,
  .instantiable RX1 9,
  .initialized RX1,
  .code yX1_init cX1_init 3 none,
  .methodLink RX4 42 yX1_init,
  .instanceMethod yX1_init,
  .fieldLink RX4 43 "ResidueRows" "lifter" "LResidueRows$Lifter;",
  .classLink RX4 47 RX0,
  .instantiable RX0 5,
  .initialized RX0,
  .code yX0_init cX0_init 1 none,
  .methodLink RX4 49 yX0_init,
  .instanceMethod yX0_init,
  .fieldLink RX4 50 "ResidueRows" "latest" "LResidueRows$Factored;",
  .fieldLink RX4 54 "ResidueRows" "left" "[I",
  .fieldLink RX4 58 "ResidueRows" "right" "[I",
  .fieldLink RX4 61 "ResidueRows" "made" "[I",
  .fieldLink RX4 64 "ResidueRows" "next" "I",
  .methodLink RX5 1 objectInit,
  .fieldLink RX5 7 "ResidueRowsModel" "rows" "[J",
  .fieldLink RX5 13 "ResidueRowsModel" "kept" "[J",
  .fieldLink RX5 16 "ResidueRowsModel" "keptRows" "[J",
  .fieldLink RX5 19 "ResidueRowsModel" "keptNumbers" "[I",
  .fieldLink RX5 23 "ResidueRowsModel" "keptTimes" "[I",
  .fieldLink RX5 26 "ResidueRowsModel" "foundRows" "[J",
  .fieldLink RX5 29 "ResidueRowsModel" "foundTimes" "[I",
  .fieldLink RX5 32 "ResidueRowsModel" "wide" "[J",
  .fieldLink RX5 35 "ResidueRowsModel" "one" "[J",
  .fieldLink RX5 38 "ResidueRowsModel" "two" "[J",
  .fieldLink RX5 41 "ResidueRowsModel" "answer" "[J",
  .fieldLink RX5 44 "ResidueRowsModel" "gcdA" "[J",
  .fieldLink RX5 47 "ResidueRowsModel" "gcdB" "[J",
  .fieldLink RX5 50 "ResidueRowsModel" "gcdC" "[J",
  .fieldLink RX5 53 "ResidueRowsModel" "whole" "[J",
  .fieldLink RX5 56 "ResidueRowsModel" "slope" "[J",
  .fieldLink RX5 59 "ResidueRowsModel" "common" "[J",
  .fieldLink RX5 62 "ResidueRowsModel" "plain" "[J",
  .fieldLink RX5 65 "ResidueRowsModel" "left" "[J",
  .fieldLink RX5 68 "ResidueRowsModel" "base" "[J",
  .fieldLink RX5 71 "ResidueRowsModel" "square" "[J",
  .fieldLink RX5 74 "ResidueRowsModel" "some" "[J",
  .fieldLink RX5 77 "ResidueRowsModel" "tried" "[J",
  .fieldLink RX5 80 "ResidueRowsModel" "part" "[J",
  .fieldLink RX5 83 "ResidueRowsModel" "quotient" "[J",
  .fieldLink RX5 86 "ResidueRowsModel" "table" "[J",
  .fieldLink RX5 89 "ResidueRowsModel" "kernel" "[J",
  .fieldLink RX5 92 "ResidueRowsModel" "parts" "[J",
  .fieldLink RX5 95 "ResidueRowsModel" "pivots" "[I",
  .methodLink RX5 100 yX5_isPrime,
  .static yX5_isPrime,
  .initialized RX5,
  .fieldLink RX5 104 "ResidueRowsModel" "prime" "J",
  .constantLong RX5 98 2]
def kWS : List Cond := kWS0 ++ wsX00 ++ wsX10 ++ wsX20 ++ wsX30 ++ wsX40 ++ wsX50 ++ wsX4_greatestPrimeUpTo ++ wsX5_isPrime
theorem kWS_good : ∀ w ∈ kWS, goodWord w = true := by decide +kernel
theorem inKX0 : ∀ w ∈ wsX00, w ∈ kWS := by decide +kernel
theorem inKX1 : ∀ w ∈ wsX10, w ∈ kWS := by decide +kernel
theorem inKX2 : ∀ w ∈ wsX20, w ∈ kWS := by decide +kernel
theorem inKX3 : ∀ w ∈ wsX30, w ∈ kWS := by decide +kernel
theorem inKX4 : ∀ w ∈ wsX40, w ∈ kWS := by decide +kernel
theorem inKX5 : ∀ w ∈ wsX50, w ∈ kWS := by decide +kernel
theorem inKgp : ∀ w ∈ wsX4_greatestPrimeUpTo, w ∈ kWS := by decide +kernel
theorem inKip : ∀ w ∈ wsX5_isPrime, w ∈ kWS := by decide +kernel
theorem kWS_gi {hd : Cond} {w : Cond} (h : w ∈ kWS) : w ∈ hd :: kWS ∧ ((w.onTables && w.keeps) = true ∨ ∃ ty, w = .arrayClass ty) := ⟨List.mem_cons_of_mem _ h, good_of_word (kWS_good w h)⟩
theorem gKc {hd cw : Cond} (h : cw ∈ kWS) : GoodIn (hd :: kWS) (cw :: kWS) := fun w hw => kWS_gi ((List.mem_cons.mp hw).elim (fun e => e ▸ h) id)
theorem gKv {hd : Cond} {own : String} {idx : Nat} {C : String} {y : MethodName} {cc : ByteArray} {k : Nat} {r : Option FieldType} (h : ∀ w ∈ ([.methodLink own idx y, .instanceMethod y, .selects C y y, .initialized C, .code y cc k r] : List Cond), w ∈ kWS) : GoodIn (hd :: kWS) (wsV own idx C y (.code y cc k r :: kWS)) := fun w hw => kWS_gi (by
  simp only [wsV, List.mem_append, List.mem_cons, List.not_mem_nil, or_false] at hw h
  rcases hw with hw | hw | hw
  · exact h w (by rcases hw with e | e | e | e <;> simp [e])
  · exact h w (by simp [hw])
  · exact hw)
theorem gKs {hd : Cond} {own : String} {idx : Nat} {y : MethodName} {cc : ByteArray} {k : Nat} {r : Option FieldType} (h : ∀ w ∈ ([.methodLink own idx y, .static y, .initialized y.cls, .code y cc k r] : List Cond), w ∈ kWS) : GoodIn (hd :: kWS) (va_wsS own idx y (.code y cc k r :: kWS)) := fun w hw => kWS_gi (by
  simp only [va_wsS, List.mem_append, List.mem_cons, List.not_mem_nil, or_false] at hw h
  rcases hw with hw | hw | hw
  · exact h w (by rcases hw with e | e | e <;> simp [e])
  · exact h w (by simp [hw])
  · exact hw)
theorem gKp {hd : Cond} {own : String} {idx : Nat} {y : MethodName} {ws : List Cond} (h : ∀ w ∈ ([.methodLink own idx y, .static y, .initialized y.cls] : List Cond), w ∈ kWS) (h2 : ∀ w ∈ ws, w ∈ kWS) : GoodIn (hd :: kWS) (va_wsS own idx y ws) := fun w hw => kWS_gi (by
  rcases List.mem_append.mp hw with hw | hw
  · exact h w hw
  · exact h2 w hw)

