/-! WHAT STANDS AT THE ENTRY: the words of the start and of the tables, by their places (printed by wip/gen/genF7.py) -/
abbrev flW : List Cond := flatC (Jvm.Cond.and given_1 narrow_1)
def wTa (tm : Term) (ty : FieldType) (xs : List Int32) : List Cond := .arrayOf tm ty :: .eq (.length tm) (.int (Int32.ofNat xs.length)) :: (List.range xs.length).map (fun j => .eq (.elem tm (.int (Int32.ofNat j))) (.int (xs.getD j 0)))
abbrev tmZ (k : Nat) : Term := .string (stQ k).1 (stQ k).2.1
abbrev tmZv (k : Nat) : Term := .field (tmZ k) "java/lang/String" "value" "[B"
def wTs (k : Nat) : List Cond := .exactly (tmZ k) "java/lang/String" :: .eq (.field (tmZ k) "java/lang/String" "coder" "B") (.int 0) :: wTa (tmZv k) .byte (stS k)
set_option maxRecDepth 20000 in
theorem f60_0 : (flW.drop 73).take 5 = wTa (.static RX5 (stN 0) "[I") .int (stI 0) := rfl
set_option maxRecDepth 20000 in
theorem f60_1 : (flW.drop 79).take 6 = wTa (.static RX5 (stN 1) "[I") .int (stI 1) := rfl
set_option maxRecDepth 20000 in
theorem f60_2 : (flW.drop 86).take 6 = wTa (.static RX5 (stN 2) "[I") .int (stI 2) := rfl
set_option maxRecDepth 20000 in
theorem f60_3 : (flW.drop 93).take 7 = wTa (.static RX5 (stN 3) "[I") .int (stI 3) := rfl
set_option maxRecDepth 20000 in
theorem f60_4 : (flW.drop 60).take 5 = wTa (.static RX5 (stN 4) "[I") .int (stI 4) := rfl
set_option maxRecDepth 20000 in
theorem f60_5 : (flW.drop 66).take 6 = wTa (.static RX5 (stN 5) "[I") .int (stI 5) := rfl
set_option maxRecDepth 20000 in
theorem f60_6 : (flW.drop 10).take 9 = wTa (.static RX5 (stN 6) "[I") .int (stI 6) := rfl
set_option maxRecDepth 20000 in
theorem f60_7 : (flW.drop 20).take 9 = wTa (.static RX5 (stN 7) "[I") .int (stI 7) := rfl
set_option maxRecDepth 20000 in
theorem f60_8 : (flW.drop 30).take 9 = wTa (.static RX5 (stN 8) "[I") .int (stI 8) := rfl
set_option maxRecDepth 20000 in
theorem f60_9 : (flW.drop 40).take 9 = wTa (.static RX5 (stN 9) "[I") .int (stI 9) := rfl
set_option maxRecDepth 20000 in
theorem f60_10 : (flW.drop 50).take 9 = wTa (.static RX5 (stN 10) "[I") .int (stI 10) := rfl
set_option maxRecDepth 20000 in
theorem f64_0 : (flW.drop 101).take 102 = wTa (.static "java/lang/Integer" (stDN 0) "[B") .byte (stD 0) := rfl
set_option maxRecDepth 20000 in
theorem f64_1 : (flW.drop 204).take 102 = wTa (.static "java/lang/Integer" (stDN 1) "[B") .byte (stD 1) := rfl
set_option maxRecDepth 20000 in
theorem f61_0 : (flW.drop 306).take 8 = wTs 0 := rfl
set_option maxRecDepth 20000 in
theorem f61_1 : (flW.drop 434).take 8 = wTs 1 := rfl
set_option maxRecDepth 20000 in
theorem f61_2 : (flW.drop 452).take 7 = wTs 2 := rfl
set_option maxRecDepth 20000 in
theorem f61_3 : (flW.drop 470).take 7 = wTs 3 := rfl
set_option maxRecDepth 20000 in
theorem f61_4 : (flW.drop 489).take 9 = wTs 4 := rfl
set_option maxRecDepth 20000 in
theorem f61_5 : (flW.drop 511).take 9 = wTs 5 := rfl
set_option maxRecDepth 20000 in
theorem f61_6 : (flW.drop 314).take 11 = wTs 6 := rfl
set_option maxRecDepth 20000 in
theorem f61_7 : (flW.drop 326).take 6 = wTs 7 := rfl
set_option maxRecDepth 20000 in
theorem f61_8 : (flW.drop 334).take 6 = wTs 8 := rfl
set_option maxRecDepth 20000 in
theorem f61_9 : (flW.drop 343).take 6 = wTs 9 := rfl
set_option maxRecDepth 20000 in
theorem f61_10 : (flW.drop 378).take 6 = wTs 10 := rfl
set_option maxRecDepth 20000 in
theorem f61_11 : (flW.drop 390).take 8 = wTs 11 := rfl
set_option maxRecDepth 20000 in
theorem f61_12 : (flW.drop 353).take 20 = wTs 12 := rfl
set_option maxRecDepth 20000 in
theorem f61_13 : (flW.drop 405).take 6 = wTs 13 := rfl
set_option maxRecDepth 20000 in
theorem f61_14 : (flW.drop 419).take 6 = wTs 14 := rfl
set_option maxRecDepth 20000 in
theorem f61_15 : (flW.drop 534).take 11 = wTs 15 := rfl
set_option maxRecDepth 20000 in
theorem f_cs : flW[4]? = some (.eq (.static "java/lang/String" "COMPACT_STRINGS" "Z") (.int 1)) := rfl
set_option maxRecDepth 20000 in
theorem f_sq : flW[5]? = some (.isRef (.static "jdk/internal/util/Preconditions" "SIOOBE_FORMATTER" "Ljava/util/function/BiFunction;")) := rfl
set_option maxRecDepth 20000 in
theorem l60_0 : tables_1[897]? = some (.laysStatic RX5 (stN 0) "[I") := rfl
set_option maxRecDepth 20000 in
theorem l60_1 : tables_1[899]? = some (.laysStatic RX5 (stN 1) "[I") := rfl
set_option maxRecDepth 20000 in
theorem l60_2 : tables_1[909]? = some (.laysStatic RX5 (stN 2) "[I") := rfl
set_option maxRecDepth 20000 in
theorem l60_3 : tables_1[911]? = some (.laysStatic RX5 (stN 3) "[I") := rfl
set_option maxRecDepth 20000 in
theorem l60_4 : tables_1[886]? = some (.laysStatic RX5 (stN 4) "[I") := rfl
set_option maxRecDepth 20000 in
theorem l60_5 : tables_1[892]? = some (.laysStatic RX5 (stN 5) "[I") := rfl
set_option maxRecDepth 20000 in
theorem l60_6 : tables_1[576]? = some (.laysStatic RX5 (stN 6) "[I") := rfl
set_option maxRecDepth 20000 in
theorem l60_7 : tables_1[584]? = some (.laysStatic RX5 (stN 7) "[I") := rfl
set_option maxRecDepth 20000 in
theorem l60_8 : tables_1[586]? = some (.laysStatic RX5 (stN 8) "[I") := rfl
set_option maxRecDepth 20000 in
theorem l60_9 : tables_1[692]? = some (.laysStatic RX5 (stN 9) "[I") := rfl
set_option maxRecDepth 20000 in
theorem l60_10 : tables_1[694]? = some (.laysStatic RX5 (stN 10) "[I") := rfl
set_option maxRecDepth 20000 in
theorem l64_0 : tables_1[1091]? = some (.laysStatic "java/lang/Integer" (stDN 0) "[B") := rfl
set_option maxRecDepth 20000 in
theorem l64_1 : tables_1[1093]? = some (.laysStatic "java/lang/Integer" (stDN 1) "[B") := rfl
set_option maxRecDepth 20000 in
theorem l61_0 : tables_1[405]? = some (.stringRef (stQ 0).1 (stQ 0).2.1 (stQ 0).2.2) := rfl
set_option maxRecDepth 20000 in
theorem l61_1 : tables_1[641]? = some (.stringRef (stQ 1).1 (stQ 1).2.1 (stQ 1).2.2) := rfl
set_option maxRecDepth 20000 in
theorem l61_2 : tables_1[646]? = some (.stringRef (stQ 2).1 (stQ 2).2.1 (stQ 2).2.2) := rfl
set_option maxRecDepth 20000 in
theorem l61_3 : tables_1[663]? = some (.stringRef (stQ 3).1 (stQ 3).2.1 (stQ 3).2.2) := rfl
set_option maxRecDepth 20000 in
theorem l61_4 : tables_1[668]? = some (.stringRef (stQ 4).1 (stQ 4).2.1 (stQ 4).2.2) := rfl
set_option maxRecDepth 20000 in
theorem l61_5 : tables_1[673]? = some (.stringRef (stQ 5).1 (stQ 5).2.1 (stQ 5).2.2) := rfl
set_option maxRecDepth 20000 in
theorem l61_6 : tables_1[496]? = some (.stringRef (stQ 6).1 (stQ 6).2.1 (stQ 6).2.2) := rfl
set_option maxRecDepth 20000 in
theorem l61_7 : tables_1[612]? = some (.stringRef (stQ 7).1 (stQ 7).2.1 (stQ 7).2.2) := rfl
set_option maxRecDepth 20000 in
theorem l61_8 : tables_1[613]? = some (.stringRef (stQ 8).1 (stQ 8).2.1 (stQ 8).2.2) := rfl
set_option maxRecDepth 20000 in
theorem l61_9 : tables_1[614]? = some (.stringRef (stQ 9).1 (stQ 9).2.1 (stQ 9).2.2) := rfl
set_option maxRecDepth 20000 in
theorem l61_10 : tables_1[624]? = some (.stringRef (stQ 10).1 (stQ 10).2.1 (stQ 10).2.2) := rfl
set_option maxRecDepth 20000 in
theorem l61_11 : tables_1[625]? = some (.stringRef (stQ 11).1 (stQ 11).2.1 (stQ 11).2.2) := rfl
set_option maxRecDepth 20000 in
theorem l61_12 : tables_1[623]? = some (.stringRef (stQ 12).1 (stQ 12).2.1 (stQ 12).2.2) := rfl
set_option maxRecDepth 20000 in
theorem l61_13 : tables_1[634]? = some (.stringRef (stQ 13).1 (stQ 13).2.1 (stQ 13).2.2) := rfl
set_option maxRecDepth 20000 in
theorem l61_14 : tables_1[635]? = some (.stringRef (stQ 14).1 (stQ 14).2.1 (stQ 14).2.2) := rfl
set_option maxRecDepth 20000 in
theorem l61_15 : tables_1[1007]? = some (.stringRef (stQ 15).1 (stQ 15).2.1 (stQ 15).2.2) := rfl
set_option maxRecDepth 20000 in
theorem l_cs : tables_1[419]? = some (.laysStatic "java/lang/String" "COMPACT_STRINGS" "Z") := rfl
set_option maxRecDepth 20000 in
theorem l_sq : tables_1[435]? = some (.laysStatic "jdk/internal/util/Preconditions" "SIOOBE_FORMATTER" "Ljava/util/function/BiFunction;") := rfl
set_option maxRecDepth 20000 in
theorem l_i5 : tables_1[1]? = some (.initialized RX5) := rfl
set_option maxRecDepth 20000 in
theorem l_iI : tables_1[20]? = some (.initialized "java/lang/Integer") := rfl
set_option maxRecDepth 20000 in
theorem l_iS : tables_1[9]? = some (.initialized "java/lang/String") := rfl
set_option maxRecDepth 20000 in
theorem l_iP : tables_1[11]? = some (.initialized "jdk/internal/util/Preconditions") := rfl
set_option maxRecDepth 20000 in
theorem l_ai : tables_1[93]? = some (.arrayClass .int) := rfl
set_option maxRecDepth 20000 in
theorem l_ab : tables_1[682]? = some (.arrayClass .byte) := rfl
set_option maxRecDepth 20000 in
theorem l_ao : tables_1[228]? = some (.arrayOver (.object RX0)) := rfl
set_option maxRecDepth 20000 in
theorem l_im273 : tables_1[1018]? = some (.instanceMethod (mN 273)) := rfl
set_option maxRecDepth 20000 in
theorem l_im274 : tables_1[1022]? = some (.instanceMethod (mN 274)) := rfl
set_option maxRecDepth 20000 in
theorem l_in0 : tables_1[979]? = some (.instantiable (cN 0) (nf 0)) := rfl
set_option maxRecDepth 20000 in
theorem l_in1 : tables_1[229]? = some (.instantiable (cN 1) (nf 1)) := rfl
set_option maxRecDepth 20000 in
theorem l_in2 : tables_1[30]? = some (.instantiable (cN 2) (nf 2)) := rfl
set_option maxRecDepth 20000 in
theorem l_in3 : tables_1[101]? = some (.instantiable (cN 3) (nf 3)) := rfl
set_option maxRecDepth 20000 in
theorem l_in4 : tables_1[222]? = some (.instantiable (cN 4) (nf 4)) := rfl
set_option maxRecDepth 20000 in
theorem l_in5 : tables_1[95]? = some (.instantiable (cN 5) (nf 5)) := rfl
set_option maxRecDepth 20000 in
theorem l_in6 : tables_1[22]? = some (.instantiable (cN 6) (nf 6)) := rfl
set_option maxRecDepth 20000 in
theorem l_in7 : tables_1[1204]? = some (.instantiable (cN 7) (nf 7)) := rfl
