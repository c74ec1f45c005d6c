def wsX12_init : List Cond := .code yX12_init cX12_init 1 none :: ([.methodLink RX12 1 objectInit, .instanceMethod objectInit, .code objectInit ⟨#[0xb1]⟩ 1 none, .arrayClass .int, .fieldLink RX12 7 "TripleStoreModel$Digits" "one" "[I", .fieldLink RX12 13 "TripleStoreModel$Digits" "two" "[I", .fieldLink RX12 16 "TripleStoreModel$Digits" "row" "[I", .fieldLink RX12 19 "TripleStoreModel$Digits" "above" "[I", .fieldLink RX12 22 "TripleStoreModel$Digits" "under" "[I"] ++ wsX120)
def wsJxb5711_init_a7421 : List Cond := .code yJxb5711_init_a7421 cJxb5711_init_a7421 2 none :: ([])
def wsX13_init_r1 : List Cond := [Cond.classLink RX13 20 "java/lang/IllegalStateException", Cond.initialized "java/lang/IllegalStateException", Cond.methodLink RX13 3 objectInit, Cond.instanceMethod objectInit, Cond.code objectInit ⟨#[0xb1]⟩ 1 none, Cond.constant RX13 9 (390000), Cond.arrayClass .int, Cond.fieldLink RX13 10 "TripleStoreModel$Doer" "rows" "[I", Cond.fieldLink RX13 16 "TripleStoreModel$Doer" "left" "I", Cond.fieldLink RX13 27 "TripleStoreModel$Doer" "tooMuch" "Ljava/lang/IllegalStateException;", Cond.constant RX13 31 (110000), Cond.fieldLink RX13 32 "TripleStoreModel$Doer" "kept" "[I", Cond.fieldLink RX13 35 "TripleStoreModel$Doer" "orders" "[I", Cond.fieldLink RX13 38 "TripleStoreModel$Doer" "seen" "[I", Cond.fieldLink RX13 41 "TripleStoreModel$Doer" "patterns" "[I", Cond.fieldLink RX13 44 "TripleStoreModel$Doer" "trial" "[I", Cond.arrayClass .long, Cond.fieldLink RX13 47 "TripleStoreModel$Doer" "estimates" "[J", Cond.fieldLink RX13 51 "TripleStoreModel$Doer" "terms" "LTripleStoreModel$Terms;", Cond.fieldLink RX13 55 "TripleStoreModel$Doer" "digits" "LTripleStoreModel$Digits;", Cond.fieldLink RX13 59 "TripleStoreModel$Doer" "store" "LTripleStoreModel$Store;", Cond.fieldLink RX13 63 "TripleStoreModel$Doer" "paths" "LTripleStoreModel$Paths;", Cond.fieldLink RX13 67 "TripleStoreModel$Doer" "tree" "LTripleStoreModel$Tree;", Cond.methodLink RX13 24 yJxb5711_init_a7421]
def wsX13_init_r2 : List Cond := [Cond.instanceMethod yJxb5711_init_a7421, Cond.initialized RJxb5711, Cond.code yJxb5711_init_a7421 cJxb5711_init_a7421 2 none]
def wsX13_init : List Cond := .code yX13_init cX13_init 6 none :: ((wsX13_init_r1 ++ wsX13_init_r2) ++ wsX130 ++ wsJxb57110 ++ (vx_atS RX13 24 "java/lang/IllegalStateException" ["java/lang/RuntimeException", "java/lang/Exception"]).filter goodWord)
def wsX14_init : List Cond := .code yX14_init cX14_init 2 none :: ([.methodLink RX14 3 objectInit, .instanceMethod objectInit, .code objectInit ⟨#[0xb1]⟩ 1 none, .arrayClass .byte, .fieldLink RX14 9 "TripleStoreModel$Lexer" "text" "[B", .fieldLink RX14 15 "TripleStoreModel$Lexer" "terms" "LTripleStoreModel$Terms;"] ++ wsX140)
def wsX15_init : List Cond := .code yX15_init cX15_init 2 none :: ([.methodLink RX15 1 objectInit, .instanceMethod objectInit, .code objectInit ⟨#[0xb1]⟩ 1 none, .arrayClass .int, .fieldLink RX15 7 "TripleStoreModel$Paths" "sorts" "[I", .fieldLink RX15 13 "TripleStoreModel$Paths" "firsts" "[I", .fieldLink RX15 16 "TripleStoreModel$Paths" "seconds" "[I", .fieldLink RX15 19 "TripleStoreModel$Paths" "names" "[I", .constant RX15 22 (150100), .arrayClass .long, .fieldLink RX15 23 "TripleStoreModel$Paths" "rows" "[J", .fieldLink RX15 27 "TripleStoreModel$Paths" "store" "LTripleStoreModel$Store;"] ++ wsX150)
def wsX16_init : List Cond := .code yX16_init cX16_init 5 none :: ([.classLink RX16 9 "java/lang/IllegalStateException", .initialized "java/lang/IllegalStateException", .methodLink RX16 3 objectInit, .instanceMethod objectInit, .code objectInit ⟨#[0xb1]⟩ 1 none, .fieldLink RX16 16 "TripleStoreModel$Reader" "wrong" "Ljava/lang/IllegalStateException;", .arrayClass .int, .fieldLink RX16 21 "TripleStoreModel$Reader" "facts" "[I", .fieldLink RX16 25 "TripleStoreModel$Reader" "uses" "[I", .fieldLink RX16 28 "TripleStoreModel$Reader" "seen" "[I", .fieldLink RX16 31 "TripleStoreModel$Reader" "keptSeen" "[I", .fieldLink RX16 34 "TripleStoreModel$Reader" "lexer" "LTripleStoreModel$Lexer;", .fieldLink RX16 38 "TripleStoreModel$Reader" "terms" "LTripleStoreModel$Terms;", .fieldLink RX16 42 "TripleStoreModel$Reader" "tree" "LTripleStoreModel$Tree;", .fieldLink RX16 46 "TripleStoreModel$Reader" "paths" "LTripleStoreModel$Paths;", .methodLink RX16 13 yJxb5711_init_a7421, .instanceMethod yJxb5711_init_a7421, .initialized RJxb5711, .code yJxb5711_init_a7421 cJxb5711_init_a7421 2 none] ++ wsJxb57110 ++ wsX160 ++ (vx_atS RX16 13 "java/lang/IllegalStateException" ["java/lang/RuntimeException", "java/lang/Exception"]).filter goodWord)
def wsX17_init : List Cond := .code yX17_init cX17_init 2 none :: ([.methodLink RX17 3 objectInit, .instanceMethod objectInit, .code objectInit ⟨#[0xb1]⟩ 1 none, .arrayClass .int, .fieldLink RX17 9 "TripleStoreModel$Store" "said" "[I", .fieldLink RX17 15 "TripleStoreModel$Store" "row" "[I", .fieldLink RX17 18 "TripleStoreModel$Store" "heads" "[I", .fieldLink RX17 21 "TripleStoreModel$Store" "nexts" "[I", .fieldLink RX17 24 "TripleStoreModel$Store" "items" "[I", .fieldLink RX17 27 "TripleStoreModel$Store" "bodies" "[I", .fieldLink RX17 30 "TripleStoreModel$Store" "alls" "[I", .fieldLink RX17 33 "TripleStoreModel$Store" "values" "[I", .fieldLink RX17 36 "TripleStoreModel$Store" "bound" "[I", .fieldLink RX17 39 "TripleStoreModel$Store" "places" "[I", .fieldLink RX17 42 "TripleStoreModel$Store" "sorted" "[I", .fieldLink RX17 45 "TripleStoreModel$Store" "spare" "[I", .fieldLink RX17 48 "TripleStoreModel$Store" "terms" "LTripleStoreModel$Terms;"] ++ wsX170)
def wsX18_init : List Cond := .code yX18_init cX18_init 1 none :: ([.methodLink RX18 3 objectInit, .instanceMethod objectInit, .code objectInit ⟨#[0xb1]⟩ 1 none, .arrayClass .byte, .fieldLink RX18 9 "TripleStoreModel$Terms" "kinds" "[B", .arrayClass .long, .fieldLink RX18 15 "TripleStoreModel$Terms" "values" "[J", .fieldLink RX18 19 "TripleStoreModel$Terms" "scales" "[B", .arrayClass .int, .fieldLink RX18 22 "TripleStoreModel$Terms" "froms" "[I", .fieldLink RX18 26 "TripleStoreModel$Terms" "sizes" "[I", .fieldLink RX18 29 "TripleStoreModel$Terms" "borders" "[I", .arrayClass .boolean, .fieldLink RX18 32 "TripleStoreModel$Terms" "counted" "[Z", .constant RX18 36 (1002000), .fieldLink RX18 37 "TripleStoreModel$Terms" "pool" "[B", .fieldLink RX18 40 "TripleStoreModel$Terms" "bytes" "[B", .fieldLink RX18 43 "TripleStoreModel$Terms" "out" "[B"] ++ wsX180)
def wsX19_init_r1 : List Cond := [Cond.methodLink RX19 1 objectInit, Cond.instanceMethod objectInit, Cond.code objectInit ⟨#[0xb1]⟩ 1 none, Cond.arrayClass .int, Cond.fieldLink RX19 7 "TripleStoreModel$Tree" "nameFroms" "[I", Cond.fieldLink RX19 13 "TripleStoreModel$Tree" "nameTos" "[I", Cond.fieldLink RX19 16 "TripleStoreModel$Tree" "operations" "[I", Cond.fieldLink RX19 19 "TripleStoreModel$Tree" "numbers" "[I", Cond.fieldLink RX19 22 "TripleStoreModel$Tree" "kids" "[I", Cond.fieldLink RX19 25 "TripleStoreModel$Tree" "nexts" "[I", Cond.fieldLink RX19 28 "TripleStoreModel$Tree" "places" "[I", Cond.fieldLink RX19 31 "TripleStoreModel$Tree" "firstParts" "[I", Cond.fieldLink RX19 34 "TripleStoreModel$Tree" "selectOf" "[I", Cond.fieldLink RX19 37 "TripleStoreModel$Tree" "unions" "[I", Cond.fieldLink RX19 40 "TripleStoreModel$Tree" "partKinds" "[I", Cond.fieldLink RX19 43 "TripleStoreModel$Tree" "partNexts" "[I", Cond.fieldLink RX19 46 "TripleStoreModel$Tree" "partOnes" "[I", Cond.fieldLink RX19 49 "TripleStoreModel$Tree" "partTwos" "[I", Cond.fieldLink RX19 52 "TripleStoreModel$Tree" "blockFroms" "[I", Cond.fieldLink RX19 55 "TripleStoreModel$Tree" "blockTos" "[I", Cond.fieldLink RX19 58 "TripleStoreModel$Tree" "lines" "[I", Cond.fieldLink RX19 61 "TripleStoreModel$Tree" "linePaths" "[I", Cond.fieldLink RX19 64 "TripleStoreModel$Tree" "valueVars" "[I", Cond.fieldLink RX19 67 "TripleStoreModel$Tree" "valueFroms" "[I"]
def wsX19_init_r2 : List Cond := [Cond.fieldLink RX19 70 "TripleStoreModel$Tree" "valueWidths" "[I", Cond.fieldLink RX19 73 "TripleStoreModel$Tree" "givenFroms" "[I", Cond.fieldLink RX19 76 "TripleStoreModel$Tree" "givenRows" "[I", Cond.fieldLink RX19 79 "TripleStoreModel$Tree" "given" "[I", Cond.arrayClass .boolean, Cond.fieldLink RX19 82 "TripleStoreModel$Tree" "distinct" "[Z", Cond.fieldLink RX19 86 "TripleStoreModel$Tree" "star" "[Z", Cond.fieldLink RX19 89 "TripleStoreModel$Tree" "grouped" "[Z", Cond.fieldLink RX19 92 "TripleStoreModel$Tree" "itemFroms" "[I", Cond.fieldLink RX19 95 "TripleStoreModel$Tree" "itemCounts" "[I", Cond.fieldLink RX19 98 "TripleStoreModel$Tree" "setFroms" "[I", Cond.fieldLink RX19 101 "TripleStoreModel$Tree" "setCounts" "[I", Cond.fieldLink RX19 104 "TripleStoreModel$Tree" "havings" "[I", Cond.fieldLink RX19 107 "TripleStoreModel$Tree" "keyFroms" "[I", Cond.fieldLink RX19 110 "TripleStoreModel$Tree" "keyCounts" "[I", Cond.fieldLink RX19 113 "TripleStoreModel$Tree" "limits" "[I", Cond.fieldLink RX19 116 "TripleStoreModel$Tree" "offsets" "[I", Cond.fieldLink RX19 119 "TripleStoreModel$Tree" "bodies" "[I", Cond.fieldLink RX19 122 "TripleStoreModel$Tree" "columnFroms" "[I", Cond.fieldLink RX19 125 "TripleStoreModel$Tree" "columnCounts" "[I", Cond.fieldLink RX19 128 "TripleStoreModel$Tree" "columns" "[I", Cond.fieldLink RX19 131 "TripleStoreModel$Tree" "itemVars" "[I", Cond.fieldLink RX19 134 "TripleStoreModel$Tree" "itemExpressions" "[I", Cond.fieldLink RX19 137 "TripleStoreModel$Tree" "itemPlaces" "[I"]
def wsX19_init_r3 : List Cond := [Cond.fieldLink RX19 140 "TripleStoreModel$Tree" "keys" "[I", Cond.fieldLink RX19 143 "TripleStoreModel$Tree" "turned" "[Z"]
def wsX19_init : List Cond := .code yX19_init cX19_init 1 none :: ((wsX19_init_r1 ++ (wsX19_init_r2 ++ wsX19_init_r3)) ++ wsX190)
def wsX20_init_r1 : List Cond := [Cond.methodLink RX20 1 objectInit, Cond.instanceMethod objectInit, Cond.code objectInit ⟨#[0xb1]⟩ 1 none, Cond.classLink RX20 7 RX18, Cond.instantiable RX18 23, Cond.initialized RX18, Cond.fieldLink RX20 10 "TripleStoreModel" "terms" "LTripleStoreModel$Terms;", Cond.classLink RX20 16 RX12, Cond.instantiable RX12 9, Cond.initialized RX12, Cond.fieldLink RX20 19 "TripleStoreModel" "digits" "LTripleStoreModel$Digits;", Cond.classLink RX20 23 RX14, Cond.instantiable RX14 14, Cond.initialized RX14, Cond.fieldLink RX20 28 "TripleStoreModel" "lexer" "LTripleStoreModel$Lexer;", Cond.classLink RX20 32 RX19, Cond.instantiable RX19 56, Cond.initialized RX19, Cond.fieldLink RX20 35 "TripleStoreModel" "tree" "LTripleStoreModel$Tree;", Cond.classLink RX20 39 RX17, Cond.instantiable RX17 18, Cond.initialized RX17, Cond.fieldLink RX20 42 "TripleStoreModel" "store" "LTripleStoreModel$Store;", Cond.classLink RX20 46 RX15]
def wsX20_init_r2 : List Cond := [Cond.instantiable RX15 10, Cond.initialized RX15, Cond.fieldLink RX20 51 "TripleStoreModel" "paths" "LTripleStoreModel$Paths;", Cond.classLink RX20 55 RX16, Cond.instantiable RX16 33, Cond.initialized RX16, Cond.fieldLink RX20 60 "TripleStoreModel" "reader" "LTripleStoreModel$Reader;", Cond.classLink RX20 64 RX13, Cond.instantiable RX13 23, Cond.initialized RX13, Cond.fieldLink RX20 69 "TripleStoreModel" "doer" "LTripleStoreModel$Doer;", Cond.constant RX20 73 (192000), Cond.arrayClass .int, Cond.fieldLink RX20 74 "TripleStoreModel" "cells" "[I", Cond.arrayClass .byte, Cond.fieldLink RX20 78 "TripleStoreModel" "names" "[B", Cond.fieldLink RX20 82 "TripleStoreModel" "nameFroms" "[I", Cond.fieldLink RX20 85 "TripleStoreModel" "plan" "[I", Cond.fieldLink RX20 88 "TripleStoreModel" "given" "[I", Cond.fieldLink RX20 91 "TripleStoreModel" "givenHeads" "[I", Cond.fieldLink RX20 94 "TripleStoreModel" "givenNexts" "[I", Cond.fieldLink RX20 97 "TripleStoreModel" "sorted" "[I", Cond.fieldLink RX20 100 "TripleStoreModel" "before" "[I", Cond.fieldLink RX20 103 "TripleStoreModel" "fresh" "[I"]
def wsX20_init_r3 : List Cond := [Cond.fieldLink RX20 106 "TripleStoreModel" "goes" "[I", Cond.fieldLink RX20 109 "TripleStoreModel" "shown" "[B", Cond.instanceMethod yX18_init, Cond.code yX18_init cX18_init 1 none, Cond.methodLink RX18 3 objectInit, Cond.fieldLink RX18 9 "TripleStoreModel$Terms" "kinds" "[B", Cond.arrayClass .long, Cond.fieldLink RX18 15 "TripleStoreModel$Terms" "values" "[J", Cond.fieldLink RX18 19 "TripleStoreModel$Terms" "scales" "[B", Cond.fieldLink RX18 22 "TripleStoreModel$Terms" "froms" "[I", Cond.fieldLink RX18 26 "TripleStoreModel$Terms" "sizes" "[I", Cond.fieldLink RX18 29 "TripleStoreModel$Terms" "borders" "[I", Cond.arrayClass .boolean, Cond.fieldLink RX18 32 "TripleStoreModel$Terms" "counted" "[Z", Cond.constant RX18 36 (1002000), Cond.fieldLink RX18 37 "TripleStoreModel$Terms" "pool" "[B", Cond.fieldLink RX18 40 "TripleStoreModel$Terms" "bytes" "[B", Cond.fieldLink RX18 43 "TripleStoreModel$Terms" "out" "[B", Cond.instanceMethod yX12_init, Cond.code yX12_init cX12_init 1 none, Cond.methodLink RX12 1 objectInit, Cond.fieldLink RX12 7 "TripleStoreModel$Digits" "one" "[I", Cond.fieldLink RX12 13 "TripleStoreModel$Digits" "two" "[I", Cond.fieldLink RX12 16 "TripleStoreModel$Digits" "row" "[I"]
def wsX20_init_r4 : List Cond := [Cond.fieldLink RX12 19 "TripleStoreModel$Digits" "above" "[I", Cond.fieldLink RX12 22 "TripleStoreModel$Digits" "under" "[I", Cond.methodLink RX20 25 yX14_init, Cond.instanceMethod yX14_init, Cond.code yX14_init cX14_init 2 none, Cond.methodLink RX14 3 objectInit, Cond.fieldLink RX14 9 "TripleStoreModel$Lexer" "text" "[B", Cond.fieldLink RX14 15 "TripleStoreModel$Lexer" "terms" "LTripleStoreModel$Terms;", Cond.instanceMethod yX19_init, Cond.code yX19_init cX19_init 1 none, Cond.methodLink RX19 1 objectInit, Cond.fieldLink RX19 7 "TripleStoreModel$Tree" "nameFroms" "[I", Cond.fieldLink RX19 13 "TripleStoreModel$Tree" "nameTos" "[I", Cond.fieldLink RX19 16 "TripleStoreModel$Tree" "operations" "[I", Cond.fieldLink RX19 19 "TripleStoreModel$Tree" "numbers" "[I", Cond.fieldLink RX19 22 "TripleStoreModel$Tree" "kids" "[I", Cond.fieldLink RX19 25 "TripleStoreModel$Tree" "nexts" "[I", Cond.fieldLink RX19 28 "TripleStoreModel$Tree" "places" "[I", Cond.fieldLink RX19 31 "TripleStoreModel$Tree" "firstParts" "[I", Cond.fieldLink RX19 34 "TripleStoreModel$Tree" "selectOf" "[I", Cond.fieldLink RX19 37 "TripleStoreModel$Tree" "unions" "[I", Cond.fieldLink RX19 40 "TripleStoreModel$Tree" "partKinds" "[I", Cond.fieldLink RX19 43 "TripleStoreModel$Tree" "partNexts" "[I", Cond.fieldLink RX19 46 "TripleStoreModel$Tree" "partOnes" "[I"]
def wsX20_init_r5 : List Cond := [Cond.fieldLink RX19 49 "TripleStoreModel$Tree" "partTwos" "[I", Cond.fieldLink RX19 52 "TripleStoreModel$Tree" "blockFroms" "[I", Cond.fieldLink RX19 55 "TripleStoreModel$Tree" "blockTos" "[I", Cond.fieldLink RX19 58 "TripleStoreModel$Tree" "lines" "[I", Cond.fieldLink RX19 61 "TripleStoreModel$Tree" "linePaths" "[I", Cond.fieldLink RX19 64 "TripleStoreModel$Tree" "valueVars" "[I", Cond.fieldLink RX19 67 "TripleStoreModel$Tree" "valueFroms" "[I", Cond.fieldLink RX19 70 "TripleStoreModel$Tree" "valueWidths" "[I", Cond.fieldLink RX19 73 "TripleStoreModel$Tree" "givenFroms" "[I", Cond.fieldLink RX19 76 "TripleStoreModel$Tree" "givenRows" "[I", Cond.fieldLink RX19 79 "TripleStoreModel$Tree" "given" "[I", Cond.fieldLink RX19 82 "TripleStoreModel$Tree" "distinct" "[Z", Cond.fieldLink RX19 86 "TripleStoreModel$Tree" "star" "[Z", Cond.fieldLink RX19 89 "TripleStoreModel$Tree" "grouped" "[Z", Cond.fieldLink RX19 92 "TripleStoreModel$Tree" "itemFroms" "[I", Cond.fieldLink RX19 95 "TripleStoreModel$Tree" "itemCounts" "[I", Cond.fieldLink RX19 98 "TripleStoreModel$Tree" "setFroms" "[I", Cond.fieldLink RX19 101 "TripleStoreModel$Tree" "setCounts" "[I", Cond.fieldLink RX19 104 "TripleStoreModel$Tree" "havings" "[I", Cond.fieldLink RX19 107 "TripleStoreModel$Tree" "keyFroms" "[I", Cond.fieldLink RX19 110 "TripleStoreModel$Tree" "keyCounts" "[I", Cond.fieldLink RX19 113 "TripleStoreModel$Tree" "limits" "[I", Cond.fieldLink RX19 116 "TripleStoreModel$Tree" "offsets" "[I", Cond.fieldLink RX19 119 "TripleStoreModel$Tree" "bodies" "[I"]
def wsX20_init_r6 : List Cond := [Cond.fieldLink RX19 122 "TripleStoreModel$Tree" "columnFroms" "[I", Cond.fieldLink RX19 125 "TripleStoreModel$Tree" "columnCounts" "[I", Cond.fieldLink RX19 128 "TripleStoreModel$Tree" "columns" "[I", Cond.fieldLink RX19 131 "TripleStoreModel$Tree" "itemVars" "[I", Cond.fieldLink RX19 134 "TripleStoreModel$Tree" "itemExpressions" "[I", Cond.fieldLink RX19 137 "TripleStoreModel$Tree" "itemPlaces" "[I", Cond.fieldLink RX19 140 "TripleStoreModel$Tree" "keys" "[I", Cond.fieldLink RX19 143 "TripleStoreModel$Tree" "turned" "[Z", Cond.methodLink RX20 41 yX17_init, Cond.instanceMethod yX17_init, Cond.code yX17_init cX17_init 2 none, Cond.methodLink RX17 3 objectInit, Cond.fieldLink RX17 9 "TripleStoreModel$Store" "said" "[I", Cond.fieldLink RX17 15 "TripleStoreModel$Store" "row" "[I", Cond.fieldLink RX17 18 "TripleStoreModel$Store" "heads" "[I", Cond.fieldLink RX17 21 "TripleStoreModel$Store" "nexts" "[I", Cond.fieldLink RX17 24 "TripleStoreModel$Store" "items" "[I", Cond.fieldLink RX17 27 "TripleStoreModel$Store" "bodies" "[I", Cond.fieldLink RX17 30 "TripleStoreModel$Store" "alls" "[I", Cond.fieldLink RX17 33 "TripleStoreModel$Store" "values" "[I", Cond.fieldLink RX17 36 "TripleStoreModel$Store" "bound" "[I", Cond.fieldLink RX17 39 "TripleStoreModel$Store" "places" "[I", Cond.fieldLink RX17 42 "TripleStoreModel$Store" "sorted" "[I", Cond.fieldLink RX17 45 "TripleStoreModel$Store" "spare" "[I"]
def wsX20_init_r7 : List Cond := [Cond.fieldLink RX17 48 "TripleStoreModel$Store" "terms" "LTripleStoreModel$Terms;", Cond.methodLink RX20 48 yX15_init, Cond.instanceMethod yX15_init, Cond.code yX15_init cX15_init 2 none, Cond.methodLink RX15 1 objectInit, Cond.fieldLink RX15 7 "TripleStoreModel$Paths" "sorts" "[I", Cond.fieldLink RX15 13 "TripleStoreModel$Paths" "firsts" "[I", Cond.fieldLink RX15 16 "TripleStoreModel$Paths" "seconds" "[I", Cond.fieldLink RX15 19 "TripleStoreModel$Paths" "names" "[I", Cond.constant RX15 22 (150100), Cond.fieldLink RX15 23 "TripleStoreModel$Paths" "rows" "[J", Cond.fieldLink RX15 27 "TripleStoreModel$Paths" "store" "LTripleStoreModel$Store;", Cond.methodLink RX20 57 yX16_init, Cond.instanceMethod yX16_init, Cond.code yX16_init cX16_init 5 none, Cond.classLink RX16 9 "java/lang/IllegalStateException", Cond.initialized "java/lang/IllegalStateException", Cond.methodLink RX16 3 objectInit, Cond.fieldLink RX16 16 "TripleStoreModel$Reader" "wrong" "Ljava/lang/IllegalStateException;", Cond.fieldLink RX16 21 "TripleStoreModel$Reader" "facts" "[I", Cond.fieldLink RX16 25 "TripleStoreModel$Reader" "uses" "[I", Cond.fieldLink RX16 28 "TripleStoreModel$Reader" "seen" "[I", Cond.fieldLink RX16 31 "TripleStoreModel$Reader" "keptSeen" "[I", Cond.fieldLink RX16 34 "TripleStoreModel$Reader" "lexer" "LTripleStoreModel$Lexer;"]
def wsX20_init_r8 : List Cond := [Cond.fieldLink RX16 38 "TripleStoreModel$Reader" "terms" "LTripleStoreModel$Terms;", Cond.fieldLink RX16 42 "TripleStoreModel$Reader" "tree" "LTripleStoreModel$Tree;", Cond.fieldLink RX16 46 "TripleStoreModel$Reader" "paths" "LTripleStoreModel$Paths;", Cond.methodLink RX16 13 yJxb5711_init_a7421, Cond.instanceMethod yJxb5711_init_a7421, Cond.initialized RJxb5711, Cond.code yJxb5711_init_a7421 cJxb5711_init_a7421 2 none, Cond.methodLink RX20 66 yX13_init, Cond.instanceMethod yX13_init, Cond.code yX13_init cX13_init 6 none, Cond.classLink RX13 20 "java/lang/IllegalStateException", Cond.methodLink RX13 3 objectInit, Cond.constant RX13 9 (390000), Cond.fieldLink RX13 10 "TripleStoreModel$Doer" "rows" "[I", Cond.fieldLink RX13 16 "TripleStoreModel$Doer" "left" "I", Cond.fieldLink RX13 27 "TripleStoreModel$Doer" "tooMuch" "Ljava/lang/IllegalStateException;", Cond.constant RX13 31 (110000), Cond.fieldLink RX13 32 "TripleStoreModel$Doer" "kept" "[I", Cond.fieldLink RX13 35 "TripleStoreModel$Doer" "orders" "[I", Cond.fieldLink RX13 38 "TripleStoreModel$Doer" "seen" "[I", Cond.fieldLink RX13 41 "TripleStoreModel$Doer" "patterns" "[I", Cond.fieldLink RX13 44 "TripleStoreModel$Doer" "trial" "[I", Cond.fieldLink RX13 47 "TripleStoreModel$Doer" "estimates" "[J", Cond.fieldLink RX13 51 "TripleStoreModel$Doer" "terms" "LTripleStoreModel$Terms;"]
def wsX20_init_r9 : List Cond := [Cond.fieldLink RX13 55 "TripleStoreModel$Doer" "digits" "LTripleStoreModel$Digits;", Cond.fieldLink RX13 59 "TripleStoreModel$Doer" "store" "LTripleStoreModel$Store;", Cond.fieldLink RX13 63 "TripleStoreModel$Doer" "paths" "LTripleStoreModel$Paths;", Cond.fieldLink RX13 67 "TripleStoreModel$Doer" "tree" "LTripleStoreModel$Tree;", Cond.methodLink RX13 24 yJxb5711_init_a7421]
def wsX20_init : List Cond := .code yX20_init cX20_init 1 none :: ((wsX20_init_r1 ++ (wsX20_init_r2 ++ (wsX20_init_r3 ++ (wsX20_init_r4 ++ (wsX20_init_r5 ++ (wsX20_init_r6 ++ (wsX20_init_r7 ++ (wsX20_init_r8 ++ wsX20_init_r9)))))))) ++ wsX180 ++ wsX200 ++ wsX120 ++ wsX140 ++ wsX190 ++ wsX170 ++ wsX150 ++ wsX160 ++ wsX130 ++ wsJxb57110 ++ (vx_atS RX16 13 "java/lang/IllegalStateException" ["java/lang/RuntimeException", "java/lang/Exception"]).filter goodWord ++ (vx_atS RX13 24 "java/lang/IllegalStateException" ["java/lang/RuntimeException", "java/lang/Exception"]).filter goodWord)
theorem dX12_init_0 : decode cX12_init 0 = .ok (.aload_n 0, 1) := by decide +kernel
theorem dX12_init_1 : decode cX12_init 1 = .ok (.invokespecial 1, 3) := by decide +kernel
theorem dX12_init_4 : decode cX12_init 4 = .ok (.aload_n 0, 1) := by decide +kernel
theorem dX12_init_5 : decode cX12_init 5 = .ok (.bipush 60, 2) := by decide +kernel
theorem dX12_init_7 : decode cX12_init 7 = .ok (.newarray .int, 2) := by decide +kernel
theorem dX12_init_9 : decode cX12_init 9 = .ok (.putfield 7, 3) := by decide +kernel
theorem dX12_init_12 : decode cX12_init 12 = .ok (.aload_n 0, 1) := by decide +kernel
theorem dX12_init_13 : decode cX12_init 13 = .ok (.bipush 60, 2) := by decide +kernel
theorem dX12_init_15 : decode cX12_init 15 = .ok (.newarray .int, 2) := by decide +kernel
theorem dX12_init_17 : decode cX12_init 17 = .ok (.putfield 13, 3) := by decide +kernel
theorem dX12_init_20 : decode cX12_init 20 = .ok (.aload_n 0, 1) := by decide +kernel
theorem dX12_init_21 : decode cX12_init 21 = .ok (.bipush 60, 2) := by decide +kernel
theorem dX12_init_23 : decode cX12_init 23 = .ok (.newarray .int, 2) := by decide +kernel
theorem dX12_init_25 : decode cX12_init 25 = .ok (.putfield 16, 3) := by decide +kernel
theorem dX12_init_28 : decode cX12_init 28 = .ok (.aload_n 0, 1) := by decide +kernel
theorem dX12_init_29 : decode cX12_init 29 = .ok (.bipush 60, 2) := by decide +kernel
theorem dX12_init_31 : decode cX12_init 31 = .ok (.newarray .int, 2) := by decide +kernel
theorem dX12_init_33 : decode cX12_init 33 = .ok (.putfield 19, 3) := by decide +kernel
theorem dX12_init_36 : decode cX12_init 36 = .ok (.aload_n 0, 1) := by decide +kernel
theorem dX12_init_37 : decode cX12_init 37 = .ok (.bipush 60, 2) := by decide +kernel
theorem dX12_init_39 : decode cX12_init 39 = .ok (.newarray .int, 2) := by decide +kernel
theorem dX12_init_41 : decode cX12_init 41 = .ok (.putfield 22, 3) := by decide +kernel
theorem dX12_init_44 : decode cX12_init 44 = .ok (.return_, 1) := by decide +kernel
theorem dX13_init_0 : decode cX13_init 0 = .ok (.aload_n 0, 1) := by decide +kernel
theorem dX13_init_1 : decode cX13_init 1 = .ok (.invokespecial 3, 3) := by decide +kernel
theorem dX13_init_4 : decode cX13_init 4 = .ok (.aload_n 0, 1) := by decide +kernel
theorem dX13_init_5 : decode cX13_init 5 = .ok (.ldc 9, 2) := by decide +kernel
theorem dX13_init_7 : decode cX13_init 7 = .ok (.newarray .int, 2) := by decide +kernel
theorem dX13_init_9 : decode cX13_init 9 = .ok (.putfield 10, 3) := by decide +kernel
theorem dX13_init_12 : decode cX13_init 12 = .ok (.aload_n 0, 1) := by decide +kernel
theorem dX13_init_13 : decode cX13_init 13 = .ok (.sipush 20000, 3) := by decide +kernel
theorem dX13_init_16 : decode cX13_init 16 = .ok (.putfield 16, 3) := by decide +kernel
theorem dX13_init_19 : decode cX13_init 19 = .ok (.aload_n 0, 1) := by decide +kernel
theorem dX13_init_20 : decode cX13_init 20 = .ok (.new 20, 3) := by decide +kernel
theorem dX13_init_23 : decode cX13_init 23 = .ok (.dup, 1) := by decide +kernel
theorem dX13_init_24 : decode cX13_init 24 = .ok (.ldc 22, 2) := by decide +kernel
theorem dX13_init_26 : decode cX13_init 26 = .ok (.invokespecial 24, 3) := by decide +kernel
theorem dX13_init_29 : decode cX13_init 29 = .ok (.putfield 27, 3) := by decide +kernel
theorem dX13_init_32 : decode cX13_init 32 = .ok (.aload_n 0, 1) := by decide +kernel
theorem dX13_init_33 : decode cX13_init 33 = .ok (.ldc 31, 2) := by decide +kernel
theorem dX13_init_35 : decode cX13_init 35 = .ok (.newarray .int, 2) := by decide +kernel
theorem dX13_init_37 : decode cX13_init 37 = .ok (.putfield 32, 3) := by decide +kernel
theorem dX13_init_40 : decode cX13_init 40 = .ok (.aload_n 0, 1) := by decide +kernel
theorem dX13_init_41 : decode cX13_init 41 = .ok (.bipush 64, 2) := by decide +kernel
theorem dX13_init_43 : decode cX13_init 43 = .ok (.newarray .int, 2) := by decide +kernel
theorem dX13_init_45 : decode cX13_init 45 = .ok (.putfield 35, 3) := by decide +kernel
theorem dX13_init_48 : decode cX13_init 48 = .ok (.aload_n 0, 1) := by decide +kernel
theorem dX13_init_49 : decode cX13_init 49 = .ok (.sipush 11402, 3) := by decide +kernel
theorem dX13_init_52 : decode cX13_init 52 = .ok (.newarray .int, 2) := by decide +kernel
theorem dX13_init_54 : decode cX13_init 54 = .ok (.putfield 38, 3) := by decide +kernel
theorem dX13_init_57 : decode cX13_init 57 = .ok (.aload_n 0, 1) := by decide +kernel
theorem dX13_init_58 : decode cX13_init 58 = .ok (.bipush 8, 2) := by decide +kernel
theorem dX13_init_60 : decode cX13_init 60 = .ok (.newarray .int, 2) := by decide +kernel
theorem dX13_init_62 : decode cX13_init 62 = .ok (.putfield 41, 3) := by decide +kernel
theorem dX13_init_65 : decode cX13_init 65 = .ok (.aload_n 0, 1) := by decide +kernel
theorem dX13_init_66 : decode cX13_init 66 = .ok (.bipush 8, 2) := by decide +kernel
theorem dX13_init_68 : decode cX13_init 68 = .ok (.newarray .int, 2) := by decide +kernel
theorem dX13_init_70 : decode cX13_init 70 = .ok (.putfield 44, 3) := by decide +kernel
theorem dX13_init_73 : decode cX13_init 73 = .ok (.aload_n 0, 1) := by decide +kernel
theorem dX13_init_74 : decode cX13_init 74 = .ok (.bipush 64, 2) := by decide +kernel
theorem dX13_init_76 : decode cX13_init 76 = .ok (.newarray .long, 2) := by decide +kernel
theorem dX13_init_78 : decode cX13_init 78 = .ok (.putfield 47, 3) := by decide +kernel
theorem dX13_init_81 : decode cX13_init 81 = .ok (.aload_n 0, 1) := by decide +kernel
theorem dX13_init_82 : decode cX13_init 82 = .ok (.aload_n 1, 1) := by decide +kernel
theorem dX13_init_83 : decode cX13_init 83 = .ok (.putfield 51, 3) := by decide +kernel
theorem dX13_init_86 : decode cX13_init 86 = .ok (.aload_n 0, 1) := by decide +kernel
theorem dX13_init_87 : decode cX13_init 87 = .ok (.aload_n 2, 1) := by decide +kernel
theorem dX13_init_88 : decode cX13_init 88 = .ok (.putfield 55, 3) := by decide +kernel
theorem dX13_init_91 : decode cX13_init 91 = .ok (.aload_n 0, 1) := by decide +kernel
theorem dX13_init_92 : decode cX13_init 92 = .ok (.aload_n 3, 1) := by decide +kernel
theorem dX13_init_93 : decode cX13_init 93 = .ok (.putfield 59, 3) := by decide +kernel
theorem dX13_init_96 : decode cX13_init 96 = .ok (.aload_n 0, 1) := by decide +kernel
theorem dX13_init_97 : decode cX13_init 97 = .ok (.aload 4, 2) := by decide +kernel
theorem dX13_init_99 : decode cX13_init 99 = .ok (.putfield 63, 3) := by decide +kernel
theorem dX13_init_102 : decode cX13_init 102 = .ok (.aload_n 0, 1) := by decide +kernel
theorem dX13_init_103 : decode cX13_init 103 = .ok (.aload 5, 2) := by decide +kernel
theorem dX13_init_105 : decode cX13_init 105 = .ok (.putfield 67, 3) := by decide +kernel
theorem dX13_init_108 : decode cX13_init 108 = .ok (.return_, 1) := by decide +kernel
theorem dX14_init_0 : decode cX14_init 0 = .ok (.aload_n 0, 1) := by decide +kernel
theorem dX14_init_1 : decode cX14_init 1 = .ok (.invokespecial 3, 3) := by decide +kernel
theorem dX14_init_4 : decode cX14_init 4 = .ok (.aload_n 0, 1) := by decide +kernel
theorem dX14_init_5 : decode cX14_init 5 = .ok (.sipush 4000, 3) := by decide +kernel
theorem dX14_init_8 : decode cX14_init 8 = .ok (.newarray .byte, 2) := by decide +kernel
theorem dX14_init_10 : decode cX14_init 10 = .ok (.putfield 9, 3) := by decide +kernel
theorem dX14_init_13 : decode cX14_init 13 = .ok (.aload_n 0, 1) := by decide +kernel
theorem dX14_init_14 : decode cX14_init 14 = .ok (.aload_n 1, 1) := by decide +kernel
theorem dX14_init_15 : decode cX14_init 15 = .ok (.putfield 15, 3) := by decide +kernel
theorem dX14_init_18 : decode cX14_init 18 = .ok (.return_, 1) := by decide +kernel
theorem dX15_init_0 : decode cX15_init 0 = .ok (.aload_n 0, 1) := by decide +kernel
theorem dX15_init_1 : decode cX15_init 1 = .ok (.invokespecial 1, 3) := by decide +kernel
theorem dX15_init_4 : decode cX15_init 4 = .ok (.aload_n 0, 1) := by decide +kernel
theorem dX15_init_5 : decode cX15_init 5 = .ok (.sipush 900, 3) := by decide +kernel
theorem dX15_init_8 : decode cX15_init 8 = .ok (.newarray .int, 2) := by decide +kernel
theorem dX15_init_10 : decode cX15_init 10 = .ok (.putfield 7, 3) := by decide +kernel
theorem dX15_init_13 : decode cX15_init 13 = .ok (.aload_n 0, 1) := by decide +kernel
theorem dX15_init_14 : decode cX15_init 14 = .ok (.sipush 900, 3) := by decide +kernel
theorem dX15_init_17 : decode cX15_init 17 = .ok (.newarray .int, 2) := by decide +kernel
theorem dX15_init_19 : decode cX15_init 19 = .ok (.putfield 13, 3) := by decide +kernel
theorem dX15_init_22 : decode cX15_init 22 = .ok (.aload_n 0, 1) := by decide +kernel
theorem dX15_init_23 : decode cX15_init 23 = .ok (.sipush 900, 3) := by decide +kernel
theorem dX15_init_26 : decode cX15_init 26 = .ok (.newarray .int, 2) := by decide +kernel
theorem dX15_init_28 : decode cX15_init 28 = .ok (.putfield 16, 3) := by decide +kernel
theorem dX15_init_31 : decode cX15_init 31 = .ok (.aload_n 0, 1) := by decide +kernel
theorem dX15_init_32 : decode cX15_init 32 = .ok (.sipush 900, 3) := by decide +kernel
theorem dX15_init_35 : decode cX15_init 35 = .ok (.newarray .int, 2) := by decide +kernel
theorem dX15_init_37 : decode cX15_init 37 = .ok (.putfield 19, 3) := by decide +kernel
theorem dX15_init_40 : decode cX15_init 40 = .ok (.aload_n 0, 1) := by decide +kernel
theorem dX15_init_41 : decode cX15_init 41 = .ok (.ldc 22, 2) := by decide +kernel
theorem dX15_init_43 : decode cX15_init 43 = .ok (.newarray .long, 2) := by decide +kernel
theorem dX15_init_45 : decode cX15_init 45 = .ok (.putfield 23, 3) := by decide +kernel
theorem dX15_init_48 : decode cX15_init 48 = .ok (.aload_n 0, 1) := by decide +kernel
theorem dX15_init_49 : decode cX15_init 49 = .ok (.aload_n 1, 1) := by decide +kernel
theorem dX15_init_50 : decode cX15_init 50 = .ok (.putfield 27, 3) := by decide +kernel
theorem dX15_init_53 : decode cX15_init 53 = .ok (.return_, 1) := by decide +kernel
theorem dX16_init_0 : decode cX16_init 0 = .ok (.aload_n 0, 1) := by decide +kernel
theorem dX16_init_1 : decode cX16_init 1 = .ok (.invokespecial 3, 3) := by decide +kernel
theorem dX16_init_4 : decode cX16_init 4 = .ok (.aload_n 0, 1) := by decide +kernel
theorem dX16_init_5 : decode cX16_init 5 = .ok (.new 9, 3) := by decide +kernel
theorem dX16_init_8 : decode cX16_init 8 = .ok (.dup, 1) := by decide +kernel
theorem dX16_init_9 : decode cX16_init 9 = .ok (.ldc 11, 2) := by decide +kernel
theorem dX16_init_11 : decode cX16_init 11 = .ok (.invokespecial 13, 3) := by decide +kernel
theorem dX16_init_14 : decode cX16_init 14 = .ok (.putfield 16, 3) := by decide +kernel
theorem dX16_init_17 : decode cX16_init 17 = .ok (.aload_n 0, 1) := by decide +kernel
theorem dX16_init_18 : decode cX16_init 18 = .ok (.sipush 6600, 3) := by decide +kernel
theorem dX16_init_21 : decode cX16_init 21 = .ok (.newarray .int, 2) := by decide +kernel
theorem dX16_init_23 : decode cX16_init 23 = .ok (.putfield 21, 3) := by decide +kernel
theorem dX16_init_26 : decode cX16_init 26 = .ok (.aload_n 0, 1) := by decide +kernel
theorem dX16_init_27 : decode cX16_init 27 = .ok (.sipush 4000, 3) := by decide +kernel
theorem dX16_init_30 : decode cX16_init 30 = .ok (.newarray .int, 2) := by decide +kernel
theorem dX16_init_32 : decode cX16_init 32 = .ok (.putfield 25, 3) := by decide +kernel
theorem dX16_init_35 : decode cX16_init 35 = .ok (.aload_n 0, 1) := by decide +kernel
theorem dX16_init_36 : decode cX16_init 36 = .ok (.sipush 300, 3) := by decide +kernel
theorem dX16_init_39 : decode cX16_init 39 = .ok (.newarray .int, 2) := by decide +kernel
theorem dX16_init_41 : decode cX16_init 41 = .ok (.putfield 28, 3) := by decide +kernel
theorem dX16_init_44 : decode cX16_init 44 = .ok (.aload_n 0, 1) := by decide +kernel
theorem dX16_init_45 : decode cX16_init 45 = .ok (.sipush 1100, 3) := by decide +kernel
theorem dX16_init_48 : decode cX16_init 48 = .ok (.newarray .int, 2) := by decide +kernel
theorem dX16_init_50 : decode cX16_init 50 = .ok (.putfield 31, 3) := by decide +kernel
theorem dX16_init_53 : decode cX16_init 53 = .ok (.aload_n 0, 1) := by decide +kernel
theorem dX16_init_54 : decode cX16_init 54 = .ok (.aload_n 1, 1) := by decide +kernel
theorem dX16_init_55 : decode cX16_init 55 = .ok (.putfield 34, 3) := by decide +kernel
theorem dX16_init_58 : decode cX16_init 58 = .ok (.aload_n 0, 1) := by decide +kernel
theorem dX16_init_59 : decode cX16_init 59 = .ok (.aload_n 2, 1) := by decide +kernel
theorem dX16_init_60 : decode cX16_init 60 = .ok (.putfield 38, 3) := by decide +kernel
theorem dX16_init_63 : decode cX16_init 63 = .ok (.aload_n 0, 1) := by decide +kernel
theorem dX16_init_64 : decode cX16_init 64 = .ok (.aload_n 3, 1) := by decide +kernel
theorem dX16_init_65 : decode cX16_init 65 = .ok (.putfield 42, 3) := by decide +kernel
theorem dX16_init_68 : decode cX16_init 68 = .ok (.aload_n 0, 1) := by decide +kernel
theorem dX16_init_69 : decode cX16_init 69 = .ok (.aload 4, 2) := by decide +kernel
theorem dX16_init_71 : decode cX16_init 71 = .ok (.putfield 46, 3) := by decide +kernel
theorem dX16_init_74 : decode cX16_init 74 = .ok (.return_, 1) := by decide +kernel
theorem dX17_init_0 : decode cX17_init 0 = .ok (.aload_n 0, 1) := by decide +kernel
theorem dX17_init_1 : decode cX17_init 1 = .ok (.invokespecial 3, 3) := by decide +kernel
theorem dX17_init_4 : decode cX17_init 4 = .ok (.aload_n 0, 1) := by decide +kernel
theorem dX17_init_5 : decode cX17_init 5 = .ok (.sipush 9000, 3) := by decide +kernel
theorem dX17_init_8 : decode cX17_init 8 = .ok (.newarray .int, 2) := by decide +kernel
theorem dX17_init_10 : decode cX17_init 10 = .ok (.putfield 9, 3) := by decide +kernel
theorem dX17_init_13 : decode cX17_init 13 = .ok (.aload_n 0, 1) := by decide +kernel
theorem dX17_init_14 : decode cX17_init 14 = .ok (.sipush 9003, 3) := by decide +kernel
theorem dX17_init_17 : decode cX17_init 17 = .ok (.newarray .int, 2) := by decide +kernel
theorem dX17_init_19 : decode cX17_init 19 = .ok (.putfield 15, 3) := by decide +kernel
theorem dX17_init_22 : decode cX17_init 22 = .ok (.aload_n 0, 1) := by decide +kernel
theorem dX17_init_23 : decode cX17_init 23 = .ok (.sipush 8192, 3) := by decide +kernel
theorem dX17_init_26 : decode cX17_init 26 = .ok (.newarray .int, 2) := by decide +kernel
theorem dX17_init_28 : decode cX17_init 28 = .ok (.putfield 18, 3) := by decide +kernel
theorem dX17_init_31 : decode cX17_init 31 = .ok (.aload_n 0, 1) := by decide +kernel
theorem dX17_init_32 : decode cX17_init 32 = .ok (.sipush 3001, 3) := by decide +kernel
theorem dX17_init_35 : decode cX17_init 35 = .ok (.newarray .int, 2) := by decide +kernel
theorem dX17_init_37 : decode cX17_init 37 = .ok (.putfield 21, 3) := by decide +kernel
theorem dX17_init_40 : decode cX17_init 40 = .ok (.aload_n 0, 1) := by decide +kernel
theorem dX17_init_41 : decode cX17_init 41 = .ok (.sipush 357, 3) := by decide +kernel
theorem dX17_init_44 : decode cX17_init 44 = .ok (.newarray .int, 2) := by decide +kernel
theorem dX17_init_46 : decode cX17_init 46 = .ok (.putfield 24, 3) := by decide +kernel
theorem dX17_init_49 : decode cX17_init 49 = .ok (.aload_n 0, 1) := by decide +kernel
theorem dX17_init_50 : decode cX17_init 50 = .ok (.bipush 17, 2) := by decide +kernel
theorem dX17_init_52 : decode cX17_init 52 = .ok (.newarray .int, 2) := by decide +kernel
theorem dX17_init_54 : decode cX17_init 54 = .ok (.putfield 27, 3) := by decide +kernel
theorem dX17_init_57 : decode cX17_init 57 = .ok (.aload_n 0, 1) := by decide +kernel
theorem dX17_init_58 : decode cX17_init 58 = .ok (.bipush 17, 2) := by decide +kernel
theorem dX17_init_60 : decode cX17_init 60 = .ok (.newarray .int, 2) := by decide +kernel
theorem dX17_init_62 : decode cX17_init 62 = .ok (.putfield 30, 3) := by decide +kernel
theorem dX17_init_65 : decode cX17_init 65 = .ok (.aload_n 0, 1) := by decide +kernel
theorem dX17_init_66 : decode cX17_init 66 = .ok (.bipush 25, 2) := by decide +kernel
theorem dX17_init_68 : decode cX17_init 68 = .ok (.newarray .int, 2) := by decide +kernel
theorem dX17_init_70 : decode cX17_init 70 = .ok (.putfield 33, 3) := by decide +kernel
theorem dX17_init_73 : decode cX17_init 73 = .ok (.aload_n 0, 1) := by decide +kernel
theorem dX17_init_74 : decode cX17_init 74 = .ok (.bipush 25, 2) := by decide +kernel
theorem dX17_init_76 : decode cX17_init 76 = .ok (.newarray .int, 2) := by decide +kernel
theorem dX17_init_78 : decode cX17_init 78 = .ok (.putfield 36, 3) := by decide +kernel
theorem dX17_init_81 : decode cX17_init 81 = .ok (.aload_n 0, 1) := by decide +kernel
theorem dX17_init_82 : decode cX17_init 82 = .ok (.iconst 4, 1) := by decide +kernel
theorem dX17_init_83 : decode cX17_init 83 = .ok (.newarray .int, 2) := by decide +kernel
theorem dX17_init_85 : decode cX17_init 85 = .ok (.putfield 39, 3) := by decide +kernel
theorem dX17_init_88 : decode cX17_init 88 = .ok (.aload_n 0, 1) := by decide +kernel
theorem dX17_init_89 : decode cX17_init 89 = .ok (.sipush 18000, 3) := by decide +kernel
theorem dX17_init_92 : decode cX17_init 92 = .ok (.newarray .int, 2) := by decide +kernel
theorem dX17_init_94 : decode cX17_init 94 = .ok (.putfield 42, 3) := by decide +kernel
theorem dX17_init_97 : decode cX17_init 97 = .ok (.aload_n 0, 1) := by decide +kernel
theorem dX17_init_98 : decode cX17_init 98 = .ok (.sipush 3000, 3) := by decide +kernel
theorem dX17_init_101 : decode cX17_init 101 = .ok (.newarray .int, 2) := by decide +kernel
theorem dX17_init_103 : decode cX17_init 103 = .ok (.putfield 45, 3) := by decide +kernel
theorem dX17_init_106 : decode cX17_init 106 = .ok (.aload_n 0, 1) := by decide +kernel
theorem dX17_init_107 : decode cX17_init 107 = .ok (.aload_n 1, 1) := by decide +kernel
theorem dX17_init_108 : decode cX17_init 108 = .ok (.putfield 48, 3) := by decide +kernel
theorem dX17_init_111 : decode cX17_init 111 = .ok (.return_, 1) := by decide +kernel
theorem dX18_init_0 : decode cX18_init 0 = .ok (.aload_n 0, 1) := by decide +kernel
theorem dX18_init_1 : decode cX18_init 1 = .ok (.invokespecial 3, 3) := by decide +kernel
theorem dX18_init_4 : decode cX18_init 4 = .ok (.aload_n 0, 1) := by decide +kernel
theorem dX18_init_5 : decode cX18_init 5 = .ok (.sipush 11402, 3) := by decide +kernel
theorem dX18_init_8 : decode cX18_init 8 = .ok (.newarray .byte, 2) := by decide +kernel
theorem dX18_init_10 : decode cX18_init 10 = .ok (.putfield 9, 3) := by decide +kernel
theorem dX18_init_13 : decode cX18_init 13 = .ok (.aload_n 0, 1) := by decide +kernel
theorem dX18_init_14 : decode cX18_init 14 = .ok (.sipush 11402, 3) := by decide +kernel
theorem dX18_init_17 : decode cX18_init 17 = .ok (.newarray .long, 2) := by decide +kernel
theorem dX18_init_19 : decode cX18_init 19 = .ok (.putfield 15, 3) := by decide +kernel
theorem dX18_init_22 : decode cX18_init 22 = .ok (.aload_n 0, 1) := by decide +kernel
theorem dX18_init_23 : decode cX18_init 23 = .ok (.sipush 11402, 3) := by decide +kernel
theorem dX18_init_26 : decode cX18_init 26 = .ok (.newarray .byte, 2) := by decide +kernel
theorem dX18_init_28 : decode cX18_init 28 = .ok (.putfield 19, 3) := by decide +kernel
theorem dX18_init_31 : decode cX18_init 31 = .ok (.aload_n 0, 1) := by decide +kernel
theorem dX18_init_32 : decode cX18_init 32 = .ok (.sipush 11402, 3) := by decide +kernel
theorem dX18_init_35 : decode cX18_init 35 = .ok (.newarray .int, 2) := by decide +kernel
theorem dX18_init_37 : decode cX18_init 37 = .ok (.putfield 22, 3) := by decide +kernel
theorem dX18_init_40 : decode cX18_init 40 = .ok (.aload_n 0, 1) := by decide +kernel
theorem dX18_init_41 : decode cX18_init 41 = .ok (.sipush 11402, 3) := by decide +kernel
theorem dX18_init_44 : decode cX18_init 44 = .ok (.newarray .int, 2) := by decide +kernel
theorem dX18_init_46 : decode cX18_init 46 = .ok (.putfield 26, 3) := by decide +kernel
theorem dX18_init_49 : decode cX18_init 49 = .ok (.aload_n 0, 1) := by decide +kernel
theorem dX18_init_50 : decode cX18_init 50 = .ok (.sipush 11402, 3) := by decide +kernel
theorem dX18_init_53 : decode cX18_init 53 = .ok (.newarray .int, 2) := by decide +kernel
theorem dX18_init_55 : decode cX18_init 55 = .ok (.putfield 29, 3) := by decide +kernel
theorem dX18_init_58 : decode cX18_init 58 = .ok (.aload_n 0, 1) := by decide +kernel
theorem dX18_init_59 : decode cX18_init 59 = .ok (.sipush 6001, 3) := by decide +kernel
theorem dX18_init_62 : decode cX18_init 62 = .ok (.newarray .boolean, 2) := by decide +kernel
theorem dX18_init_64 : decode cX18_init 64 = .ok (.putfield 32, 3) := by decide +kernel
theorem dX18_init_67 : decode cX18_init 67 = .ok (.aload_n 0, 1) := by decide +kernel
theorem dX18_init_68 : decode cX18_init 68 = .ok (.ldc 36, 2) := by decide +kernel
theorem dX18_init_70 : decode cX18_init 70 = .ok (.newarray .byte, 2) := by decide +kernel
theorem dX18_init_72 : decode cX18_init 72 = .ok (.putfield 37, 3) := by decide +kernel
theorem dX18_init_75 : decode cX18_init 75 = .ok (.aload_n 0, 1) := by decide +kernel
theorem dX18_init_76 : decode cX18_init 76 = .ok (.sipush 400, 3) := by decide +kernel
theorem dX18_init_79 : decode cX18_init 79 = .ok (.newarray .byte, 2) := by decide +kernel
theorem dX18_init_81 : decode cX18_init 81 = .ok (.putfield 40, 3) := by decide +kernel
theorem dX18_init_84 : decode cX18_init 84 = .ok (.aload_n 0, 1) := by decide +kernel
theorem dX18_init_85 : decode cX18_init 85 = .ok (.sipush 400, 3) := by decide +kernel
theorem dX18_init_88 : decode cX18_init 88 = .ok (.newarray .byte, 2) := by decide +kernel
theorem dX18_init_90 : decode cX18_init 90 = .ok (.putfield 43, 3) := by decide +kernel
theorem dX18_init_93 : decode cX18_init 93 = .ok (.return_, 1) := by decide +kernel
theorem dX19_init_0 : decode cX19_init 0 = .ok (.aload_n 0, 1) := by decide +kernel
theorem dX19_init_1 : decode cX19_init 1 = .ok (.invokespecial 1, 3) := by decide +kernel
theorem dX19_init_4 : decode cX19_init 4 = .ok (.aload_n 0, 1) := by decide +kernel
theorem dX19_init_5 : decode cX19_init 5 = .ok (.bipush 25, 2) := by decide +kernel
theorem dX19_init_7 : decode cX19_init 7 = .ok (.newarray .int, 2) := by decide +kernel
theorem dX19_init_9 : decode cX19_init 9 = .ok (.putfield 7, 3) := by decide +kernel
theorem dX19_init_12 : decode cX19_init 12 = .ok (.aload_n 0, 1) := by decide +kernel
theorem dX19_init_13 : decode cX19_init 13 = .ok (.bipush 25, 2) := by decide +kernel
theorem dX19_init_15 : decode cX19_init 15 = .ok (.newarray .int, 2) := by decide +kernel
theorem dX19_init_17 : decode cX19_init 17 = .ok (.putfield 13, 3) := by decide +kernel
theorem dX19_init_20 : decode cX19_init 20 = .ok (.aload_n 0, 1) := by decide +kernel
theorem dX19_init_21 : decode cX19_init 21 = .ok (.sipush 460, 3) := by decide +kernel
theorem dX19_init_24 : decode cX19_init 24 = .ok (.newarray .int, 2) := by decide +kernel
theorem dX19_init_26 : decode cX19_init 26 = .ok (.putfield 16, 3) := by decide +kernel
theorem dX19_init_29 : decode cX19_init 29 = .ok (.aload_n 0, 1) := by decide +kernel
theorem dX19_init_30 : decode cX19_init 30 = .ok (.sipush 460, 3) := by decide +kernel
theorem dX19_init_33 : decode cX19_init 33 = .ok (.newarray .int, 2) := by decide +kernel
theorem dX19_init_35 : decode cX19_init 35 = .ok (.putfield 19, 3) := by decide +kernel
theorem dX19_init_38 : decode cX19_init 38 = .ok (.aload_n 0, 1) := by decide +kernel
theorem dX19_init_39 : decode cX19_init 39 = .ok (.sipush 460, 3) := by decide +kernel
theorem dX19_init_42 : decode cX19_init 42 = .ok (.newarray .int, 2) := by decide +kernel
theorem dX19_init_44 : decode cX19_init 44 = .ok (.putfield 22, 3) := by decide +kernel
theorem dX19_init_47 : decode cX19_init 47 = .ok (.aload_n 0, 1) := by decide +kernel
theorem dX19_init_48 : decode cX19_init 48 = .ok (.sipush 460, 3) := by decide +kernel
theorem dX19_init_51 : decode cX19_init 51 = .ok (.newarray .int, 2) := by decide +kernel
theorem dX19_init_53 : decode cX19_init 53 = .ok (.putfield 25, 3) := by decide +kernel
theorem dX19_init_56 : decode cX19_init 56 = .ok (.aload_n 0, 1) := by decide +kernel
theorem dX19_init_57 : decode cX19_init 57 = .ok (.sipush 460, 3) := by decide +kernel
theorem dX19_init_60 : decode cX19_init 60 = .ok (.newarray .int, 2) := by decide +kernel
theorem dX19_init_62 : decode cX19_init 62 = .ok (.putfield 28, 3) := by decide +kernel
theorem dX19_init_65 : decode cX19_init 65 = .ok (.aload_n 0, 1) := by decide +kernel
theorem dX19_init_66 : decode cX19_init 66 = .ok (.bipush 41, 2) := by decide +kernel
theorem dX19_init_68 : decode cX19_init 68 = .ok (.newarray .int, 2) := by decide +kernel
theorem dX19_init_70 : decode cX19_init 70 = .ok (.putfield 31, 3) := by decide +kernel
theorem dX19_init_73 : decode cX19_init 73 = .ok (.aload_n 0, 1) := by decide +kernel
theorem dX19_init_74 : decode cX19_init 74 = .ok (.bipush 41, 2) := by decide +kernel
theorem dX19_init_76 : decode cX19_init 76 = .ok (.newarray .int, 2) := by decide +kernel
theorem dX19_init_78 : decode cX19_init 78 = .ok (.putfield 34, 3) := by decide +kernel
theorem dX19_init_81 : decode cX19_init 81 = .ok (.aload_n 0, 1) := by decide +kernel
theorem dX19_init_82 : decode cX19_init 82 = .ok (.bipush 41, 2) := by decide +kernel
theorem dX19_init_84 : decode cX19_init 84 = .ok (.newarray .int, 2) := by decide +kernel
theorem dX19_init_86 : decode cX19_init 86 = .ok (.putfield 37, 3) := by decide +kernel
theorem dX19_init_89 : decode cX19_init 89 = .ok (.aload_n 0, 1) := by decide +kernel
theorem dX19_init_90 : decode cX19_init 90 = .ok (.sipush 1500, 3) := by decide +kernel
theorem dX19_init_93 : decode cX19_init 93 = .ok (.newarray .int, 2) := by decide +kernel
theorem dX19_init_95 : decode cX19_init 95 = .ok (.putfield 40, 3) := by decide +kernel
theorem dX19_init_98 : decode cX19_init 98 = .ok (.aload_n 0, 1) := by decide +kernel
theorem dX19_init_99 : decode cX19_init 99 = .ok (.sipush 1500, 3) := by decide +kernel
theorem dX19_init_102 : decode cX19_init 102 = .ok (.newarray .int, 2) := by decide +kernel
theorem dX19_init_104 : decode cX19_init 104 = .ok (.putfield 43, 3) := by decide +kernel
theorem dX19_init_107 : decode cX19_init 107 = .ok (.aload_n 0, 1) := by decide +kernel
theorem dX19_init_108 : decode cX19_init 108 = .ok (.sipush 1500, 3) := by decide +kernel
theorem dX19_init_111 : decode cX19_init 111 = .ok (.newarray .int, 2) := by decide +kernel
theorem dX19_init_113 : decode cX19_init 113 = .ok (.putfield 46, 3) := by decide +kernel
theorem dX19_init_116 : decode cX19_init 116 = .ok (.aload_n 0, 1) := by decide +kernel
theorem dX19_init_117 : decode cX19_init 117 = .ok (.sipush 1500, 3) := by decide +kernel
theorem dX19_init_120 : decode cX19_init 120 = .ok (.newarray .int, 2) := by decide +kernel
theorem dX19_init_122 : decode cX19_init 122 = .ok (.putfield 49, 3) := by decide +kernel
theorem dX19_init_125 : decode cX19_init 125 = .ok (.aload_n 0, 1) := by decide +kernel
theorem dX19_init_126 : decode cX19_init 126 = .ok (.bipush 64, 2) := by decide +kernel
theorem dX19_init_128 : decode cX19_init 128 = .ok (.newarray .int, 2) := by decide +kernel
theorem dX19_init_130 : decode cX19_init 130 = .ok (.putfield 52, 3) := by decide +kernel
theorem dX19_init_133 : decode cX19_init 133 = .ok (.aload_n 0, 1) := by decide +kernel
theorem dX19_init_134 : decode cX19_init 134 = .ok (.bipush 64, 2) := by decide +kernel
theorem dX19_init_136 : decode cX19_init 136 = .ok (.newarray .int, 2) := by decide +kernel
theorem dX19_init_138 : decode cX19_init 138 = .ok (.putfield 55, 3) := by decide +kernel
theorem dX19_init_141 : decode cX19_init 141 = .ok (.aload_n 0, 1) := by decide +kernel
theorem dX19_init_142 : decode cX19_init 142 = .ok (.sipush 160, 3) := by decide +kernel
theorem dX19_init_145 : decode cX19_init 145 = .ok (.newarray .int, 2) := by decide +kernel
theorem dX19_init_147 : decode cX19_init 147 = .ok (.putfield 58, 3) := by decide +kernel
theorem dX19_init_150 : decode cX19_init 150 = .ok (.aload_n 0, 1) := by decide +kernel
theorem dX19_init_151 : decode cX19_init 151 = .ok (.bipush 40, 2) := by decide +kernel
theorem dX19_init_153 : decode cX19_init 153 = .ok (.newarray .int, 2) := by decide +kernel
theorem dX19_init_155 : decode cX19_init 155 = .ok (.putfield 61, 3) := by decide +kernel
theorem dX19_init_158 : decode cX19_init 158 = .ok (.aload_n 0, 1) := by decide +kernel
theorem dX19_init_159 : decode cX19_init 159 = .ok (.sipush 1400, 3) := by decide +kernel
theorem dX19_init_162 : decode cX19_init 162 = .ok (.newarray .int, 2) := by decide +kernel
theorem dX19_init_164 : decode cX19_init 164 = .ok (.putfield 64, 3) := by decide +kernel
theorem dX19_init_167 : decode cX19_init 167 = .ok (.aload_n 0, 1) := by decide +kernel
theorem dX19_init_168 : decode cX19_init 168 = .ok (.sipush 600, 3) := by decide +kernel
theorem dX19_init_171 : decode cX19_init 171 = .ok (.newarray .int, 2) := by decide +kernel
theorem dX19_init_173 : decode cX19_init 173 = .ok (.putfield 67, 3) := by decide +kernel
theorem dX19_init_176 : decode cX19_init 176 = .ok (.aload_n 0, 1) := by decide +kernel
theorem dX19_init_177 : decode cX19_init 177 = .ok (.sipush 600, 3) := by decide +kernel
theorem dX19_init_180 : decode cX19_init 180 = .ok (.newarray .int, 2) := by decide +kernel
theorem dX19_init_182 : decode cX19_init 182 = .ok (.putfield 70, 3) := by decide +kernel
theorem dX19_init_185 : decode cX19_init 185 = .ok (.aload_n 0, 1) := by decide +kernel
theorem dX19_init_186 : decode cX19_init 186 = .ok (.sipush 600, 3) := by decide +kernel
theorem dX19_init_189 : decode cX19_init 189 = .ok (.newarray .int, 2) := by decide +kernel
theorem dX19_init_191 : decode cX19_init 191 = .ok (.putfield 73, 3) := by decide +kernel
theorem dX19_init_194 : decode cX19_init 194 = .ok (.aload_n 0, 1) := by decide +kernel
theorem dX19_init_195 : decode cX19_init 195 = .ok (.sipush 600, 3) := by decide +kernel
theorem dX19_init_198 : decode cX19_init 198 = .ok (.newarray .int, 2) := by decide +kernel
theorem dX19_init_200 : decode cX19_init 200 = .ok (.putfield 76, 3) := by decide +kernel
theorem dX19_init_203 : decode cX19_init 203 = .ok (.aload_n 0, 1) := by decide +kernel
theorem dX19_init_204 : decode cX19_init 204 = .ok (.bipush 64, 2) := by decide +kernel
theorem dX19_init_206 : decode cX19_init 206 = .ok (.newarray .int, 2) := by decide +kernel
theorem dX19_init_208 : decode cX19_init 208 = .ok (.putfield 79, 3) := by decide +kernel
theorem dX19_init_211 : decode cX19_init 211 = .ok (.aload_n 0, 1) := by decide +kernel
theorem dX19_init_212 : decode cX19_init 212 = .ok (.bipush 41, 2) := by decide +kernel
theorem dX19_init_214 : decode cX19_init 214 = .ok (.newarray .boolean, 2) := by decide +kernel
theorem dX19_init_216 : decode cX19_init 216 = .ok (.putfield 82, 3) := by decide +kernel
theorem dX19_init_219 : decode cX19_init 219 = .ok (.aload_n 0, 1) := by decide +kernel
theorem dX19_init_220 : decode cX19_init 220 = .ok (.bipush 41, 2) := by decide +kernel
theorem dX19_init_222 : decode cX19_init 222 = .ok (.newarray .boolean, 2) := by decide +kernel
theorem dX19_init_224 : decode cX19_init 224 = .ok (.putfield 86, 3) := by decide +kernel
theorem dX19_init_227 : decode cX19_init 227 = .ok (.aload_n 0, 1) := by decide +kernel
theorem dX19_init_228 : decode cX19_init 228 = .ok (.bipush 41, 2) := by decide +kernel
theorem dX19_init_230 : decode cX19_init 230 = .ok (.newarray .boolean, 2) := by decide +kernel
theorem dX19_init_232 : decode cX19_init 232 = .ok (.putfield 89, 3) := by decide +kernel
theorem dX19_init_235 : decode cX19_init 235 = .ok (.aload_n 0, 1) := by decide +kernel
theorem dX19_init_236 : decode cX19_init 236 = .ok (.bipush 41, 2) := by decide +kernel
theorem dX19_init_238 : decode cX19_init 238 = .ok (.newarray .int, 2) := by decide +kernel
theorem dX19_init_240 : decode cX19_init 240 = .ok (.putfield 92, 3) := by decide +kernel
theorem dX19_init_243 : decode cX19_init 243 = .ok (.aload_n 0, 1) := by decide +kernel
theorem dX19_init_244 : decode cX19_init 244 = .ok (.bipush 41, 2) := by decide +kernel
theorem dX19_init_246 : decode cX19_init 246 = .ok (.newarray .int, 2) := by decide +kernel
theorem dX19_init_248 : decode cX19_init 248 = .ok (.putfield 95, 3) := by decide +kernel
theorem dX19_init_251 : decode cX19_init 251 = .ok (.aload_n 0, 1) := by decide +kernel
theorem dX19_init_252 : decode cX19_init 252 = .ok (.bipush 41, 2) := by decide +kernel
theorem dX19_init_254 : decode cX19_init 254 = .ok (.newarray .int, 2) := by decide +kernel
theorem dX19_init_256 : decode cX19_init 256 = .ok (.putfield 98, 3) := by decide +kernel
theorem dX19_init_259 : decode cX19_init 259 = .ok (.aload_n 0, 1) := by decide +kernel
theorem dX19_init_260 : decode cX19_init 260 = .ok (.bipush 41, 2) := by decide +kernel
theorem dX19_init_262 : decode cX19_init 262 = .ok (.newarray .int, 2) := by decide +kernel
theorem dX19_init_264 : decode cX19_init 264 = .ok (.putfield 101, 3) := by decide +kernel
theorem dX19_init_267 : decode cX19_init 267 = .ok (.aload_n 0, 1) := by decide +kernel
theorem dX19_init_268 : decode cX19_init 268 = .ok (.bipush 41, 2) := by decide +kernel
theorem dX19_init_270 : decode cX19_init 270 = .ok (.newarray .int, 2) := by decide +kernel
theorem dX19_init_272 : decode cX19_init 272 = .ok (.putfield 104, 3) := by decide +kernel
theorem dX19_init_275 : decode cX19_init 275 = .ok (.aload_n 0, 1) := by decide +kernel
theorem dX19_init_276 : decode cX19_init 276 = .ok (.bipush 41, 2) := by decide +kernel
theorem dX19_init_278 : decode cX19_init 278 = .ok (.newarray .int, 2) := by decide +kernel
theorem dX19_init_280 : decode cX19_init 280 = .ok (.putfield 107, 3) := by decide +kernel
theorem dX19_init_283 : decode cX19_init 283 = .ok (.aload_n 0, 1) := by decide +kernel
theorem dX19_init_284 : decode cX19_init 284 = .ok (.bipush 41, 2) := by decide +kernel
theorem dX19_init_286 : decode cX19_init 286 = .ok (.newarray .int, 2) := by decide +kernel
theorem dX19_init_288 : decode cX19_init 288 = .ok (.putfield 110, 3) := by decide +kernel
theorem dX19_init_291 : decode cX19_init 291 = .ok (.aload_n 0, 1) := by decide +kernel
theorem dX19_init_292 : decode cX19_init 292 = .ok (.bipush 41, 2) := by decide +kernel
theorem dX19_init_294 : decode cX19_init 294 = .ok (.newarray .int, 2) := by decide +kernel
theorem dX19_init_296 : decode cX19_init 296 = .ok (.putfield 113, 3) := by decide +kernel
theorem dX19_init_299 : decode cX19_init 299 = .ok (.aload_n 0, 1) := by decide +kernel
theorem dX19_init_300 : decode cX19_init 300 = .ok (.bipush 41, 2) := by decide +kernel
theorem dX19_init_302 : decode cX19_init 302 = .ok (.newarray .int, 2) := by decide +kernel
theorem dX19_init_304 : decode cX19_init 304 = .ok (.putfield 116, 3) := by decide +kernel
theorem dX19_init_307 : decode cX19_init 307 = .ok (.aload_n 0, 1) := by decide +kernel
theorem dX19_init_308 : decode cX19_init 308 = .ok (.bipush 41, 2) := by decide +kernel
theorem dX19_init_310 : decode cX19_init 310 = .ok (.newarray .int, 2) := by decide +kernel
theorem dX19_init_312 : decode cX19_init 312 = .ok (.putfield 119, 3) := by decide +kernel
theorem dX19_init_315 : decode cX19_init 315 = .ok (.aload_n 0, 1) := by decide +kernel
theorem dX19_init_316 : decode cX19_init 316 = .ok (.bipush 41, 2) := by decide +kernel
theorem dX19_init_318 : decode cX19_init 318 = .ok (.newarray .int, 2) := by decide +kernel
theorem dX19_init_320 : decode cX19_init 320 = .ok (.putfield 122, 3) := by decide +kernel
theorem dX19_init_323 : decode cX19_init 323 = .ok (.aload_n 0, 1) := by decide +kernel
theorem dX19_init_324 : decode cX19_init 324 = .ok (.bipush 41, 2) := by decide +kernel
theorem dX19_init_326 : decode cX19_init 326 = .ok (.newarray .int, 2) := by decide +kernel
theorem dX19_init_328 : decode cX19_init 328 = .ok (.putfield 125, 3) := by decide +kernel
theorem dX19_init_331 : decode cX19_init 331 = .ok (.aload_n 0, 1) := by decide +kernel
theorem dX19_init_332 : decode cX19_init 332 = .ok (.sipush 1100, 3) := by decide +kernel
theorem dX19_init_335 : decode cX19_init 335 = .ok (.newarray .int, 2) := by decide +kernel
theorem dX19_init_337 : decode cX19_init 337 = .ok (.putfield 128, 3) := by decide +kernel
theorem dX19_init_340 : decode cX19_init 340 = .ok (.aload_n 0, 1) := by decide +kernel
theorem dX19_init_341 : decode cX19_init 341 = .ok (.sipush 1200, 3) := by decide +kernel
theorem dX19_init_344 : decode cX19_init 344 = .ok (.newarray .int, 2) := by decide +kernel
theorem dX19_init_346 : decode cX19_init 346 = .ok (.putfield 131, 3) := by decide +kernel
theorem dX19_init_349 : decode cX19_init 349 = .ok (.aload_n 0, 1) := by decide +kernel
theorem dX19_init_350 : decode cX19_init 350 = .ok (.sipush 1200, 3) := by decide +kernel
theorem dX19_init_353 : decode cX19_init 353 = .ok (.newarray .int, 2) := by decide +kernel
theorem dX19_init_355 : decode cX19_init 355 = .ok (.putfield 134, 3) := by decide +kernel
theorem dX19_init_358 : decode cX19_init 358 = .ok (.aload_n 0, 1) := by decide +kernel
theorem dX19_init_359 : decode cX19_init 359 = .ok (.sipush 1200, 3) := by decide +kernel
theorem dX19_init_362 : decode cX19_init 362 = .ok (.newarray .int, 2) := by decide +kernel
theorem dX19_init_364 : decode cX19_init 364 = .ok (.putfield 137, 3) := by decide +kernel
theorem dX19_init_367 : decode cX19_init 367 = .ok (.aload_n 0, 1) := by decide +kernel
theorem dX19_init_368 : decode cX19_init 368 = .ok (.sipush 300, 3) := by decide +kernel
theorem dX19_init_371 : decode cX19_init 371 = .ok (.newarray .int, 2) := by decide +kernel
theorem dX19_init_373 : decode cX19_init 373 = .ok (.putfield 140, 3) := by decide +kernel
theorem dX19_init_376 : decode cX19_init 376 = .ok (.aload_n 0, 1) := by decide +kernel
theorem dX19_init_377 : decode cX19_init 377 = .ok (.sipush 300, 3) := by decide +kernel
theorem dX19_init_380 : decode cX19_init 380 = .ok (.newarray .boolean, 2) := by decide +kernel
theorem dX19_init_382 : decode cX19_init 382 = .ok (.putfield 143, 3) := by decide +kernel
theorem dX19_init_385 : decode cX19_init 385 = .ok (.return_, 1) := by decide +kernel
theorem dX20_init_0 : decode cX20_init 0 = .ok (.aload_n 0, 1) := by decide +kernel
theorem dX20_init_1 : decode cX20_init 1 = .ok (.invokespecial 1, 3) := by decide +kernel
theorem dX20_init_4 : decode cX20_init 4 = .ok (.aload_n 0, 1) := by decide +kernel
theorem dX20_init_5 : decode cX20_init 5 = .ok (.new 7, 3) := by decide +kernel
theorem dX20_init_8 : decode cX20_init 8 = .ok (.dup, 1) := by decide +kernel
theorem dX20_init_9 : decode cX20_init 9 = .ok (.invokespecial 9, 3) := by decide +kernel
theorem dX20_init_12 : decode cX20_init 12 = .ok (.putfield 10, 3) := by decide +kernel
theorem dX20_init_15 : decode cX20_init 15 = .ok (.aload_n 0, 1) := by decide +kernel
theorem dX20_init_16 : decode cX20_init 16 = .ok (.new 16, 3) := by decide +kernel
theorem dX20_init_19 : decode cX20_init 19 = .ok (.dup, 1) := by decide +kernel
theorem dX20_init_20 : decode cX20_init 20 = .ok (.invokespecial 18, 3) := by decide +kernel
theorem dX20_init_23 : decode cX20_init 23 = .ok (.putfield 19, 3) := by decide +kernel
theorem dX20_init_26 : decode cX20_init 26 = .ok (.aload_n 0, 1) := by decide +kernel
theorem dX20_init_27 : decode cX20_init 27 = .ok (.new 23, 3) := by decide +kernel
theorem dX20_init_30 : decode cX20_init 30 = .ok (.dup, 1) := by decide +kernel
theorem dX20_init_31 : decode cX20_init 31 = .ok (.aload_n 0, 1) := by decide +kernel
theorem dX20_init_32 : decode cX20_init 32 = .ok (.getfield 10, 3) := by decide +kernel
theorem dX20_init_35 : decode cX20_init 35 = .ok (.invokespecial 25, 3) := by decide +kernel
theorem dX20_init_38 : decode cX20_init 38 = .ok (.putfield 28, 3) := by decide +kernel
theorem dX20_init_41 : decode cX20_init 41 = .ok (.aload_n 0, 1) := by decide +kernel
theorem dX20_init_42 : decode cX20_init 42 = .ok (.new 32, 3) := by decide +kernel
theorem dX20_init_45 : decode cX20_init 45 = .ok (.dup, 1) := by decide +kernel
theorem dX20_init_46 : decode cX20_init 46 = .ok (.invokespecial 34, 3) := by decide +kernel
theorem dX20_init_49 : decode cX20_init 49 = .ok (.putfield 35, 3) := by decide +kernel
theorem dX20_init_52 : decode cX20_init 52 = .ok (.aload_n 0, 1) := by decide +kernel
theorem dX20_init_53 : decode cX20_init 53 = .ok (.new 39, 3) := by decide +kernel
theorem dX20_init_56 : decode cX20_init 56 = .ok (.dup, 1) := by decide +kernel
theorem dX20_init_57 : decode cX20_init 57 = .ok (.aload_n 0, 1) := by decide +kernel
theorem dX20_init_58 : decode cX20_init 58 = .ok (.getfield 10, 3) := by decide +kernel
theorem dX20_init_61 : decode cX20_init 61 = .ok (.invokespecial 41, 3) := by decide +kernel
theorem dX20_init_64 : decode cX20_init 64 = .ok (.putfield 42, 3) := by decide +kernel
theorem dX20_init_67 : decode cX20_init 67 = .ok (.aload_n 0, 1) := by decide +kernel
theorem dX20_init_68 : decode cX20_init 68 = .ok (.new 46, 3) := by decide +kernel
theorem dX20_init_71 : decode cX20_init 71 = .ok (.dup, 1) := by decide +kernel
theorem dX20_init_72 : decode cX20_init 72 = .ok (.aload_n 0, 1) := by decide +kernel
theorem dX20_init_73 : decode cX20_init 73 = .ok (.getfield 42, 3) := by decide +kernel
theorem dX20_init_76 : decode cX20_init 76 = .ok (.invokespecial 48, 3) := by decide +kernel
theorem dX20_init_79 : decode cX20_init 79 = .ok (.putfield 51, 3) := by decide +kernel
theorem dX20_init_82 : decode cX20_init 82 = .ok (.aload_n 0, 1) := by decide +kernel
theorem dX20_init_83 : decode cX20_init 83 = .ok (.new 55, 3) := by decide +kernel
theorem dX20_init_86 : decode cX20_init 86 = .ok (.dup, 1) := by decide +kernel
theorem dX20_init_87 : decode cX20_init 87 = .ok (.aload_n 0, 1) := by decide +kernel
theorem dX20_init_88 : decode cX20_init 88 = .ok (.getfield 28, 3) := by decide +kernel
theorem dX20_init_91 : decode cX20_init 91 = .ok (.aload_n 0, 1) := by decide +kernel
theorem dX20_init_92 : decode cX20_init 92 = .ok (.getfield 10, 3) := by decide +kernel
theorem dX20_init_95 : decode cX20_init 95 = .ok (.aload_n 0, 1) := by decide +kernel
theorem dX20_init_96 : decode cX20_init 96 = .ok (.getfield 35, 3) := by decide +kernel
theorem dX20_init_99 : decode cX20_init 99 = .ok (.aload_n 0, 1) := by decide +kernel
theorem dX20_init_100 : decode cX20_init 100 = .ok (.getfield 51, 3) := by decide +kernel
theorem dX20_init_103 : decode cX20_init 103 = .ok (.invokespecial 57, 3) := by decide +kernel
theorem dX20_init_106 : decode cX20_init 106 = .ok (.putfield 60, 3) := by decide +kernel
theorem dX20_init_109 : decode cX20_init 109 = .ok (.aload_n 0, 1) := by decide +kernel
theorem dX20_init_110 : decode cX20_init 110 = .ok (.new 64, 3) := by decide +kernel
theorem dX20_init_113 : decode cX20_init 113 = .ok (.dup, 1) := by decide +kernel
theorem dX20_init_114 : decode cX20_init 114 = .ok (.aload_n 0, 1) := by decide +kernel
theorem dX20_init_115 : decode cX20_init 115 = .ok (.getfield 10, 3) := by decide +kernel
theorem dX20_init_118 : decode cX20_init 118 = .ok (.aload_n 0, 1) := by decide +kernel
theorem dX20_init_119 : decode cX20_init 119 = .ok (.getfield 19, 3) := by decide +kernel
theorem dX20_init_122 : decode cX20_init 122 = .ok (.aload_n 0, 1) := by decide +kernel
theorem dX20_init_123 : decode cX20_init 123 = .ok (.getfield 42, 3) := by decide +kernel
theorem dX20_init_126 : decode cX20_init 126 = .ok (.aload_n 0, 1) := by decide +kernel
theorem dX20_init_127 : decode cX20_init 127 = .ok (.getfield 51, 3) := by decide +kernel
theorem dX20_init_130 : decode cX20_init 130 = .ok (.aload_n 0, 1) := by decide +kernel
theorem dX20_init_131 : decode cX20_init 131 = .ok (.getfield 35, 3) := by decide +kernel
theorem dX20_init_134 : decode cX20_init 134 = .ok (.invokespecial 66, 3) := by decide +kernel
theorem dX20_init_137 : decode cX20_init 137 = .ok (.putfield 69, 3) := by decide +kernel
theorem dX20_init_140 : decode cX20_init 140 = .ok (.aload_n 0, 1) := by decide +kernel
theorem dX20_init_141 : decode cX20_init 141 = .ok (.ldc 73, 2) := by decide +kernel
theorem dX20_init_143 : decode cX20_init 143 = .ok (.newarray .int, 2) := by decide +kernel
theorem dX20_init_145 : decode cX20_init 145 = .ok (.putfield 74, 3) := by decide +kernel
theorem dX20_init_148 : decode cX20_init 148 = .ok (.aload_n 0, 1) := by decide +kernel
theorem dX20_init_149 : decode cX20_init 149 = .ok (.sipush 400, 3) := by decide +kernel
theorem dX20_init_152 : decode cX20_init 152 = .ok (.newarray .byte, 2) := by decide +kernel
theorem dX20_init_154 : decode cX20_init 154 = .ok (.putfield 78, 3) := by decide +kernel
theorem dX20_init_157 : decode cX20_init 157 = .ok (.aload_n 0, 1) := by decide +kernel
theorem dX20_init_158 : decode cX20_init 158 = .ok (.bipush 26, 2) := by decide +kernel
theorem dX20_init_160 : decode cX20_init 160 = .ok (.newarray .int, 2) := by decide +kernel
theorem dX20_init_162 : decode cX20_init 162 = .ok (.putfield 82, 3) := by decide +kernel
theorem dX20_init_165 : decode cX20_init 165 = .ok (.aload_n 0, 1) := by decide +kernel
theorem dX20_init_166 : decode cX20_init 166 = .ok (.bipush 40, 2) := by decide +kernel
theorem dX20_init_168 : decode cX20_init 168 = .ok (.newarray .int, 2) := by decide +kernel
theorem dX20_init_170 : decode cX20_init 170 = .ok (.putfield 85, 3) := by decide +kernel
theorem dX20_init_173 : decode cX20_init 173 = .ok (.aload_n 0, 1) := by decide +kernel
theorem dX20_init_174 : decode cX20_init 174 = .ok (.sipush 24003, 3) := by decide +kernel
theorem dX20_init_177 : decode cX20_init 177 = .ok (.newarray .int, 2) := by decide +kernel
theorem dX20_init_179 : decode cX20_init 179 = .ok (.putfield 88, 3) := by decide +kernel
theorem dX20_init_182 : decode cX20_init 182 = .ok (.aload_n 0, 1) := by decide +kernel
theorem dX20_init_183 : decode cX20_init 183 = .ok (.sipush 8192, 3) := by decide +kernel
theorem dX20_init_186 : decode cX20_init 186 = .ok (.newarray .int, 2) := by decide +kernel
theorem dX20_init_188 : decode cX20_init 188 = .ok (.putfield 91, 3) := by decide +kernel
theorem dX20_init_191 : decode cX20_init 191 = .ok (.aload_n 0, 1) := by decide +kernel
theorem dX20_init_192 : decode cX20_init 192 = .ok (.sipush 8001, 3) := by decide +kernel
theorem dX20_init_195 : decode cX20_init 195 = .ok (.newarray .int, 2) := by decide +kernel
theorem dX20_init_197 : decode cX20_init 197 = .ok (.putfield 94, 3) := by decide +kernel
theorem dX20_init_200 : decode cX20_init 200 = .ok (.aload_n 0, 1) := by decide +kernel
theorem dX20_init_201 : decode cX20_init 201 = .ok (.sipush 8001, 3) := by decide +kernel
theorem dX20_init_204 : decode cX20_init 204 = .ok (.newarray .int, 2) := by decide +kernel
theorem dX20_init_206 : decode cX20_init 206 = .ok (.putfield 97, 3) := by decide +kernel
theorem dX20_init_209 : decode cX20_init 209 = .ok (.aload_n 0, 1) := by decide +kernel
theorem dX20_init_210 : decode cX20_init 210 = .ok (.sipush 9000, 3) := by decide +kernel
theorem dX20_init_213 : decode cX20_init 213 = .ok (.newarray .int, 2) := by decide +kernel
theorem dX20_init_215 : decode cX20_init 215 = .ok (.putfield 100, 3) := by decide +kernel
theorem dX20_init_218 : decode cX20_init 218 = .ok (.aload_n 0, 1) := by decide +kernel
theorem dX20_init_219 : decode cX20_init 219 = .ok (.sipush 810, 3) := by decide +kernel
theorem dX20_init_222 : decode cX20_init 222 = .ok (.newarray .int, 2) := by decide +kernel
theorem dX20_init_224 : decode cX20_init 224 = .ok (.putfield 103, 3) := by decide +kernel
theorem dX20_init_227 : decode cX20_init 227 = .ok (.aload_n 0, 1) := by decide +kernel
theorem dX20_init_228 : decode cX20_init 228 = .ok (.sipush 24003, 3) := by decide +kernel
theorem dX20_init_231 : decode cX20_init 231 = .ok (.newarray .int, 2) := by decide +kernel
theorem dX20_init_233 : decode cX20_init 233 = .ok (.putfield 106, 3) := by decide +kernel
theorem dX20_init_236 : decode cX20_init 236 = .ok (.aload_n 0, 1) := by decide +kernel
theorem dX20_init_237 : decode cX20_init 237 = .ok (.sipush 400, 3) := by decide +kernel
theorem dX20_init_240 : decode cX20_init 240 = .ok (.newarray .byte, 2) := by decide +kernel
theorem dX20_init_242 : decode cX20_init 242 = .ok (.putfield 109, 3) := by decide +kernel
theorem dX20_init_245 : decode cX20_init 245 = .ok (.return_, 1) := by decide +kernel
theorem dJxb5711_init_a7421_0 : decode cJxb5711_init_a7421 0 = .ok (.aload_n 0, 1) := by decide +kernel
theorem dJxb5711_init_a7421_1 : decode cJxb5711_init_a7421 1 = .ok (.aload_n 1, 1) := by decide +kernel
theorem dJxb5711_init_a7421_2 : decode cJxb5711_init_a7421 2 = .ok (.invokespecial 7, 3) := by decide +kernel
theorem dJxb5711_init_a7421_5 : decode cJxb5711_init_a7421 5 = .ok (.return_, 1) := by decide +kernel
set_option maxRecDepth 20000 in
theorem ggX13_init_Jxb5711_init_a7421 : GoodIn wsX13_init wsJxb5711_init_a7421 := goodIn_r _ [27] (by decide +kernel) (by decide +kernel)
set_option maxRecDepth 20000 in
theorem gX13_init_Jxb5711_init_a7421 : GoodIn wsX13_init (wsJxb5711_init_a7421) := ggX13_init_Jxb5711_init_a7421
set_option maxRecDepth 20000 in
theorem ggX16_init_Jxb5711_init_a7421 : GoodIn wsX16_init wsJxb5711_init_a7421 := goodIn_r _ [19] (by decide +kernel) (by decide +kernel)
set_option maxRecDepth 20000 in
theorem gX16_init_Jxb5711_init_a7421 : GoodIn wsX16_init (wsJxb5711_init_a7421) := ggX16_init_Jxb5711_init_a7421
set_option maxRecDepth 20000 in
theorem ggX20_init_X18_init : GoodIn wsX20_init wsX18_init := goodIn_r _ [52, 53, 2, 3, 39, 54, 55, 56, 57, 37, 58, 59, 60, 61, 62, 63, 64, 65, 66, 198, 199, 200, 201, 202, 203, 204, 205, 206, 207, 208, 209, 210, 211, 212, 213, 214, 215, 216, 217, 218, 219, 220] (by decide +kernel) (by decide +kernel)
set_option maxRecDepth 20000 in
theorem gX20_init_X18_init_n9 : GoodIn wsX20_init (wsX18_init) := ggX20_init_X18_init
set_option maxRecDepth 20000 in
theorem ggX20_init_X12_init : GoodIn wsX20_init wsX12_init := goodIn_r _ [68, 69, 2, 3, 37, 70, 71, 72, 73, 74, 251, 252, 253, 254, 255, 256, 257, 258, 259] (by decide +kernel) (by decide +kernel)
set_option maxRecDepth 20000 in
theorem gX20_init_X12_init_n18 : GoodIn wsX20_init (wsX12_init) := ggX20_init_X12_init
set_option maxRecDepth 20000 in
theorem ggX20_init_X14_init : GoodIn wsX20_init wsX14_init := goodIn_r _ [77, 78, 2, 3, 39, 79, 80, 260, 261, 262, 263, 264, 265, 266, 267, 268, 269, 270, 271, 272, 273] (by decide +kernel) (by decide +kernel)
set_option maxRecDepth 20000 in
theorem gX20_init_X14_init : GoodIn wsX20_init (wsX14_init) := ggX20_init_X14_init
set_option maxRecDepth 20000 in
theorem ggX20_init_X19_init : GoodIn wsX20_init wsX19_init := goodIn_r _ [82, 83, 2, 3, 37, 84, 85, 86, 87, 88, 89, 90, 91, 92, 93, 94, 95, 96, 97, 98, 99, 100, 101, 102, 103, 104, 105, 106, 107, 61, 108, 109, 110, 111, 112, 113, 114, 115, 116, 117, 118, 119, 120, 121, 122, 123, 124, 125, 126, 127, 128, 274, 275, 276, 277, 278, 279, 280, 281, 282, 283, 284, 285, 286, 287, 288, 289, 290, 291, 292, 293, 294, 295, 296, 297, 298, 299, 300, 301, 302, 303, 304, 305, 306, 307, 308, 309, 310, 311, 312, 313, 314, 315, 316, 317, 318, 319, 320, 321, 322, 323, 324, 325, 326, 327, 328, 329] (by decide +kernel) (by decide +kernel)
set_option maxRecDepth 20000 in
theorem gX20_init_X19_init_n34 : GoodIn wsX20_init (wsX19_init) := ggX20_init_X19_init
set_option maxRecDepth 20000 in
theorem ggX20_init_X17_init : GoodIn wsX20_init wsX17_init := goodIn_r _ [131, 132, 2, 3, 37, 133, 134, 135, 136, 137, 138, 139, 140, 141, 142, 143, 144, 145, 330, 331, 332, 333, 334, 335, 336, 337, 338, 339, 340, 341, 342, 343, 344, 345, 346, 347] (by decide +kernel) (by decide +kernel)
set_option maxRecDepth 20000 in
theorem gX20_init_X17_init : GoodIn wsX20_init (wsX17_init) := ggX20_init_X17_init
set_option maxRecDepth 20000 in
theorem ggX20_init_X15_init : GoodIn wsX20_init wsX15_init := goodIn_r _ [148, 149, 2, 3, 37, 150, 151, 152, 153, 154, 55, 155, 156, 348, 349, 350, 351, 352, 353, 354, 355, 356, 357] (by decide +kernel) (by decide +kernel)
set_option maxRecDepth 20000 in
theorem gX20_init_X15_init : GoodIn wsX20_init (wsX15_init) := ggX20_init_X15_init
set_option maxRecDepth 20000 in
theorem ggX20_init_X16_init : GoodIn wsX20_init wsX16_init := goodIn_ca (goodIn_r _ [159, 160, 161, 162, 2, 3, 163, 37, 164, 165, 166, 167, 168, 169, 170, 171, 172, 173, 174, 175, 358, 359, 360, 361, 362, 363, 364, 365, 366, 367, 368, 369, 370, 371, 372, 373, 374, 375, 376, 377, 378, 379, 380, 381, 382, 383, 384, 385, 386, 387, 388, 389, 390] (by decide +kernel) (by decide +kernel)) (goodIn_sub (fun _ h => List.mem_cons_of_mem _ (List.mem_append_left _ (List.mem_append_right _ h))) (by decide +kernel))
set_option maxRecDepth 20000 in
theorem gX20_init_X16_init : GoodIn wsX20_init (wsX16_init) := ggX20_init_X16_init
set_option maxRecDepth 20000 in
theorem ggX20_init_X13_init : GoodIn wsX20_init wsX13_init := goodIn_ca (goodIn_r _ [178, 179, 161, 180, 2, 3, 181, 37, 182, 183, 184, 185, 186, 187, 188, 189, 190, 55, 191, 192, 193, 194, 195, 196, 197, 173, 174, 175, 391, 392, 393, 394, 395, 396, 397, 398, 399, 400, 401, 402, 403, 404, 405, 406, 407, 408, 409, 410, 411, 412, 413] (by decide +kernel) (by decide +kernel)) (goodIn_sub (fun _ h => List.mem_cons_of_mem _ (List.mem_append_right _ h)) (by decide +kernel))
set_option maxRecDepth 20000 in
theorem gX20_init_X13_init : GoodIn wsX20_init (wsX13_init) := ggX20_init_X13_init
