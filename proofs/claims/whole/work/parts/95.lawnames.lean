def wsX2_fail : List Cond := .code yX2_fail cX2_fail 1 none :: ([.classLink RX2 52 "java/lang/UnsupportedOperationException", .initialized "java/lang/UnsupportedOperationException", .classLink RX2 55 "java/lang/IllegalArgumentException", .initialized "java/lang/IllegalArgumentException", .classLink RX2 58 "java/lang/IllegalStateException", .initialized "java/lang/IllegalStateException", .fieldLink RX2 9 "FourStones$Scale" "kind" "I", .fieldLink RX2 15 "FourStones$Scale" "figure" "I"] ++ wsX20 ++ (vx_at0 RX2 54 "java/lang/UnsupportedOperationException" ["java/lang/RuntimeException", "java/lang/Exception"]).filter goodWord ++ (vx_at0 RX2 57 "java/lang/IllegalArgumentException" ["java/lang/RuntimeException", "java/lang/Exception"]).filter goodWord ++ (vx_at0 RX2 60 "java/lang/IllegalStateException" ["java/lang/RuntimeException", "java/lang/Exception"]).filter goodWord)
def wsX5_element : List Cond := .code yX5_element cX5_element 4 (some .long) :: ([.classLink RX5 233 "java/lang/IllegalArgumentException", .initialized "java/lang/IllegalArgumentException", .classLink RX5 240 "java/lang/IllegalStateException", .initialized "java/lang/IllegalStateException", .fieldLink RX5 40 "FourStones" "rows" "[LFourStones$Row;", .fieldLink RX5 209 "FourStones$Row" "cells" "[I", .methodLink RX5 68 yX5_isShelf, .static yX5_isShelf, .initialized RX5, .code yX5_isShelf cX5_isShelf 1 (some .boolean), .methodLink RX5 227 yX1_isPlace, .instanceMethod yX1_isPlace, .selects RX1 yX1_isPlace yX1_isPlace, .initialized RX1, .code yX1_isPlace cX1_isPlace 2 (some .boolean), .fieldLink RX1 15 "FourStones$Row" "cells" "[I"] ++ wsX50 ++ wsX10 ++ (vx_atS RX5 237 "java/lang/IllegalArgumentException" ["java/lang/RuntimeException", "java/lang/Exception"]).filter goodWord ++ (vx_atS RX5 244 "java/lang/IllegalStateException" ["java/lang/RuntimeException", "java/lang/Exception"]).filter goodWord)
def wsX5_toss_r1 : List Cond := [Cond.classLink RX5 266 "java/lang/UnsupportedOperationException", Cond.classLink RX5 233 "java/lang/IllegalArgumentException", Cond.classLink RX5 240 "java/lang/IllegalStateException", Cond.fieldLink RX5 34 "FourStones" "scales" "[LFourStones$Scale;", Cond.fieldLink RX5 268 "FourStones$Scale" "figure" "I", Cond.methodLink RX5 68 yX5_isShelf, Cond.static yX5_isShelf, Cond.initialized RX5, Cond.code yX5_isShelf cX5_isShelf 1 (some .boolean), Cond.methodLink RX5 76 yX5_notHeld, Cond.instanceMethod yX5_notHeld, Cond.selects RX5 yX5_notHeld yX5_notHeld, Cond.code yX5_notHeld cX5_notHeld 2 (some .int), Cond.methodLink RX5 245 yX5_holdsNothing, Cond.instanceMethod yX5_holdsNothing, Cond.selects RX5 yX5_holdsNothing yX5_holdsNothing, Cond.code yX5_holdsNothing cX5_holdsNothing 2 (some .boolean), Cond.fieldLink RX5 40 "FourStones" "rows" "[LFourStones$Row;", Cond.methodLink RX5 263 yX2_fail, Cond.instanceMethod yX2_fail, Cond.selects RX2 yX2_fail yX2_fail, Cond.initialized RX2, Cond.code yX2_fail cX2_fail 1 none, Cond.classLink RX2 52 "java/lang/UnsupportedOperationException"]
def wsX5_toss_r2 : List Cond := [Cond.initialized "java/lang/UnsupportedOperationException", Cond.classLink RX2 55 "java/lang/IllegalArgumentException", Cond.initialized "java/lang/IllegalArgumentException", Cond.classLink RX2 58 "java/lang/IllegalStateException", Cond.initialized "java/lang/IllegalStateException", Cond.fieldLink RX2 9 "FourStones$Scale" "kind" "I", Cond.fieldLink RX2 15 "FourStones$Scale" "figure" "I", Cond.methodLink RX5 260 yX2_price, Cond.instanceMethod yX2_price, Cond.selects RX2 yX2_price yX2_price, Cond.code yX2_price cX2_price 5 (some .int)]
def wsX5_toss : List Cond := .codeWith yX5_toss cX5_toss 4 (some .int) [(26, 32, 33, 266), (26, 32, 43, 233), (26, 32, 52, 240)] :: ((wsX5_toss_r1 ++ wsX5_toss_r2) ++ wsX50 ++ wsX20 ++ (vx_at0 RX2 54 "java/lang/UnsupportedOperationException" ["java/lang/RuntimeException", "java/lang/Exception"]).filter goodWord ++ (vx_at0 RX2 57 "java/lang/IllegalArgumentException" ["java/lang/RuntimeException", "java/lang/Exception"]).filter goodWord ++ (vx_at0 RX2 60 "java/lang/IllegalStateException" ["java/lang/RuntimeException", "java/lang/Exception"]).filter goodWord)
def wsL_element : List Cond := .codeWith yL_element cL_element 5 (some .int) [(0, 9, 12, 13), (0, 9, 16, 15)] :: ([.classLink RL 13 "java/lang/IllegalArgumentException", .classLink RL 15 "java/lang/IllegalStateException", .methodLink RL 7 yX5_element, .instanceMethod yX5_element, .selects RX5 yX5_element yX5_element, .initialized RX5, .code yX5_element cX5_element 4 (some .long), .classLink RX5 233 "java/lang/IllegalArgumentException", .initialized "java/lang/IllegalArgumentException", .classLink RX5 240 "java/lang/IllegalStateException", .initialized "java/lang/IllegalStateException", .fieldLink RX5 40 "FourStones" "rows" "[LFourStones$Row;", .fieldLink RX5 209 "FourStones$Row" "cells" "[I", .methodLink RX5 68 yX5_isShelf, .static yX5_isShelf, .code yX5_isShelf cX5_isShelf 1 (some .boolean), .methodLink RX5 227 yX1_isPlace, .instanceMethod yX1_isPlace, .selects RX1 yX1_isPlace yX1_isPlace, .initialized RX1, .code yX1_isPlace cX1_isPlace 2 (some .boolean), .fieldLink RX1 15 "FourStones$Row" "cells" "[I"] ++ wsX50 ++ wsX10 ++ (vx_atS RX5 237 "java/lang/IllegalArgumentException" ["java/lang/RuntimeException", "java/lang/Exception"]).filter goodWord ++ (vx_atS RX5 244 "java/lang/IllegalStateException" ["java/lang/RuntimeException", "java/lang/Exception"]).filter goodWord)
def wsL_law0_r1 : List Cond := [Cond.classLink RL 8 RX5, Cond.instantiable RX5 13, Cond.initialized RX5, Cond.classLink RL 18 RX6, Cond.instantiable RX6 32, Cond.initialized RX6, Cond.arrayClass .long, Cond.methodLink RL 17 yX5_init, Cond.instanceMethod yX5_init, Cond.code yX5_init cX5_init 1 none, Cond.methodLink RX5 1 objectInit, Cond.instanceMethod objectInit, Cond.code objectInit ⟨#[0xb1]⟩ 1 none, Cond.classLink RX5 7 RX4, Cond.instantiable RX4 3, Cond.initialized RX4, Cond.fieldLink RX5 10 "FourStones" "stones" "LFourStones$Stones;", Cond.classLink RX5 16 RX0, Cond.instantiable RX0 5, Cond.initialized RX0, Cond.fieldLink RX5 19 "FourStones" "lyings" "LFourStones$Lyings;", Cond.fieldLink RX5 23 "FourStones" "imaged" "LFourStones$Stones;", Cond.fieldLink RX5 26 "FourStones" "mindStones" "LFourStones$Stones;", Cond.fieldLink RX5 29 "FourStones" "mindLyings" "LFourStones$Lyings;"]
def wsL_law0_r2 : List Cond := [Cond.classLink RX5 32 RX2, Cond.fieldLink RX5 34 "FourStones" "scales" "[LFourStones$Scale;", Cond.classLink RX5 38 RX1, Cond.fieldLink RX5 40 "FourStones" "rows" "[LFourStones$Row;", Cond.instantiable RX2 2, Cond.initialized RX2, Cond.fieldLink RX5 47 "FourStones" "plainScale" "LFourStones$Scale;", Cond.classLink RX5 51 RX3, Cond.instantiable RX3 3, Cond.initialized RX3, Cond.fieldLink RX5 54 "FourStones" "reader" "LFourStones$ShopReader;", Cond.arrayClass .int, Cond.fieldLink RX5 58 "FourStones" "had" "[I", Cond.fieldLink RX5 62 "FourStones" "listedBy" "[I", Cond.fieldLink RX5 65 "FourStones" "otherLyings" "[I", Cond.instanceMethod yX4_init, Cond.code yX4_init cX4_init 1 none, Cond.methodLink RX4 3 objectInit, Cond.fieldLink RX4 9 "FourStones$Stones" "weights" "[I", Cond.fieldLink RX4 15 "FourStones$Stones" "prices" "[I", Cond.instanceMethod yX0_init, Cond.code yX0_init cX0_init 1 none, Cond.methodLink RX0 3 objectInit, Cond.fieldLink RX0 9 "FourStones$Lyings" "right" "[I"]
def wsL_law0_r3 : List Cond := [Cond.fieldLink RX0 15 "FourStones$Lyings" "left" "[I", Cond.fieldLink RX0 18 "FourStones$Lyings" "rightStones" "[I", Cond.fieldLink RX0 21 "FourStones$Lyings" "leftStones" "[I", Cond.fieldLink RX0 24 "FourStones$Lyings" "count" "I", Cond.methodLink RX5 44 yX2_init, Cond.instanceMethod yX2_init, Cond.code yX2_init cX2_init 3 none, Cond.methodLink RX2 3 objectInit, Cond.fieldLink RX2 9 "FourStones$Scale" "kind" "I", Cond.fieldLink RX2 15 "FourStones$Scale" "figure" "I", Cond.instanceMethod yX3_init, Cond.code yX3_init cX3_init 1 none, Cond.methodLink RX3 3 objectInit, Cond.classLink RX3 9 RX4, Cond.fieldLink RX3 12 "FourStones$ShopReader" "trial" "LFourStones$Stones;", Cond.methodLink RL 20 yX6_init, Cond.instanceMethod yX6_init, Cond.code yX6_init cX6_init 1 none, Cond.methodLink RX6 1 objectInit, Cond.fieldLink RX6 7 "FourStonesModel" "weight" "[I", Cond.fieldLink RX6 13 "FourStonesModel" "price" "[I", Cond.fieldLink RX6 16 "FourStonesModel" "weightThen" "[I", Cond.fieldLink RX6 19 "FourStonesModel" "priceThen" "[I", Cond.arrayClass .boolean]
def wsL_law0_r4 : List Cond := [Cond.fieldLink RX6 22 "FourStonesModel" "had" "[Z", Cond.fieldLink RX6 26 "FourStonesModel" "some" "[I", Cond.fieldLink RX6 29 "FourStonesModel" "keptWeight" "[I", Cond.fieldLink RX6 32 "FourStonesModel" "holds" "[I", Cond.fieldLink RX6 35 "FourStonesModel" "kindOf" "[I", Cond.fieldLink RX6 38 "FourStonesModel" "figureOf" "[I", Cond.fieldLink RX6 41 "FourStonesModel" "sort" "[I", Cond.fieldLink RX6 44 "FourStonesModel" "size" "[I", Cond.fieldLink RX6 47 "FourStonesModel" "items" "[I", Cond.fieldLink RX6 50 "FourStonesModel" "moved" "[I", Cond.methodLink RL 21 yX5_shop, Cond.instanceMethod yX5_shop, Cond.selects RX5 yX5_shop yX5_shop, Cond.code yX5_shop cX5_shop 4 (some .int), Cond.methodLink RX5 68 yX5_isShelf, Cond.static yX5_isShelf, Cond.code yX5_isShelf cX5_isShelf 1 (some .boolean), Cond.methodLink RX5 72 yX5_rowOfSort, Cond.instanceMethod yX5_rowOfSort, Cond.selects RX5 yX5_rowOfSort yX5_rowOfSort, Cond.code yX5_rowOfSort cX5_rowOfSort 4 (some (.object "FourStones$Row")), Cond.fieldLink RX5 248 "FourStones$Row" "sort" "I", Cond.methodLink RX5 76 yX5_notHeld, Cond.instanceMethod yX5_notHeld]
def wsL_law0_r5 : List Cond := [Cond.selects RX5 yX5_notHeld yX5_notHeld, Cond.code yX5_notHeld cX5_notHeld 2 (some .int), Cond.methodLink RX5 245 yX5_holdsNothing, Cond.instanceMethod yX5_holdsNothing, Cond.selects RX5 yX5_holdsNothing yX5_holdsNothing, Cond.code yX5_holdsNothing cX5_holdsNothing 2 (some .boolean), Cond.methodLink RX5 80 yX3_read, Cond.instanceMethod yX3_read, Cond.selects RX3 yX3_read yX3_read, Cond.code yX3_read cX3_read 4 (some .int), Cond.fieldLink RX3 22 "FourStones$ShopReader" "at" "I", Cond.fieldLink RX3 26 "FourStones$ShopReader" "undone" "I", Cond.fieldLink RX3 33 "FourStones$Row" "cells" "[I", Cond.methodLink RX3 18 yX4_takeFrom, Cond.instanceMethod yX4_takeFrom, Cond.selects RX4 yX4_takeFrom yX4_takeFrom, Cond.code yX4_takeFrom cX4_takeFrom 2 none, Cond.methodLink RX4 40 arraycopyName, Cond.native arraycopyName, Cond.static arraycopyName, Cond.initialized "java/lang/System", Cond.fieldLink RX4 18 "FourStones$Stones" "count" "I", Cond.methodLink RX3 29 yX3_readStatement, Cond.instanceMethod yX3_readStatement]
def wsL_law0_r6 : List Cond := [Cond.selects RX3 yX3_readStatement yX3_readStatement, Cond.code yX3_readStatement cX3_readStatement 6 (some .boolean), Cond.methodLink RX3 39 yX3_readLetter, Cond.instanceMethod yX3_readLetter, Cond.selects RX3 yX3_readLetter yX3_readLetter, Cond.code yX3_readLetter cX3_readLetter 3 (some .int), Cond.methodLink RX3 71 yX1_isPlace, Cond.instanceMethod yX1_isPlace, Cond.selects RX1 yX1_isPlace yX1_isPlace, Cond.initialized RX1, Cond.code yX1_isPlace cX1_isPlace 2 (some .boolean), Cond.fieldLink RX1 15 "FourStones$Row" "cells" "[I", Cond.methodLink RX3 43 yX3_readNumber, Cond.instanceMethod yX3_readNumber, Cond.selects RX3 yX3_readNumber yX3_readNumber, Cond.code yX3_readNumber cX3_readNumber 4 (some .int), Cond.methodLink RX3 46 yX3_readDigit, Cond.instanceMethod yX3_readDigit, Cond.selects RX3 yX3_readDigit yX3_readDigit, Cond.code yX3_readDigit cX3_readDigit 3 (some .int), Cond.methodLink RX3 49 yX3_readSign, Cond.instanceMethod yX3_readSign, Cond.selects RX3 yX3_readSign yX3_readSign, Cond.code yX3_readSign cX3_readSign 3 (some .boolean)]
def wsL_law0_r7 : List Cond := [Cond.methodLink RX3 53 yX3_isDone, Cond.instanceMethod yX3_isDone, Cond.selects RX3 yX3_isDone yX3_isDone, Cond.code yX3_isDone cX3_isDone 4 (some .boolean), Cond.methodLink RX3 57 yX4_add, Cond.instanceMethod yX4_add, Cond.selects RX4 yX4_add yX4_add, Cond.code yX4_add cX4_add 3 (some .boolean), Cond.methodLink RX4 30 yX4_isWeight, Cond.static yX4_isWeight, Cond.code yX4_isWeight cX4_isWeight 1 (some .boolean), Cond.methodLink RX4 34 yX4_isPrice, Cond.static yX4_isPrice, Cond.code yX4_isPrice cX4_isPrice 1 (some .boolean), Cond.methodLink RX3 61 yX4_weighAnew, Cond.instanceMethod yX4_weighAnew, Cond.selects RX4 yX4_weighAnew yX4_weighAnew, Cond.code yX4_weighAnew cX4_weighAnew 3 (some .boolean), Cond.methodLink RX4 37 yX4_isStone, Cond.instanceMethod yX4_isStone, Cond.selects RX4 yX4_isStone yX4_isStone, Cond.code yX4_isStone cX4_isStone 2 (some .boolean), Cond.methodLink RX3 64 yX4_priceAnew, Cond.instanceMethod yX4_priceAnew]
def wsL_law0_r8 : List Cond := [Cond.selects RX4 yX4_priceAnew yX4_priceAnew, Cond.code yX4_priceAnew cX4_priceAnew 3 (some .boolean), Cond.methodLink RX3 67 yX4_dropLatest, Cond.instanceMethod yX4_dropLatest, Cond.selects RX4 yX4_dropLatest yX4_dropLatest, Cond.code yX4_dropLatest cX4_dropLatest 1 (some .boolean), Cond.methodLink RX5 84 yX0_layOut, Cond.instanceMethod yX0_layOut, Cond.selects RX0 yX0_layOut yX0_layOut, Cond.code yX0_layOut cX0_layOut 4 none, Cond.fieldLink RX0 28 "FourStones$Stones" "count" "I", Cond.fieldLink RX0 31 "FourStones$Stones" "weights" "[I", Cond.methodLink RX0 34 yX0_layRight, Cond.instanceMethod yX0_layRight, Cond.selects RX0 yX0_layRight yX0_layRight, Cond.code yX0_layRight cX0_layRight 5 none, Cond.methodLink RX0 38 yX0_layLeft, Cond.instanceMethod yX0_layLeft, Cond.selects RX0 yX0_layLeft yX0_layLeft, Cond.code yX0_layLeft cX0_layLeft 5 none, Cond.methodLink RL 25 yX6_shop, Cond.instanceMethod yX6_shop, Cond.selects RX6 yX6_shop yX6_shop, Cond.code yX6_shop cX6_shop 2 (some .int)]
def wsL_law0_r9 : List Cond := [Cond.fieldLink RX6 183 "FourStonesModel" "from" "I", Cond.fieldLink RX6 180 "FourStonesModel" "to" "I", Cond.methodLink RX6 117 yX6_isShelf, Cond.static yX6_isShelf, Cond.code yX6_isShelf cX6_isShelf 1 (some .boolean), Cond.methodLink RX6 68 yX6_isIn, Cond.static yX6_isIn, Cond.code yX6_isIn cX6_isIn 3 (some .boolean), Cond.methodLink RX6 218 yX6_read, Cond.instanceMethod yX6_read, Cond.selects RX6 yX6_read yX6_read, Cond.code yX6_read cX6_read 5 (some .int), Cond.fieldLink RX6 177 "FourStonesModel" "place" "I", Cond.fieldLink RX6 186 "FourStonesModel" "well" "Z", Cond.fieldLink RX6 57 "FourStonesModel" "stones" "I", Cond.fieldLink RX6 199 "FourStonesModel" "first" "I", Cond.fieldLink RX6 205 "FourStonesModel" "second" "I", Cond.methodLink RX6 208 yX6_statement, Cond.instanceMethod yX6_statement, Cond.selects RX6 yX6_statement yX6_statement, Cond.code yX6_statement cX6_statement 2 (some .int), Cond.methodLink RX6 196 yX6_figures, Cond.instanceMethod yX6_figures, Cond.selects RX6 yX6_figures yX6_figures]
def wsL_law0_r10 : List Cond := [Cond.code yX6_figures cX6_figures 4 (some .int), Cond.methodLink RX6 192 yX6_isDigit, Cond.instanceMethod yX6_isDigit, Cond.selects RX6 yX6_isDigit yX6_isDigit, Cond.code yX6_isDigit cX6_isDigit 1 (some .boolean), Cond.methodLink RX6 202 yX6_expect, Cond.instanceMethod yX6_expect, Cond.selects RX6 yX6_expect yX6_expect, Cond.code yX6_expect cX6_expect 2 none, Cond.methodLink RX6 189 yX6_comes, Cond.instanceMethod yX6_comes, Cond.selects RX6 yX6_comes yX6_comes, Cond.code yX6_comes cX6_comes 2 (some .boolean), Cond.methodLink RX6 211 yX6_isAsTold, Cond.static yX6_isAsTold, Cond.code yX6_isAsTold cX6_isAsTold 4 (some .boolean), Cond.methodLink RX6 215 yX6_come, Cond.instanceMethod yX6_come, Cond.selects RX6 yX6_come yX6_come, Cond.code yX6_come cX6_come 2 none, Cond.methodLink RL 26 yX5_stone, Cond.instanceMethod yX5_stone, Cond.selects RX5 yX5_stone yX5_stone, Cond.code yX5_stone cX5_stone 3 (some .int)]
def wsL_law0_r11 : List Cond := [Cond.fieldLink RX5 91 "FourStones$Stones" "weights" "[I", Cond.fieldLink RX5 94 "FourStones$Stones" "prices" "[I", Cond.methodLink RX5 88 yX4_isStone, Cond.methodLink RL 30 yX6_stone, Cond.instanceMethod yX6_stone, Cond.selects RX6 yX6_stone yX6_stone, Cond.code yX6_stone cX6_stone 3 (some .int), Cond.methodLink RX6 72 yX6_isStone, Cond.instanceMethod yX6_isStone, Cond.selects RX6 yX6_isStone yX6_isStone, Cond.code yX6_isStone cX6_isStone 2 (some .boolean), Cond.methodLink RL 31 yX5_lying, Cond.instanceMethod yX5_lying, Cond.selects RX5 yX5_lying yX5_lying, Cond.code yX5_lying cX5_lying 3 (some .int), Cond.fieldLink RX5 100 "FourStones$Lyings" "right" "[I", Cond.fieldLink RX5 103 "FourStones$Lyings" "left" "[I", Cond.methodLink RX5 97 yX0_isLying, Cond.instanceMethod yX0_isLying, Cond.selects RX0 yX0_isLying yX0_isLying, Cond.code yX0_isLying cX0_isLying 2 (some .boolean), Cond.methodLink RX5 106 yX0_liftsOf, Cond.instanceMethod yX0_liftsOf, Cond.selects RX0 yX0_liftsOf yX0_liftsOf]
def wsL_law0_r12 : List Cond := [Cond.code yX0_liftsOf cX0_liftsOf 2 (some .int), Cond.methodLink RX0 41 yX0_notOff, Cond.instanceMethod yX0_notOff, Cond.selects RX0 yX0_notOff yX0_notOff, Cond.code yX0_notOff cX0_notOff 2 (some .int), Cond.methodLink RX0 45 yJ6_bitCount_0f7a4, Cond.static yJ6_bitCount_0f7a4, Cond.initialized RJ6, Cond.code yJ6_bitCount_0f7a4 cJ6_bitCount_0f7a4 1 (some .int), Cond.constant RJ6 265 (1431655765), Cond.constant RJ6 266 (858993459), Cond.constant RJ6 267 (252645135), Cond.methodLink RX5 109 yX0_notOff, Cond.methodLink RX5 112 yX4_pricesOf, Cond.instanceMethod yX4_pricesOf, Cond.selects RX4 yX4_pricesOf yX4_pricesOf, Cond.code yX4_pricesOf cX4_pricesOf 2 (some .int), Cond.methodLink RX4 26 yX4_sumOf, Cond.instanceMethod yX4_sumOf, Cond.selects RX4 yX4_sumOf yX4_sumOf, Cond.code yX4_sumOf cX4_sumOf 5 (some .int), Cond.methodLink RL 34 yX6_lying, Cond.instanceMethod yX6_lying, Cond.selects RX6 yX6_lying yX6_lying]
def wsL_law0_r13 : List Cond := [Cond.code yX6_lying cX6_lying 3 (some .int), Cond.fieldLink RX6 80 "FourStonesModel" "right" "I", Cond.fieldLink RX6 83 "FourStonesModel" "left" "I", Cond.fieldLink RX6 86 "FourStonesModel" "rights" "I", Cond.fieldLink RX6 89 "FourStonesModel" "lefts" "I", Cond.fieldLink RX6 92 "FourStonesModel" "prices" "I", Cond.methodLink RX6 98 yX6_isLying, Cond.instanceMethod yX6_isLying, Cond.selects RX6 yX6_isLying yX6_isLying, Cond.code yX6_isLying cX6_isLying 2 (some .boolean), Cond.methodLink RX6 76 yX6_power, Cond.static yX6_power, Cond.code yX6_power cX6_power 3 (some .int), Cond.methodLink RX6 101 yX6_look, Cond.instanceMethod yX6_look, Cond.selects RX6 yX6_look yX6_look, Cond.code yX6_look cX6_look 5 none, Cond.fieldLink RX6 95 "FourStonesModel" "used" "I", Cond.methodLink RL 35 yX5_weighs, Cond.instanceMethod yX5_weighs, Cond.selects RX5 yX5_weighs yX5_weighs, Cond.code yX5_weighs cX5_weighs 4 (some .int), Cond.constant RX5 115 (-1000000001), Cond.constant RX5 116 (-1000000000)]
def wsL_law0_r14 : List Cond := [Cond.constant RX5 125 (-1000000003), Cond.methodLink RX5 117 yX2_allows, Cond.instanceMethod yX2_allows, Cond.selects RX2 yX2_allows yX2_allows, Cond.code yX2_allows cX2_allows 3 (some .boolean), Cond.fieldLink RX2 26 "FourStones$Lyings" "leftStones" "[I", Cond.fieldLink RX2 32 "FourStones$Lyings" "rightStones" "[I", Cond.methodLink RX2 35 yJ6_bitCount_0f7a4, Cond.methodLink RX5 121 yX2_weightOf, Cond.instanceMethod yX2_weightOf, Cond.selects RX2 yX2_weightOf yX2_weightOf, Cond.code yX2_weightOf cX2_weightOf 7 (some .int), Cond.fieldLink RX2 41 "FourStones$Lyings" "right" "[I", Cond.fieldLink RX2 44 "FourStones$Lyings" "left" "[I", Cond.methodLink RX2 47 Lib.Math.abs.name, Cond.static Lib.Math.abs.name, Cond.initialized "java/lang/Math", Cond.code Lib.Math.abs.name Lib.Math.abs.code 1 (some .int), Cond.methodLink RL 38 yX6_weighs, Cond.instanceMethod yX6_weighs, Cond.selects RX6 yX6_weighs yX6_weighs, Cond.code yX6_weighs cX6_weighs 3 (some .int), Cond.constant RX6 120 (-1000000001), Cond.constant RX6 124 (1000000000)]
def wsL_law0_r15 : List Cond := [Cond.constant RX6 125 (-1000000003), Cond.methodLink RX6 121 yX6_noScale, Cond.instanceMethod yX6_noScale, Cond.selects RX6 yX6_noScale yX6_noScale, Cond.code yX6_noScale cX6_noScale 2 (some .int), Cond.methodLink RX6 110 yX6_mayBe, Cond.instanceMethod yX6_mayBe, Cond.selects RX6 yX6_mayBe yX6_mayBe, Cond.code yX6_mayBe cX6_mayBe 2 (some .boolean), Cond.methodLink RX6 113 yX6_readBy, Cond.static yX6_readBy, Cond.code yX6_readBy cX6_readBy 4 (some .int), Cond.methodLink RX6 105 Lib.Math.abs.name, Cond.methodLink RL 39 yX5_may, Cond.instanceMethod yX5_may, Cond.selects RX5 yX5_may yX5_may, Cond.code yX5_may cX5_may 4 (some .int), Cond.methodLink RL 42 yX6_may, Cond.instanceMethod yX6_may, Cond.selects RX6 yX6_may yX6_may, Cond.code yX6_may cX6_may 3 (some .int), Cond.methodLink RL 43 yX5_ways, Cond.instanceMethod yX5_ways, Cond.selects RX5 yX5_ways yX5_ways]
def wsL_law0_r16 : List Cond := [Cond.code yX5_ways cX5_ways 6 (some .int), Cond.fieldLink RX5 129 "FourStones$Lyings" "count" "I", Cond.methodLink RX5 126 yX5_isNumber, Cond.static yX5_isNumber, Cond.code yX5_isNumber cX5_isNumber 1 (some .boolean), Cond.methodLink RX5 133 yX2_hits, Cond.instanceMethod yX2_hits, Cond.selects RX2 yX2_hits yX2_hits, Cond.code yX2_hits cX2_hits 4 (some .boolean), Cond.methodLink RX2 18 yX2_allows, Cond.methodLink RX2 22 yX2_weightOf, Cond.methodLink RL 46 yX6_ways, Cond.instanceMethod yX6_ways, Cond.selects RX6 yX6_ways yX6_ways, Cond.code yX6_ways cX6_ways 5 (some .int), Cond.methodLink RX6 126 yX6_isWeight, Cond.instanceMethod yX6_isWeight, Cond.selects RX6 yX6_isWeight yX6_isWeight, Cond.code yX6_isWeight cX6_isWeight 4 (some .boolean), Cond.methodLink RL 47 yX5_first, Cond.instanceMethod yX5_first, Cond.selects RX5 yX5_first yX5_first, Cond.code yX5_first cX5_first 5 (some .int), Cond.methodLink RL 50 yX6_first]
def wsL_law0_r17 : List Cond := [Cond.instanceMethod yX6_first, Cond.selects RX6 yX6_first yX6_first, Cond.code yX6_first cX6_first 4 (some .int), Cond.methodLink RL 51 yX5_lifts, Cond.instanceMethod yX5_lifts, Cond.selects RX5 yX5_lifts yX5_lifts, Cond.code yX5_lifts cX5_lifts 6 (some .int), Cond.methodLink RX5 137 yX5_leastLifted, Cond.instanceMethod yX5_leastLifted, Cond.selects RX5 yX5_leastLifted yX5_leastLifted, Cond.code yX5_leastLifted cX5_leastLifted 7 (some .int), Cond.methodLink RL 55 yX6_lifts, Cond.instanceMethod yX6_lifts, Cond.selects RX6 yX6_lifts yX6_lifts, Cond.code yX6_lifts cX6_lifts 7 (some .int), Cond.methodLink RL 56 yX5_reach, Cond.instanceMethod yX5_reach, Cond.selects RX5 yX5_reach yX5_reach, Cond.code yX5_reach cX5_reach 3 (some .int), Cond.methodLink RX5 141 yX5_firstNotHad, Cond.instanceMethod yX5_firstNotHad, Cond.selects RX5 yX5_firstNotHad yX5_firstNotHad, Cond.code yX5_firstNotHad cX5_firstNotHad 4 (some .int), Cond.methodLink RX5 277 yX5_markHad]
def wsL_law0_r18 : List Cond := [Cond.instanceMethod yX5_markHad, Cond.selects RX5 yX5_markHad yX5_markHad, Cond.code yX5_markHad cX5_markHad 6 none, Cond.methodLink RX5 271 yJ7_fill_53178, Cond.static yJ7_fill_53178, Cond.initialized RJ7, Cond.code yJ7_fill_53178 cJ7_fill_53178 4 none, Cond.methodLink RX5 189 yX5_canBeHad, Cond.static yX5_canBeHad, Cond.code yX5_canBeHad cX5_canBeHad 1 (some .boolean), Cond.methodLink RL 59 yX6_reach, Cond.instanceMethod yX6_reach, Cond.selects RX6 yX6_reach yX6_reach, Cond.code yX6_reach cX6_reach 2 (some .int), Cond.methodLink RX6 129 yX6_have, Cond.instanceMethod yX6_have, Cond.selects RX6 yX6_have yX6_have, Cond.code yX6_have cX6_have 5 none, Cond.methodLink RX6 133 yX6_reached, Cond.instanceMethod yX6_reached, Cond.selects RX6 yX6_reached yX6_reached, Cond.code yX6_reached cX6_reached 2 (some .int), Cond.methodLink RL 60 yX5_hole, Cond.instanceMethod yX5_hole]
def wsL_law0_r19 : List Cond := [Cond.selects RX5 yX5_hole yX5_hole, Cond.code yX5_hole cX5_hole 4 (some .int), Cond.methodLink RL 63 yX6_hole, Cond.instanceMethod yX6_hole, Cond.selects RX6 yX6_hole yX6_hole, Cond.code yX6_hole cX6_hole 2 (some .int), Cond.methodLink RL 64 yX5_list, Cond.instanceMethod yX5_list, Cond.selects RX5 yX5_list yX5_list, Cond.code yX5_list cX5_list 3 (some .int), Cond.methodLink RX5 145 yX5_bestSet, Cond.instanceMethod yX5_bestSet, Cond.selects RX5 yX5_bestSet yX5_bestSet, Cond.code yX5_bestSet cX5_bestSet 12 (some .int), Cond.fieldLink RX5 209 "FourStones$Row" "cells" "[I", Cond.methodLink RX5 281 yX5_isList, Cond.static yX5_isList, Cond.code yX5_isList cX5_isList 3 (some .boolean), Cond.methodLink RX5 284 yX5_markListed, Cond.instanceMethod yX5_markListed, Cond.selects RX5 yX5_markListed yX5_markListed, Cond.code yX5_markListed cX5_markListed 5 none, Cond.methodLink RX5 295 yX1_placesOf, Cond.instanceMethod yX1_placesOf]
def wsL_law0_r20 : List Cond := [Cond.selects RX1 yX1_placesOf yX1_placesOf, Cond.code yX1_placesOf cX1_placesOf 4 (some .int), Cond.methodLink RX5 219 yX4_all, Cond.instanceMethod yX4_all, Cond.selects RX4 yX4_all yX4_all, Cond.code yX4_all cX4_all 1 (some .int), Cond.methodLink RX5 288 yX5_listedWithin, Cond.instanceMethod yX5_listedWithin, Cond.selects RX5 yX5_listedWithin yX5_listedWithin, Cond.code yX5_listedWithin cX5_listedWithin 4 (some .int), Cond.methodLink RX5 291 yX5_rankOf, Cond.instanceMethod yX5_rankOf, Cond.selects RX5 yX5_rankOf yX5_rankOf, Cond.code yX5_rankOf cX5_rankOf 6 (some .int), Cond.methodLink RX5 176 yJ6_bitCount_0f7a4, Cond.methodLink RL 67 yX6_list, Cond.instanceMethod yX6_list, Cond.selects RX6 yX6_list yX6_list, Cond.code yX6_list cX6_list 3 (some .int), Cond.methodLink RX6 146 yX6_noList, Cond.instanceMethod yX6_noList, Cond.selects RX6 yX6_noList yX6_noList, Cond.code yX6_noList cX6_noList 4 (some .int), Cond.methodLink RX6 149 yX6_bestSet]
def wsL_law0_r21 : List Cond := [Cond.instanceMethod yX6_bestSet, Cond.selects RX6 yX6_bestSet yX6_bestSet, Cond.code yX6_bestSet cX6_bestSet 14 (some .int), Cond.methodLink RX6 137 yX6_bits, Cond.static yX6_bits, Cond.code yX6_bits cX6_bits 3 (some .int), Cond.methodLink RX6 140 yX6_priceOf, Cond.instanceMethod yX6_priceOf, Cond.selects RX6 yX6_priceOf yX6_priceOf, Cond.code yX6_priceOf cX6_priceOf 4 (some .int), Cond.methodLink RX6 143 yX6_hasAll, Cond.instanceMethod yX6_hasAll, Cond.selects RX6 yX6_hasAll yX6_hasAll, Cond.code yX6_hasAll cX6_hasAll 6 (some .boolean), Cond.methodLink RL 68 yX5_cheapest, Cond.instanceMethod yX5_cheapest, Cond.selects RX5 yX5_cheapest yX5_cheapest, Cond.code yX5_cheapest cX5_cheapest 6 (some .int), Cond.methodLink RX5 149 yX4_areStones, Cond.instanceMethod yX4_areStones, Cond.selects RX4 yX4_areStones yX4_areStones, Cond.code yX4_areStones cX4_areStones 2 (some .boolean), Cond.methodLink RX4 22 yX4_all, Cond.methodLink RL 72 yX6_cheapest]
def wsL_law0_r22 : List Cond := [Cond.instanceMethod yX6_cheapest, Cond.selects RX6 yX6_cheapest yX6_cheapest, Cond.code yX6_cheapest cX6_cheapest 6 (some .int), Cond.methodLink RL 73 yX5_threes, Cond.instanceMethod yX5_threes, Cond.selects RX5 yX5_threes yX5_threes, Cond.code yX5_threes cX5_threes 3 (some .int), Cond.methodLink RX5 152 yX5_ofSeries, Cond.static yX5_ofSeries, Cond.code yX5_ofSeries cX5_ofSeries 6 (some .int), Cond.methodLink RL 76 yX6_threes, Cond.instanceMethod yX6_threes, Cond.selects RX6 yX6_threes yX6_threes, Cond.code yX6_threes cX6_threes 6 (some .int), Cond.methodLink RL 77 yX5_doubles, Cond.instanceMethod yX5_doubles, Cond.selects RX5 yX5_doubles yX5_doubles, Cond.code yX5_doubles cX5_doubles 3 (some .int), Cond.methodLink RL 80 yX6_doubles, Cond.instanceMethod yX6_doubles, Cond.selects RX6 yX6_doubles yX6_doubles, Cond.code yX6_doubles cX6_doubles 4 (some .int), Cond.methodLink RL 81 yX5_digits, Cond.instanceMethod yX5_digits]
def wsL_law0_r23 : List Cond := [Cond.selects RX5 yX5_digits yX5_digits, Cond.code yX5_digits cX5_digits 5 (some .int), Cond.methodLink RX5 156 yX5_withoutLowest, Cond.static yX5_withoutLowest, Cond.code yX5_withoutLowest cX5_withoutLowest 1 (some .int), Cond.methodLink RX5 298 yJ9_floorDiv_7cf53, Cond.static yJ9_floorDiv_7cf53, Cond.initialized RJ9, Cond.code yJ9_floorDiv_7cf53 cJ9_floorDiv_7cf53 3 (some .int), Cond.methodLink RX5 159 yX5_lowestDigit, Cond.static yX5_lowestDigit, Cond.code yX5_lowestDigit cX5_lowestDigit 1 (some .int), Cond.methodLink RX5 162 yJ9_floorMod_7cf53, Cond.static yJ9_floorMod_7cf53, Cond.code yJ9_floorMod_7cf53 cJ9_floorMod_7cf53 3 (some .int), Cond.methodLink RL 84 yX6_digits, Cond.instanceMethod yX6_digits, Cond.selects RX6 yX6_digits yX6_digits, Cond.code yX6_digits cX6_digits 7 (some .int), Cond.methodLink RX6 153 yX6_lowest, Cond.static yX6_lowest, Cond.code yX6_lowest cX6_lowest 2 (some .int), Cond.methodLink RL 85 yX5_added, Cond.instanceMethod yX5_added]
def wsL_law0_r24 : List Cond := [Cond.selects RX5 yX5_added yX5_added, Cond.code yX5_added cX5_added 9 (some .int), Cond.methodLink RL 88 yX6_added, Cond.instanceMethod yX6_added, Cond.selects RX6 yX6_added yX6_added, Cond.code yX6_added cX6_added 10 (some .int), Cond.methodLink RL 89 yX5_sets, Cond.instanceMethod yX5_sets, Cond.selects RX5 yX5_sets yX5_sets, Cond.code yX5_sets cX5_sets 5 (some .int), Cond.methodLink RX5 168 yX5_searchSets, Cond.static yX5_searchSets, Cond.code yX5_searchSets cX5_searchSets 10 (some .int), Cond.methodLink RX5 301 yX5_haveAll, Cond.static yX5_haveAll, Cond.code yX5_haveAll cX5_haveAll 9 (some .boolean), Cond.methodLink RX5 305 Lib.Math.abs.name, Cond.methodLink RL 92 yX6_sets, Cond.instanceMethod yX6_sets, Cond.selects RX6 yX6_sets yX6_sets, Cond.code yX6_sets cX6_sets 5 (some .int), Cond.fieldLink RX6 160 "FourStonesModel" "setsMany" "I", Cond.fieldLink RX6 163 "FourStonesModel" "setsFirst" "I", Cond.methodLink RX6 166 yX6_choose]
def wsL_law0_r25 : List Cond := [Cond.instanceMethod yX6_choose, Cond.selects RX6 yX6_choose yX6_choose, Cond.code yX6_choose cX6_choose 6 none, Cond.methodLink RX6 156 yX6_isAllHad, Cond.instanceMethod yX6_isAllHad, Cond.selects RX6 yX6_isAllHad yX6_isAllHad, Cond.code yX6_isAllHad cX6_isAllHad 10 (some .boolean), Cond.methodLink RL 93 yX5_lost, Cond.instanceMethod yX5_lost, Cond.selects RX5 yX5_lost yX5_lost, Cond.code yX5_lost cX5_lost 4 (some .int), Cond.methodLink RX5 171 yX5_lostWithout, Cond.instanceMethod yX5_lostWithout, Cond.selects RX5 yX5_lostWithout yX5_lostWithout, Cond.code yX5_lostWithout cX5_lostWithout 6 (some .int), Cond.methodLink RL 96 yX6_lost, Cond.instanceMethod yX6_lost, Cond.selects RX6 yX6_lost yX6_lost, Cond.code yX6_lost cX6_lost 3 (some .int), Cond.methodLink RX6 170 yX6_lostBy, Cond.instanceMethod yX6_lostBy, Cond.selects RX6 yX6_lostBy yX6_lostBy, Cond.code yX6_lostBy cX6_lostBy 6 (some .int), Cond.methodLink RL 97 yX5_harmsLeast]
def wsL_law0_r26 : List Cond := [Cond.instanceMethod yX5_harmsLeast, Cond.selects RX5 yX5_harmsLeast yX5_harmsLeast, Cond.code yX5_harmsLeast cX5_harmsLeast 8 (some .int), Cond.fieldLink RX5 175 "FourStones$Stones" "count" "I", Cond.methodLink RL 100 yX6_harmsLeast, Cond.instanceMethod yX6_harmsLeast, Cond.selects RX6 yX6_harmsLeast yX6_harmsLeast, Cond.code yX6_harmsLeast cX6_harmsLeast 6 (some .int), Cond.methodLink RL 101 yX5_trials, Cond.instanceMethod yX5_trials, Cond.selects RX5 yX5_trials yX5_trials, Cond.code yX5_trials cX5_trials 5 (some .int), Cond.methodLink RL 104 yX6_trials, Cond.instanceMethod yX6_trials, Cond.selects RX6 yX6_trials yX6_trials, Cond.code yX6_trials cX6_trials 3 (some .int), Cond.methodLink RL 105 yX5_found, Cond.instanceMethod yX5_found, Cond.selects RX5 yX5_found yX5_found, Cond.code yX5_found cX5_found 5 (some .int), Cond.methodLink RX5 181 yX5_areTrials, Cond.static yX5_areTrials, Cond.code yX5_areTrials cX5_areTrials 5 (some .boolean), Cond.methodLink RX5 185 yX5_isLighterBy]
def wsL_law0_r27 : List Cond := [Cond.static yX5_isLighterBy, Cond.code yX5_isLighterBy cX5_isLighterBy 6 (some .boolean), Cond.methodLink RL 108 yX6_found, Cond.instanceMethod yX6_found, Cond.selects RX6 yX6_found yX6_found, Cond.code yX6_found cX6_found 7 (some .int), Cond.methodLink RL 109 yX5_twice, Cond.instanceMethod yX5_twice, Cond.selects RX5 yX5_twice yX5_twice, Cond.code yX5_twice cX5_twice 6 (some .int), Cond.methodLink RL 112 yX6_twice, Cond.instanceMethod yX6_twice, Cond.selects RX6 yX6_twice yX6_twice, Cond.code yX6_twice cX6_twice 5 (some .int), Cond.methodLink RL 113 yX5_customers, Cond.instanceMethod yX5_customers, Cond.selects RX5 yX5_customers yX5_customers, Cond.code yX5_customers cX5_customers 8 (some .int), Cond.methodLink RX5 192 yX5_collectOtherLyings, Cond.instanceMethod yX5_collectOtherLyings, Cond.selects RX5 yX5_collectOtherLyings yX5_collectOtherLyings, Cond.code yX5_collectOtherLyings cX5_collectOtherLyings 4 (some .int), Cond.methodLink RL 116 yX6_customers, Cond.instanceMethod yX6_customers]
def wsL_law0_r28 : List Cond := [Cond.selects RX6 yX6_customers yX6_customers, Cond.code yX6_customers cX6_customers 10 (some .int), Cond.methodLink RL 117 yX5_unknown, Cond.instanceMethod yX5_unknown, Cond.selects RX5 yX5_unknown yX5_unknown, Cond.code yX5_unknown cX5_unknown 7 (some .int), Cond.methodLink RX5 195 yX5_areWeighings, Cond.instanceMethod yX5_areWeighings, Cond.selects RX5 yX5_areWeighings yX5_areWeighings, Cond.code yX5_areWeighings cX5_areWeighings 4 (some .boolean), Cond.methodLink RX5 198 yX5_isWeightBy, Cond.instanceMethod yX5_isWeightBy, Cond.selects RX5 yX5_isWeightBy yX5_isWeightBy, Cond.code yX5_isWeightBy cX5_isWeightBy 9 (some .boolean), Cond.methodLink RX5 308 yX0_sideOf, Cond.instanceMethod yX0_sideOf, Cond.selects RX0 yX0_sideOf yX0_sideOf, Cond.code yX0_sideOf cX0_sideOf 3 (some .int), Cond.methodLink RL 120 yX6_unknown, Cond.instanceMethod yX6_unknown, Cond.selects RX6 yX6_unknown yX6_unknown, Cond.code yX6_unknown cX6_unknown 11 (some .int), Cond.methodLink RL 121 yX5_seeded, Cond.instanceMethod yX5_seeded]
def wsL_law0_r29 : List Cond := [Cond.selects RX5 yX5_seeded yX5_seeded, Cond.code yX5_seeded cX5_seeded 7 (some .int), Cond.constant RX5 202 (1103515245), Cond.constant RX5 203 (2147483647), Cond.constant RX5 204 (65536), Cond.methodLink RX5 205 yX4_add, Cond.methodLink RL 124 yX6_seeded, Cond.instanceMethod yX6_seeded, Cond.selects RX6 yX6_seeded yX6_seeded, Cond.code yX6_seeded cX6_seeded 7 (some .int), Cond.constant RX6 174 (1103515245), Cond.constant RX6 175 (2147483647), Cond.constant RX6 176 (65536), Cond.methodLink RX6 64 yX6_move, Cond.static yX6_move, Cond.code yX6_move cX6_move 3 none, Cond.methodLink RL 125 yX5_judge, Cond.instanceMethod yX5_judge, Cond.selects RX5 yX5_judge yX5_judge, Cond.code yX5_judge cX5_judge 8 (some .int), Cond.methodLink RL 128 yX6_judge, Cond.instanceMethod yX6_judge, Cond.selects RX6 yX6_judge yX6_judge, Cond.code yX6_judge cX6_judge 5 (some .int)]
def wsL_law0_r30 : List Cond := [Cond.methodLink RL 129 yX5_image, Cond.instanceMethod yX5_image, Cond.selects RX5 yX5_image yX5_image, Cond.code yX5_image cX5_image 1 (some .int), Cond.fieldLink RX5 215 "FourStones" "hasImage" "Z", Cond.methodLink RX5 212 yX4_takeFrom, Cond.methodLink RL 133 yX6_image, Cond.instanceMethod yX6_image, Cond.selects RX6 yX6_image yX6_image, Cond.code yX6_image cX6_image 1 (some .int), Cond.fieldLink RX6 53 "FourStonesModel" "kept" "Z", Cond.fieldLink RX6 61 "FourStonesModel" "stonesThen" "I", Cond.methodLink RL 134 yX5_restore, Cond.instanceMethod yX5_restore, Cond.selects RX5 yX5_restore yX5_restore, Cond.code yX5_restore cX5_restore 1 (some .int), Cond.methodLink RL 137 yX6_restore, Cond.instanceMethod yX6_restore, Cond.selects RX6 yX6_restore yX6_restore, Cond.code yX6_restore cX6_restore 1 (some .int), Cond.methodLink RL 138 yX5_count, Cond.instanceMethod yX5_count, Cond.selects RX5 yX5_count yX5_count, Cond.code yX5_count cX5_count 2 (some .int)]
def wsL_law0_r31 : List Cond := [Cond.methodLink RX5 223 yX4_weightsOf, Cond.instanceMethod yX4_weightsOf, Cond.selects RX4 yX4_weightsOf yX4_weightsOf, Cond.code yX4_weightsOf cX4_weightsOf 2 (some .int), Cond.methodLink RL 141 yX6_count, Cond.instanceMethod yX6_count, Cond.selects RX6 yX6_count yX6_count, Cond.code yX6_count cX6_count 4 (some .int), Cond.methodLink RL 142 yX5_keep, Cond.instanceMethod yX5_keep, Cond.selects RX5 yX5_keep yX5_keep, Cond.code yX5_keep cX5_keep 5 (some .int), Cond.methodLink RL 145 yX6_keep, Cond.instanceMethod yX6_keep, Cond.selects RX6 yX6_keep yX6_keep, Cond.code yX6_keep cX6_keep 5 (some .int), Cond.methodLink RL 146 yX5_row, Cond.instanceMethod yX5_row, Cond.selects RX5 yX5_row yX5_row, Cond.code yX5_row cX5_row 4 (some .int), Cond.instantiable RX1 2, Cond.methodLink RX5 226 yX1_init, Cond.instanceMethod yX1_init, Cond.code yX1_init cX1_init 3 none]
def wsL_law0_r32 : List Cond := [Cond.methodLink RX1 3 objectInit, Cond.fieldLink RX1 9 "FourStones$Row" "sort" "I", Cond.methodLink RL 149 yX6_row, Cond.instanceMethod yX6_row, Cond.selects RX6 yX6_row yX6_row, Cond.code yX6_row cX6_row 5 (some .int), Cond.methodLink RL 150 yX5_put, Cond.instanceMethod yX5_put, Cond.selects RX5 yX5_put yX5_put, Cond.code yX5_put cX5_put 5 (some .int), Cond.methodLink RX5 227 yX1_isPlace, Cond.methodLink RX5 230 yX1_lowestBits, Cond.instanceMethod yX1_lowestBits, Cond.selects RX1 yX1_lowestBits yX1_lowestBits, Cond.code yX1_lowestBits cX1_lowestBits 2 (some .int), Cond.methodLink RL 153 yX6_put, Cond.instanceMethod yX6_put, Cond.selects RX6 yX6_put yX6_put, Cond.code yX6_put cX6_put 4 (some .int), Cond.methodLink RL 154 yL_element, Cond.static yL_element, Cond.initialized RL, Cond.codeWith yL_element cL_element 5 (some .int) [(0, 9, 12, 13), (0, 9, 16, 15)], Cond.classLink RL 13 "java/lang/IllegalArgumentException"]
def wsL_law0_r33 : List Cond := [Cond.classLink RL 15 "java/lang/IllegalStateException", Cond.methodLink RL 7 yX5_element, Cond.instanceMethod yX5_element, Cond.selects RX5 yX5_element yX5_element, Cond.code yX5_element cX5_element 4 (some .long), Cond.classLink RX5 233 "java/lang/IllegalArgumentException", Cond.initialized "java/lang/IllegalArgumentException", Cond.classLink RX5 240 "java/lang/IllegalStateException", Cond.initialized "java/lang/IllegalStateException", Cond.methodLink RL 159 yX6_element, Cond.instanceMethod yX6_element, Cond.selects RX6 yX6_element yX6_element, Cond.code yX6_element cX6_element 3 (some .long), Cond.fieldLink RX6 221 "FourStonesModel" "thrown" "I", Cond.methodLink RL 160 yX6_thrown, Cond.instanceMethod yX6_thrown, Cond.selects RX6 yX6_thrown yX6_thrown, Cond.code yX6_thrown cX6_thrown 1 (some .int), Cond.methodLink RL 163 yX5_copy, Cond.instanceMethod yX5_copy, Cond.selects RX5 yX5_copy yX5_copy, Cond.code yX5_copy cX5_copy 8 (some .int), Cond.methodLink RX5 254 arraycopyName, Cond.methodLink RX5 251 yX1_isStretch]
def wsL_law0_r34 : List Cond := [Cond.instanceMethod yX1_isStretch, Cond.selects RX1 yX1_isStretch yX1_isStretch, Cond.code yX1_isStretch cX1_isStretch 3 (some .boolean), Cond.methodLink RL 167 yX6_copy, Cond.instanceMethod yX6_copy, Cond.selects RX6 yX6_copy yX6_copy, Cond.code yX6_copy cX6_copy 7 (some .int), Cond.methodLink RL 168 yX5_cost, Cond.instanceMethod yX5_cost, Cond.selects RX5 yX5_cost yX5_cost, Cond.code yX5_cost cX5_cost 3 (some .int), Cond.methodLink RX5 260 yX2_price, Cond.instanceMethod yX2_price, Cond.selects RX2 yX2_price yX2_price, Cond.code yX2_price cX2_price 5 (some .int), Cond.methodLink RL 171 yX6_cost, Cond.instanceMethod yX6_cost, Cond.selects RX6 yX6_cost yX6_cost, Cond.code yX6_cost cX6_cost 2 (some .int), Cond.methodLink RX6 224 yX6_costOf, Cond.instanceMethod yX6_costOf, Cond.selects RX6 yX6_costOf yX6_costOf, Cond.code yX6_costOf cX6_costOf 3 (some .int), Cond.methodLink RL 172 yX5_toss]
def wsL_law0_r35 : List Cond := [Cond.instanceMethod yX5_toss, Cond.selects RX5 yX5_toss yX5_toss, Cond.codeWith yX5_toss cX5_toss 4 (some .int) [(26, 32, 33, 266), (26, 32, 43, 233), (26, 32, 52, 240)], Cond.classLink RX5 266 "java/lang/UnsupportedOperationException", Cond.fieldLink RX5 268 "FourStones$Scale" "figure" "I", Cond.methodLink RX5 263 yX2_fail, Cond.instanceMethod yX2_fail, Cond.selects RX2 yX2_fail yX2_fail, Cond.code yX2_fail cX2_fail 1 none, Cond.classLink RX2 52 "java/lang/UnsupportedOperationException", Cond.initialized "java/lang/UnsupportedOperationException", Cond.classLink RX2 55 "java/lang/IllegalArgumentException", Cond.classLink RX2 58 "java/lang/IllegalStateException", Cond.methodLink RL 175 yX6_toss, Cond.instanceMethod yX6_toss, Cond.selects RX6 yX6_toss yX6_toss, Cond.code yX6_toss cX6_toss 3 (some .int)]
def wsL_law0 : List Cond := (wsL_law0_r1 ++ (wsL_law0_r2 ++ (wsL_law0_r3 ++ (wsL_law0_r4 ++ (wsL_law0_r5 ++ (wsL_law0_r6 ++ (wsL_law0_r7 ++ (wsL_law0_r8 ++ (wsL_law0_r9 ++ (wsL_law0_r10 ++ (wsL_law0_r11 ++ (wsL_law0_r12 ++ (wsL_law0_r13 ++ (wsL_law0_r14 ++ (wsL_law0_r15 ++ (wsL_law0_r16 ++ (wsL_law0_r17 ++ (wsL_law0_r18 ++ (wsL_law0_r19 ++ (wsL_law0_r20 ++ (wsL_law0_r21 ++ (wsL_law0_r22 ++ (wsL_law0_r23 ++ (wsL_law0_r24 ++ (wsL_law0_r25 ++ (wsL_law0_r26 ++ (wsL_law0_r27 ++ (wsL_law0_r28 ++ (wsL_law0_r29 ++ (wsL_law0_r30 ++ (wsL_law0_r31 ++ (wsL_law0_r32 ++ (wsL_law0_r33 ++ (wsL_law0_r34 ++ wsL_law0_r35)))))))))))))))))))))))))))))))))) ++ wsX50 ++ wsX60 ++ wsX40 ++ wsX00 ++ wsX20 ++ wsX30 ++ wsX10 ++ ([] : List Cond)
def wsL_law : List Cond := wsL_law0 ++ (vx_atS RX5 237 "java/lang/IllegalArgumentException" ["java/lang/RuntimeException", "java/lang/Exception"]).filter goodWord ++ (vx_atS RX5 244 "java/lang/IllegalStateException" ["java/lang/RuntimeException", "java/lang/Exception"]).filter goodWord ++ (vx_at0 RX2 54 "java/lang/UnsupportedOperationException" ["java/lang/RuntimeException", "java/lang/Exception"]).filter goodWord ++ (vx_at0 RX2 57 "java/lang/IllegalArgumentException" ["java/lang/RuntimeException", "java/lang/Exception"]).filter goodWord ++ (vx_at0 RX2 60 "java/lang/IllegalStateException" ["java/lang/RuntimeException", "java/lang/Exception"]).filter goodWord
theorem mem_rr {big : List Cond} (rows : List (List Cond)) (hr : ∀ r ∈ rows, ∀ w ∈ r, w ∈ big) (ws : List Cond) (ps : List (Nat × Nat)) (hp : ws = ps.filterMap (fun q => (rows[q.1]?).bind (fun r => r[q.2]?))) : ∀ w ∈ ws, w ∈ big := by
  intro w hw
  rw [hp] at hw
  obtain ⟨i, -, hi⟩ := List.mem_filterMap.mp hw
  obtain ⟨r, h1, h2⟩ := Option.bind_eq_some_iff.mp hi
  exact hr r (List.mem_of_getElem? h1) w (List.mem_of_getElem? h2)
theorem goodIn_rr {big : List Cond} (rows : List (List Cond)) (hr : ∀ r ∈ rows, ∀ w ∈ r, w ∈ big) (ws : List Cond) (ps : List (Nat × Nat)) (hp : ws = ps.filterMap (fun q => (rows[q.1]?).bind (fun r => r[q.2]?))) (h : ws.all goodWord = true) : GoodIn big ws := fun w hw => ⟨mem_rr rows hr ws ps hp w hw, good_of_word (List.all_eq_true.mp h w hw)⟩
def rowsT : List (List Cond) := [k2_sels lw_privs, tables_1_1, tables_1_2, tables_1_3, tables_1_4, tables_1_5]
theorem rowsT_in : ∀ r ∈ rowsT, ∀ w ∈ r, w ∈ lw_tbl := List.forall_mem_cons.mpr ⟨fun _ h => List.mem_append_left _ h, List.forall_mem_cons.mpr ⟨fun _ h => List.mem_append_right _ (List.mem_append_left _ h), List.forall_mem_cons.mpr ⟨fun _ h => List.mem_append_right _ (List.mem_append_right _ (List.mem_append_left _ h)), List.forall_mem_cons.mpr ⟨fun _ h => List.mem_append_right _ (List.mem_append_right _ (List.mem_append_right _ (List.mem_append_left _ h))), List.forall_mem_cons.mpr ⟨fun _ h => List.mem_append_right _ (List.mem_append_right _ (List.mem_append_right _ (List.mem_append_right _ (List.mem_append_left _ h)))), List.forall_mem_cons.mpr ⟨fun _ h => List.mem_append_right _ (List.mem_append_right _ (List.mem_append_right _ (List.mem_append_right _ (List.mem_append_right _ h)))), fun _ h => nomatch h⟩⟩⟩⟩⟩⟩
theorem inR_0 : ∀ w ∈ wsL_law0_r1, w ∈ wsL_law := fun _ h => (List.mem_append_left _ (List.mem_append_left _ (List.mem_append_left _ (List.mem_append_left _ (List.mem_append_left _ (List.mem_append_left _ (List.mem_append_left _ (List.mem_append_left _ (List.mem_append_left _ (List.mem_append_left _ (List.mem_append_left _ (List.mem_append_left _ (List.mem_append_left _ (List.mem_append_left _ h))))))))))))))
theorem inR_1 : ∀ w ∈ wsL_law0_r2, w ∈ wsL_law := fun _ h => (List.mem_append_left _ (List.mem_append_left _ (List.mem_append_left _ (List.mem_append_left _ (List.mem_append_left _ (List.mem_append_left _ (List.mem_append_left _ (List.mem_append_left _ (List.mem_append_left _ (List.mem_append_left _ (List.mem_append_left _ (List.mem_append_left _ (List.mem_append_left _ (List.mem_append_right _ (List.mem_append_left _ h)))))))))))))))
theorem inR_2 : ∀ w ∈ wsL_law0_r3, w ∈ wsL_law := fun _ h => (List.mem_append_left _ (List.mem_append_left _ (List.mem_append_left _ (List.mem_append_left _ (List.mem_append_left _ (List.mem_append_left _ (List.mem_append_left _ (List.mem_append_left _ (List.mem_append_left _ (List.mem_append_left _ (List.mem_append_left _ (List.mem_append_left _ (List.mem_append_left _ (List.mem_append_right _ (List.mem_append_right _ (List.mem_append_left _ h))))))))))))))))
theorem inR_3 : ∀ w ∈ wsL_law0_r4, w ∈ wsL_law := fun _ h => (List.mem_append_left _ (List.mem_append_left _ (List.mem_append_left _ (List.mem_append_left _ (List.mem_append_left _ (List.mem_append_left _ (List.mem_append_left _ (List.mem_append_left _ (List.mem_append_left _ (List.mem_append_left _ (List.mem_append_left _ (List.mem_append_left _ (List.mem_append_left _ (List.mem_append_right _ (List.mem_append_right _ (List.mem_append_right _ (List.mem_append_left _ h)))))))))))))))))
theorem inR_4 : ∀ w ∈ wsL_law0_r5, w ∈ wsL_law := fun _ h => (List.mem_append_left _ (List.mem_append_left _ (List.mem_append_left _ (List.mem_append_left _ (List.mem_append_left _ (List.mem_append_left _ (List.mem_append_left _ (List.mem_append_left _ (List.mem_append_left _ (List.mem_append_left _ (List.mem_append_left _ (List.mem_append_left _ (List.mem_append_left _ (List.mem_append_right _ (List.mem_append_right _ (List.mem_append_right _ (List.mem_append_right _ (List.mem_append_left _ h))))))))))))))))))
theorem inR_5 : ∀ w ∈ wsL_law0_r6, w ∈ wsL_law := fun _ h => (List.mem_append_left _ (List.mem_append_left _ (List.mem_append_left _ (List.mem_append_left _ (List.mem_append_left _ (List.mem_append_left _ (List.mem_append_left _ (List.mem_append_left _ (List.mem_append_left _ (List.mem_append_left _ (List.mem_append_left _ (List.mem_append_left _ (List.mem_append_left _ (List.mem_append_right _ (List.mem_append_right _ (List.mem_append_right _ (List.mem_append_right _ (List.mem_append_right _ (List.mem_append_left _ h)))))))))))))))))))
theorem inR_6 : ∀ w ∈ wsL_law0_r7, w ∈ wsL_law := fun _ h => (List.mem_append_left _ (List.mem_append_left _ (List.mem_append_left _ (List.mem_append_left _ (List.mem_append_left _ (List.mem_append_left _ (List.mem_append_left _ (List.mem_append_left _ (List.mem_append_left _ (List.mem_append_left _ (List.mem_append_left _ (List.mem_append_left _ (List.mem_append_left _ (List.mem_append_right _ (List.mem_append_right _ (List.mem_append_right _ (List.mem_append_right _ (List.mem_append_right _ (List.mem_append_right _ (List.mem_append_left _ h))))))))))))))))))))
theorem inR_7 : ∀ w ∈ wsL_law0_r8, w ∈ wsL_law := fun _ h => (List.mem_append_left _ (List.mem_append_left _ (List.mem_append_left _ (List.mem_append_left _ (List.mem_append_left _ (List.mem_append_left _ (List.mem_append_left _ (List.mem_append_left _ (List.mem_append_left _ (List.mem_append_left _ (List.mem_append_left _ (List.mem_append_left _ (List.mem_append_left _ (List.mem_append_right _ (List.mem_append_right _ (List.mem_append_right _ (List.mem_append_right _ (List.mem_append_right _ (List.mem_append_right _ (List.mem_append_right _ (List.mem_append_left _ h)))))))))))))))))))))
theorem inR_8 : ∀ w ∈ wsL_law0_r9, w ∈ wsL_law := fun _ h => (List.mem_append_left _ (List.mem_append_left _ (List.mem_append_left _ (List.mem_append_left _ (List.mem_append_left _ (List.mem_append_left _ (List.mem_append_left _ (List.mem_append_left _ (List.mem_append_left _ (List.mem_append_left _ (List.mem_append_left _ (List.mem_append_left _ (List.mem_append_left _ (List.mem_append_right _ (List.mem_append_right _ (List.mem_append_right _ (List.mem_append_right _ (List.mem_append_right _ (List.mem_append_right _ (List.mem_append_right _ (List.mem_append_right _ (List.mem_append_left _ h))))))))))))))))))))))
theorem inR_9 : ∀ w ∈ wsL_law0_r10, w ∈ wsL_law := fun _ h => (List.mem_append_left _ (List.mem_append_left _ (List.mem_append_left _ (List.mem_append_left _ (List.mem_append_left _ (List.mem_append_left _ (List.mem_append_left _ (List.mem_append_left _ (List.mem_append_left _ (List.mem_append_left _ (List.mem_append_left _ (List.mem_append_left _ (List.mem_append_left _ (List.mem_append_right _ (List.mem_append_right _ (List.mem_append_right _ (List.mem_append_right _ (List.mem_append_right _ (List.mem_append_right _ (List.mem_append_right _ (List.mem_append_right _ (List.mem_append_right _ (List.mem_append_left _ h)))))))))))))))))))))))
theorem inR_10 : ∀ w ∈ wsL_law0_r11, w ∈ wsL_law := fun _ h => (List.mem_append_left _ (List.mem_append_left _ (List.mem_append_left _ (List.mem_append_left _ (List.mem_append_left _ (List.mem_append_left _ (List.mem_append_left _ (List.mem_append_left _ (List.mem_append_left _ (List.mem_append_left _ (List.mem_append_left _ (List.mem_append_left _ (List.mem_append_left _ (List.mem_append_right _ (List.mem_append_right _ (List.mem_append_right _ (List.mem_append_right _ (List.mem_append_right _ (List.mem_append_right _ (List.mem_append_right _ (List.mem_append_right _ (List.mem_append_right _ (List.mem_append_right _ (List.mem_append_left _ h))))))))))))))))))))))))
theorem inR_11 : ∀ w ∈ wsL_law0_r12, w ∈ wsL_law := fun _ h => (List.mem_append_left _ (List.mem_append_left _ (List.mem_append_left _ (List.mem_append_left _ (List.mem_append_left _ (List.mem_append_left _ (List.mem_append_left _ (List.mem_append_left _ (List.mem_append_left _ (List.mem_append_left _ (List.mem_append_left _ (List.mem_append_left _ (List.mem_append_left _ (List.mem_append_right _ (List.mem_append_right _ (List.mem_append_right _ (List.mem_append_right _ (List.mem_append_right _ (List.mem_append_right _ (List.mem_append_right _ (List.mem_append_right _ (List.mem_append_right _ (List.mem_append_right _ (List.mem_append_right _ (List.mem_append_left _ h)))))))))))))))))))))))))
theorem inR_12 : ∀ w ∈ wsL_law0_r13, w ∈ wsL_law := fun _ h => (List.mem_append_left _ (List.mem_append_left _ (List.mem_append_left _ (List.mem_append_left _ (List.mem_append_left _ (List.mem_append_left _ (List.mem_append_left _ (List.mem_append_left _ (List.mem_append_left _ (List.mem_append_left _ (List.mem_append_left _ (List.mem_append_left _ (List.mem_append_left _ (List.mem_append_right _ (List.mem_append_right _ (List.mem_append_right _ (List.mem_append_right _ (List.mem_append_right _ (List.mem_append_right _ (List.mem_append_right _ (List.mem_append_right _ (List.mem_append_right _ (List.mem_append_right _ (List.mem_append_right _ (List.mem_append_right _ (List.mem_append_left _ h))))))))))))))))))))))))))
theorem inR_13 : ∀ w ∈ wsL_law0_r14, w ∈ wsL_law := fun _ h => (List.mem_append_left _ (List.mem_append_left _ (List.mem_append_left _ (List.mem_append_left _ (List.mem_append_left _ (List.mem_append_left _ (List.mem_append_left _ (List.mem_append_left _ (List.mem_append_left _ (List.mem_append_left _ (List.mem_append_left _ (List.mem_append_left _ (List.mem_append_left _ (List.mem_append_right _ (List.mem_append_right _ (List.mem_append_right _ (List.mem_append_right _ (List.mem_append_right _ (List.mem_append_right _ (List.mem_append_right _ (List.mem_append_right _ (List.mem_append_right _ (List.mem_append_right _ (List.mem_append_right _ (List.mem_append_right _ (List.mem_append_right _ (List.mem_append_left _ h)))))))))))))))))))))))))))
theorem inR_14 : ∀ w ∈ wsL_law0_r15, w ∈ wsL_law := fun _ h => (List.mem_append_left _ (List.mem_append_left _ (List.mem_append_left _ (List.mem_append_left _ (List.mem_append_left _ (List.mem_append_left _ (List.mem_append_left _ (List.mem_append_left _ (List.mem_append_left _ (List.mem_append_left _ (List.mem_append_left _ (List.mem_append_left _ (List.mem_append_left _ (List.mem_append_right _ (List.mem_append_right _ (List.mem_append_right _ (List.mem_append_right _ (List.mem_append_right _ (List.mem_append_right _ (List.mem_append_right _ (List.mem_append_right _ (List.mem_append_right _ (List.mem_append_right _ (List.mem_append_right _ (List.mem_append_right _ (List.mem_append_right _ (List.mem_append_right _ (List.mem_append_left _ h))))))))))))))))))))))))))))
theorem inR_15 : ∀ w ∈ wsL_law0_r16, w ∈ wsL_law := fun _ h => (List.mem_append_left _ (List.mem_append_left _ (List.mem_append_left _ (List.mem_append_left _ (List.mem_append_left _ (List.mem_append_left _ (List.mem_append_left _ (List.mem_append_left _ (List.mem_append_left _ (List.mem_append_left _ (List.mem_append_left _ (List.mem_append_left _ (List.mem_append_left _ (List.mem_append_right _ (List.mem_append_right _ (List.mem_append_right _ (List.mem_append_right _ (List.mem_append_right _ (List.mem_append_right _ (List.mem_append_right _ (List.mem_append_right _ (List.mem_append_right _ (List.mem_append_right _ (List.mem_append_right _ (List.mem_append_right _ (List.mem_append_right _ (List.mem_append_right _ (List.mem_append_right _ (List.mem_append_left _ h)))))))))))))))))))))))))))))
theorem inR_16 : ∀ w ∈ wsL_law0_r17, w ∈ wsL_law := fun _ h => (List.mem_append_left _ (List.mem_append_left _ (List.mem_append_left _ (List.mem_append_left _ (List.mem_append_left _ (List.mem_append_left _ (List.mem_append_left _ (List.mem_append_left _ (List.mem_append_left _ (List.mem_append_left _ (List.mem_append_left _ (List.mem_append_left _ (List.mem_append_left _ (List.mem_append_right _ (List.mem_append_right _ (List.mem_append_right _ (List.mem_append_right _ (List.mem_append_right _ (List.mem_append_right _ (List.mem_append_right _ (List.mem_append_right _ (List.mem_append_right _ (List.mem_append_right _ (List.mem_append_right _ (List.mem_append_right _ (List.mem_append_right _ (List.mem_append_right _ (List.mem_append_right _ (List.mem_append_right _ (List.mem_append_left _ h))))))))))))))))))))))))))))))
theorem inR_17 : ∀ w ∈ wsL_law0_r18, w ∈ wsL_law := fun _ h => (List.mem_append_left _ (List.mem_append_left _ (List.mem_append_left _ (List.mem_append_left _ (List.mem_append_left _ (List.mem_append_left _ (List.mem_append_left _ (List.mem_append_left _ (List.mem_append_left _ (List.mem_append_left _ (List.mem_append_left _ (List.mem_append_left _ (List.mem_append_left _ (List.mem_append_right _ (List.mem_append_right _ (List.mem_append_right _ (List.mem_append_right _ (List.mem_append_right _ (List.mem_append_right _ (List.mem_append_right _ (List.mem_append_right _ (List.mem_append_right _ (List.mem_append_right _ (List.mem_append_right _ (List.mem_append_right _ (List.mem_append_right _ (List.mem_append_right _ (List.mem_append_right _ (List.mem_append_right _ (List.mem_append_right _ (List.mem_append_left _ h)))))))))))))))))))))))))))))))
theorem inR_18 : ∀ w ∈ wsL_law0_r19, w ∈ wsL_law := fun _ h => (List.mem_append_left _ (List.mem_append_left _ (List.mem_append_left _ (List.mem_append_left _ (List.mem_append_left _ (List.mem_append_left _ (List.mem_append_left _ (List.mem_append_left _ (List.mem_append_left _ (List.mem_append_left _ (List.mem_append_left _ (List.mem_append_left _ (List.mem_append_left _ (List.mem_append_right _ (List.mem_append_right _ (List.mem_append_right _ (List.mem_append_right _ (List.mem_append_right _ (List.mem_append_right _ (List.mem_append_right _ (List.mem_append_right _ (List.mem_append_right _ (List.mem_append_right _ (List.mem_append_right _ (List.mem_append_right _ (List.mem_append_right _ (List.mem_append_right _ (List.mem_append_right _ (List.mem_append_right _ (List.mem_append_right _ (List.mem_append_right _ (List.mem_append_left _ h))))))))))))))))))))))))))))))))
theorem inR_19 : ∀ w ∈ wsL_law0_r20, w ∈ wsL_law := fun _ h => (List.mem_append_left _ (List.mem_append_left _ (List.mem_append_left _ (List.mem_append_left _ (List.mem_append_left _ (List.mem_append_left _ (List.mem_append_left _ (List.mem_append_left _ (List.mem_append_left _ (List.mem_append_left _ (List.mem_append_left _ (List.mem_append_left _ (List.mem_append_left _ (List.mem_append_right _ (List.mem_append_right _ (List.mem_append_right _ (List.mem_append_right _ (List.mem_append_right _ (List.mem_append_right _ (List.mem_append_right _ (List.mem_append_right _ (List.mem_append_right _ (List.mem_append_right _ (List.mem_append_right _ (List.mem_append_right _ (List.mem_append_right _ (List.mem_append_right _ (List.mem_append_right _ (List.mem_append_right _ (List.mem_append_right _ (List.mem_append_right _ (List.mem_append_right _ (List.mem_append_left _ h)))))))))))))))))))))))))))))))))
theorem inR_20 : ∀ w ∈ wsL_law0_r21, w ∈ wsL_law := fun _ h => (List.mem_append_left _ (List.mem_append_left _ (List.mem_append_left _ (List.mem_append_left _ (List.mem_append_left _ (List.mem_append_left _ (List.mem_append_left _ (List.mem_append_left _ (List.mem_append_left _ (List.mem_append_left _ (List.mem_append_left _ (List.mem_append_left _ (List.mem_append_left _ (List.mem_append_right _ (List.mem_append_right _ (List.mem_append_right _ (List.mem_append_right _ (List.mem_append_right _ (List.mem_append_right _ (List.mem_append_right _ (List.mem_append_right _ (List.mem_append_right _ (List.mem_append_right _ (List.mem_append_right _ (List.mem_append_right _ (List.mem_append_right _ (List.mem_append_right _ (List.mem_append_right _ (List.mem_append_right _ (List.mem_append_right _ (List.mem_append_right _ (List.mem_append_right _ (List.mem_append_right _ (List.mem_append_left _ h))))))))))))))))))))))))))))))))))
theorem inR_21 : ∀ w ∈ wsL_law0_r22, w ∈ wsL_law := fun _ h => (List.mem_append_left _ (List.mem_append_left _ (List.mem_append_left _ (List.mem_append_left _ (List.mem_append_left _ (List.mem_append_left _ (List.mem_append_left _ (List.mem_append_left _ (List.mem_append_left _ (List.mem_append_left _ (List.mem_append_left _ (List.mem_append_left _ (List.mem_append_left _ (List.mem_append_right _ (List.mem_append_right _ (List.mem_append_right _ (List.mem_append_right _ (List.mem_append_right _ (List.mem_append_right _ (List.mem_append_right _ (List.mem_append_right _ (List.mem_append_right _ (List.mem_append_right _ (List.mem_append_right _ (List.mem_append_right _ (List.mem_append_right _ (List.mem_append_right _ (List.mem_append_right _ (List.mem_append_right _ (List.mem_append_right _ (List.mem_append_right _ (List.mem_append_right _ (List.mem_append_right _ (List.mem_append_right _ (List.mem_append_left _ h)))))))))))))))))))))))))))))))))))
theorem inR_22 : ∀ w ∈ wsL_law0_r23, w ∈ wsL_law := fun _ h => (List.mem_append_left _ (List.mem_append_left _ (List.mem_append_left _ (List.mem_append_left _ (List.mem_append_left _ (List.mem_append_left _ (List.mem_append_left _ (List.mem_append_left _ (List.mem_append_left _ (List.mem_append_left _ (List.mem_append_left _ (List.mem_append_left _ (List.mem_append_left _ (List.mem_append_right _ (List.mem_append_right _ (List.mem_append_right _ (List.mem_append_right _ (List.mem_append_right _ (List.mem_append_right _ (List.mem_append_right _ (List.mem_append_right _ (List.mem_append_right _ (List.mem_append_right _ (List.mem_append_right _ (List.mem_append_right _ (List.mem_append_right _ (List.mem_append_right _ (List.mem_append_right _ (List.mem_append_right _ (List.mem_append_right _ (List.mem_append_right _ (List.mem_append_right _ (List.mem_append_right _ (List.mem_append_right _ (List.mem_append_right _ (List.mem_append_left _ h))))))))))))))))))))))))))))))))))))
theorem inR_23 : ∀ w ∈ wsL_law0_r24, w ∈ wsL_law := fun _ h => (List.mem_append_left _ (List.mem_append_left _ (List.mem_append_left _ (List.mem_append_left _ (List.mem_append_left _ (List.mem_append_left _ (List.mem_append_left _ (List.mem_append_left _ (List.mem_append_left _ (List.mem_append_left _ (List.mem_append_left _ (List.mem_append_left _ (List.mem_append_left _ (List.mem_append_right _ (List.mem_append_right _ (List.mem_append_right _ (List.mem_append_right _ (List.mem_append_right _ (List.mem_append_right _ (List.mem_append_right _ (List.mem_append_right _ (List.mem_append_right _ (List.mem_append_right _ (List.mem_append_right _ (List.mem_append_right _ (List.mem_append_right _ (List.mem_append_right _ (List.mem_append_right _ (List.mem_append_right _ (List.mem_append_right _ (List.mem_append_right _ (List.mem_append_right _ (List.mem_append_right _ (List.mem_append_right _ (List.mem_append_right _ (List.mem_append_right _ (List.mem_append_left _ h)))))))))))))))))))))))))))))))))))))
theorem inR_24 : ∀ w ∈ wsL_law0_r25, w ∈ wsL_law := fun _ h => (List.mem_append_left _ (List.mem_append_left _ (List.mem_append_left _ (List.mem_append_left _ (List.mem_append_left _ (List.mem_append_left _ (List.mem_append_left _ (List.mem_append_left _ (List.mem_append_left _ (List.mem_append_left _ (List.mem_append_left _ (List.mem_append_left _ (List.mem_append_left _ (List.mem_append_right _ (List.mem_append_right _ (List.mem_append_right _ (List.mem_append_right _ (List.mem_append_right _ (List.mem_append_right _ (List.mem_append_right _ (List.mem_append_right _ (List.mem_append_right _ (List.mem_append_right _ (List.mem_append_right _ (List.mem_append_right _ (List.mem_append_right _ (List.mem_append_right _ (List.mem_append_right _ (List.mem_append_right _ (List.mem_append_right _ (List.mem_append_right _ (List.mem_append_right _ (List.mem_append_right _ (List.mem_append_right _ (List.mem_append_right _ (List.mem_append_right _ (List.mem_append_right _ (List.mem_append_left _ h))))))))))))))))))))))))))))))))))))))
theorem inR_25 : ∀ w ∈ wsL_law0_r26, w ∈ wsL_law := fun _ h => (List.mem_append_left _ (List.mem_append_left _ (List.mem_append_left _ (List.mem_append_left _ (List.mem_append_left _ (List.mem_append_left _ (List.mem_append_left _ (List.mem_append_left _ (List.mem_append_left _ (List.mem_append_left _ (List.mem_append_left _ (List.mem_append_left _ (List.mem_append_left _ (List.mem_append_right _ (List.mem_append_right _ (List.mem_append_right _ (List.mem_append_right _ (List.mem_append_right _ (List.mem_append_right _ (List.mem_append_right _ (List.mem_append_right _ (List.mem_append_right _ (List.mem_append_right _ (List.mem_append_right _ (List.mem_append_right _ (List.mem_append_right _ (List.mem_append_right _ (List.mem_append_right _ (List.mem_append_right _ (List.mem_append_right _ (List.mem_append_right _ (List.mem_append_right _ (List.mem_append_right _ (List.mem_append_right _ (List.mem_append_right _ (List.mem_append_right _ (List.mem_append_right _ (List.mem_append_right _ (List.mem_append_left _ h)))))))))))))))))))))))))))))))))))))))
theorem inR_26 : ∀ w ∈ wsL_law0_r27, w ∈ wsL_law := fun _ h => (List.mem_append_left _ (List.mem_append_left _ (List.mem_append_left _ (List.mem_append_left _ (List.mem_append_left _ (List.mem_append_left _ (List.mem_append_left _ (List.mem_append_left _ (List.mem_append_left _ (List.mem_append_left _ (List.mem_append_left _ (List.mem_append_left _ (List.mem_append_left _ (List.mem_append_right _ (List.mem_append_right _ (List.mem_append_right _ (List.mem_append_right _ (List.mem_append_right _ (List.mem_append_right _ (List.mem_append_right _ (List.mem_append_right _ (List.mem_append_right _ (List.mem_append_right _ (List.mem_append_right _ (List.mem_append_right _ (List.mem_append_right _ (List.mem_append_right _ (List.mem_append_right _ (List.mem_append_right _ (List.mem_append_right _ (List.mem_append_right _ (List.mem_append_right _ (List.mem_append_right _ (List.mem_append_right _ (List.mem_append_right _ (List.mem_append_right _ (List.mem_append_right _ (List.mem_append_right _ (List.mem_append_right _ (List.mem_append_left _ h))))))))))))))))))))))))))))))))))))))))
theorem inR_27 : ∀ w ∈ wsL_law0_r28, w ∈ wsL_law := fun _ h => (List.mem_append_left _ (List.mem_append_left _ (List.mem_append_left _ (List.mem_append_left _ (List.mem_append_left _ (List.mem_append_left _ (List.mem_append_left _ (List.mem_append_left _ (List.mem_append_left _ (List.mem_append_left _ (List.mem_append_left _ (List.mem_append_left _ (List.mem_append_left _ (List.mem_append_right _ (List.mem_append_right _ (List.mem_append_right _ (List.mem_append_right _ (List.mem_append_right _ (List.mem_append_right _ (List.mem_append_right _ (List.mem_append_right _ (List.mem_append_right _ (List.mem_append_right _ (List.mem_append_right _ (List.mem_append_right _ (List.mem_append_right _ (List.mem_append_right _ (List.mem_append_right _ (List.mem_append_right _ (List.mem_append_right _ (List.mem_append_right _ (List.mem_append_right _ (List.mem_append_right _ (List.mem_append_right _ (List.mem_append_right _ (List.mem_append_right _ (List.mem_append_right _ (List.mem_append_right _ (List.mem_append_right _ (List.mem_append_right _ (List.mem_append_left _ h)))))))))))))))))))))))))))))))))))))))))
theorem inR_28 : ∀ w ∈ wsL_law0_r29, w ∈ wsL_law := fun _ h => (List.mem_append_left _ (List.mem_append_left _ (List.mem_append_left _ (List.mem_append_left _ (List.mem_append_left _ (List.mem_append_left _ (List.mem_append_left _ (List.mem_append_left _ (List.mem_append_left _ (List.mem_append_left _ (List.mem_append_left _ (List.mem_append_left _ (List.mem_append_left _ (List.mem_append_right _ (List.mem_append_right _ (List.mem_append_right _ (List.mem_append_right _ (List.mem_append_right _ (List.mem_append_right _ (List.mem_append_right _ (List.mem_append_right _ (List.mem_append_right _ (List.mem_append_right _ (List.mem_append_right _ (List.mem_append_right _ (List.mem_append_right _ (List.mem_append_right _ (List.mem_append_right _ (List.mem_append_right _ (List.mem_append_right _ (List.mem_append_right _ (List.mem_append_right _ (List.mem_append_right _ (List.mem_append_right _ (List.mem_append_right _ (List.mem_append_right _ (List.mem_append_right _ (List.mem_append_right _ (List.mem_append_right _ (List.mem_append_right _ (List.mem_append_right _ (List.mem_append_left _ h))))))))))))))))))))))))))))))))))))))))))
theorem inR_29 : ∀ w ∈ wsL_law0_r30, w ∈ wsL_law := fun _ h => (List.mem_append_left _ (List.mem_append_left _ (List.mem_append_left _ (List.mem_append_left _ (List.mem_append_left _ (List.mem_append_left _ (List.mem_append_left _ (List.mem_append_left _ (List.mem_append_left _ (List.mem_append_left _ (List.mem_append_left _ (List.mem_append_left _ (List.mem_append_left _ (List.mem_append_right _ (List.mem_append_right _ (List.mem_append_right _ (List.mem_append_right _ (List.mem_append_right _ (List.mem_append_right _ (List.mem_append_right _ (List.mem_append_right _ (List.mem_append_right _ (List.mem_append_right _ (List.mem_append_right _ (List.mem_append_right _ (List.mem_append_right _ (List.mem_append_right _ (List.mem_append_right _ (List.mem_append_right _ (List.mem_append_right _ (List.mem_append_right _ (List.mem_append_right _ (List.mem_append_right _ (List.mem_append_right _ (List.mem_append_right _ (List.mem_append_right _ (List.mem_append_right _ (List.mem_append_right _ (List.mem_append_right _ (List.mem_append_right _ (List.mem_append_right _ (List.mem_append_right _ (List.mem_append_left _ h)))))))))))))))))))))))))))))))))))))))))))
theorem inR_30 : ∀ w ∈ wsL_law0_r31, w ∈ wsL_law := fun _ h => (List.mem_append_left _ (List.mem_append_left _ (List.mem_append_left _ (List.mem_append_left _ (List.mem_append_left _ (List.mem_append_left _ (List.mem_append_left _ (List.mem_append_left _ (List.mem_append_left _ (List.mem_append_left _ (List.mem_append_left _ (List.mem_append_left _ (List.mem_append_left _ (List.mem_append_right _ (List.mem_append_right _ (List.mem_append_right _ (List.mem_append_right _ (List.mem_append_right _ (List.mem_append_right _ (List.mem_append_right _ (List.mem_append_right _ (List.mem_append_right _ (List.mem_append_right _ (List.mem_append_right _ (List.mem_append_right _ (List.mem_append_right _ (List.mem_append_right _ (List.mem_append_right _ (List.mem_append_right _ (List.mem_append_right _ (List.mem_append_right _ (List.mem_append_right _ (List.mem_append_right _ (List.mem_append_right _ (List.mem_append_right _ (List.mem_append_right _ (List.mem_append_right _ (List.mem_append_right _ (List.mem_append_right _ (List.mem_append_right _ (List.mem_append_right _ (List.mem_append_right _ (List.mem_append_right _ (List.mem_append_left _ h))))))))))))))))))))))))))))))))))))))))))))
theorem inR_31 : ∀ w ∈ wsL_law0_r32, w ∈ wsL_law := fun _ h => (List.mem_append_left _ (List.mem_append_left _ (List.mem_append_left _ (List.mem_append_left _ (List.mem_append_left _ (List.mem_append_left _ (List.mem_append_left _ (List.mem_append_left _ (List.mem_append_left _ (List.mem_append_left _ (List.mem_append_left _ (List.mem_append_left _ (List.mem_append_left _ (List.mem_append_right _ (List.mem_append_right _ (List.mem_append_right _ (List.mem_append_right _ (List.mem_append_right _ (List.mem_append_right _ (List.mem_append_right _ (List.mem_append_right _ (List.mem_append_right _ (List.mem_append_right _ (List.mem_append_right _ (List.mem_append_right _ (List.mem_append_right _ (List.mem_append_right _ (List.mem_append_right _ (List.mem_append_right _ (List.mem_append_right _ (List.mem_append_right _ (List.mem_append_right _ (List.mem_append_right _ (List.mem_append_right _ (List.mem_append_right _ (List.mem_append_right _ (List.mem_append_right _ (List.mem_append_right _ (List.mem_append_right _ (List.mem_append_right _ (List.mem_append_right _ (List.mem_append_right _ (List.mem_append_right _ (List.mem_append_right _ (List.mem_append_left _ h)))))))))))))))))))))))))))))))))))))))))))))
theorem inR_32 : ∀ w ∈ wsL_law0_r33, w ∈ wsL_law := fun _ h => (List.mem_append_left _ (List.mem_append_left _ (List.mem_append_left _ (List.mem_append_left _ (List.mem_append_left _ (List.mem_append_left _ (List.mem_append_left _ (List.mem_append_left _ (List.mem_append_left _ (List.mem_append_left _ (List.mem_append_left _ (List.mem_append_left _ (List.mem_append_left _ (List.mem_append_right _ (List.mem_append_right _ (List.mem_append_right _ (List.mem_append_right _ (List.mem_append_right _ (List.mem_append_right _ (List.mem_append_right _ (List.mem_append_right _ (List.mem_append_right _ (List.mem_append_right _ (List.mem_append_right _ (List.mem_append_right _ (List.mem_append_right _ (List.mem_append_right _ (List.mem_append_right _ (List.mem_append_right _ (List.mem_append_right _ (List.mem_append_right _ (List.mem_append_right _ (List.mem_append_right _ (List.mem_append_right _ (List.mem_append_right _ (List.mem_append_right _ (List.mem_append_right _ (List.mem_append_right _ (List.mem_append_right _ (List.mem_append_right _ (List.mem_append_right _ (List.mem_append_right _ (List.mem_append_right _ (List.mem_append_right _ (List.mem_append_right _ (List.mem_append_left _ h))))))))))))))))))))))))))))))))))))))))))))))
theorem inR_33 : ∀ w ∈ wsL_law0_r34, w ∈ wsL_law := fun _ h => (List.mem_append_left _ (List.mem_append_left _ (List.mem_append_left _ (List.mem_append_left _ (List.mem_append_left _ (List.mem_append_left _ (List.mem_append_left _ (List.mem_append_left _ (List.mem_append_left _ (List.mem_append_left _ (List.mem_append_left _ (List.mem_append_left _ (List.mem_append_left _ (List.mem_append_right _ (List.mem_append_right _ (List.mem_append_right _ (List.mem_append_right _ (List.mem_append_right _ (List.mem_append_right _ (List.mem_append_right _ (List.mem_append_right _ (List.mem_append_right _ (List.mem_append_right _ (List.mem_append_right _ (List.mem_append_right _ (List.mem_append_right _ (List.mem_append_right _ (List.mem_append_right _ (List.mem_append_right _ (List.mem_append_right _ (List.mem_append_right _ (List.mem_append_right _ (List.mem_append_right _ (List.mem_append_right _ (List.mem_append_right _ (List.mem_append_right _ (List.mem_append_right _ (List.mem_append_right _ (List.mem_append_right _ (List.mem_append_right _ (List.mem_append_right _ (List.mem_append_right _ (List.mem_append_right _ (List.mem_append_right _ (List.mem_append_right _ (List.mem_append_right _ (List.mem_append_left _ h)))))))))))))))))))))))))))))))))))))))))))))))
theorem inR_34 : ∀ w ∈ wsL_law0_r35, w ∈ wsL_law := fun _ h => (List.mem_append_left _ (List.mem_append_left _ (List.mem_append_left _ (List.mem_append_left _ (List.mem_append_left _ (List.mem_append_left _ (List.mem_append_left _ (List.mem_append_left _ (List.mem_append_left _ (List.mem_append_left _ (List.mem_append_left _ (List.mem_append_left _ (List.mem_append_left _ (List.mem_append_right _ (List.mem_append_right _ (List.mem_append_right _ (List.mem_append_right _ (List.mem_append_right _ (List.mem_append_right _ (List.mem_append_right _ (List.mem_append_right _ (List.mem_append_right _ (List.mem_append_right _ (List.mem_append_right _ (List.mem_append_right _ (List.mem_append_right _ (List.mem_append_right _ (List.mem_append_right _ (List.mem_append_right _ (List.mem_append_right _ (List.mem_append_right _ (List.mem_append_right _ (List.mem_append_right _ (List.mem_append_right _ (List.mem_append_right _ (List.mem_append_right _ (List.mem_append_right _ (List.mem_append_right _ (List.mem_append_right _ (List.mem_append_right _ (List.mem_append_right _ (List.mem_append_right _ (List.mem_append_right _ (List.mem_append_right _ (List.mem_append_right _ (List.mem_append_right _ (List.mem_append_right _ h)))))))))))))))))))))))))))))))))))))))))))))))
theorem inR_35 : ∀ w ∈ wsX50, w ∈ wsL_law := fun _ h => (List.mem_append_left _ (List.mem_append_left _ (List.mem_append_left _ (List.mem_append_left _ (List.mem_append_left _ (List.mem_append_left _ (List.mem_append_left _ (List.mem_append_left _ (List.mem_append_left _ (List.mem_append_left _ (List.mem_append_left _ (List.mem_append_left _ (List.mem_append_right _ h)))))))))))))
theorem inR_36 : ∀ w ∈ wsX60, w ∈ wsL_law := fun _ h => (List.mem_append_left _ (List.mem_append_left _ (List.mem_append_left _ (List.mem_append_left _ (List.mem_append_left _ (List.mem_append_left _ (List.mem_append_left _ (List.mem_append_left _ (List.mem_append_left _ (List.mem_append_left _ (List.mem_append_left _ (List.mem_append_right _ h))))))))))))
theorem inR_37 : ∀ w ∈ wsX40, w ∈ wsL_law := fun _ h => (List.mem_append_left _ (List.mem_append_left _ (List.mem_append_left _ (List.mem_append_left _ (List.mem_append_left _ (List.mem_append_left _ (List.mem_append_left _ (List.mem_append_left _ (List.mem_append_left _ (List.mem_append_left _ (List.mem_append_right _ h)))))))))))
theorem inR_38 : ∀ w ∈ wsX00, w ∈ wsL_law := fun _ h => (List.mem_append_left _ (List.mem_append_left _ (List.mem_append_left _ (List.mem_append_left _ (List.mem_append_left _ (List.mem_append_left _ (List.mem_append_left _ (List.mem_append_left _ (List.mem_append_left _ (List.mem_append_right _ h))))))))))
theorem inR_39 : ∀ w ∈ wsX20, w ∈ wsL_law := fun _ h => (List.mem_append_left _ (List.mem_append_left _ (List.mem_append_left _ (List.mem_append_left _ (List.mem_append_left _ (List.mem_append_left _ (List.mem_append_left _ (List.mem_append_left _ (List.mem_append_right _ h)))))))))
theorem inR_40 : ∀ w ∈ wsX30, w ∈ wsL_law := fun _ h => (List.mem_append_left _ (List.mem_append_left _ (List.mem_append_left _ (List.mem_append_left _ (List.mem_append_left _ (List.mem_append_left _ (List.mem_append_left _ (List.mem_append_right _ h))))))))
theorem inR_41 : ∀ w ∈ wsX10, w ∈ wsL_law := fun _ h => (List.mem_append_left _ (List.mem_append_left _ (List.mem_append_left _ (List.mem_append_left _ (List.mem_append_left _ (List.mem_append_left _ (List.mem_append_right _ h)))))))
def rowsL : List (List Cond) := [wsL_law0_r1, wsL_law0_r2, wsL_law0_r3, wsL_law0_r4, wsL_law0_r5, wsL_law0_r6, wsL_law0_r7, wsL_law0_r8, wsL_law0_r9, wsL_law0_r10, wsL_law0_r11, wsL_law0_r12, wsL_law0_r13, wsL_law0_r14, wsL_law0_r15, wsL_law0_r16, wsL_law0_r17, wsL_law0_r18, wsL_law0_r19, wsL_law0_r20, wsL_law0_r21, wsL_law0_r22, wsL_law0_r23, wsL_law0_r24, wsL_law0_r25, wsL_law0_r26, wsL_law0_r27, wsL_law0_r28, wsL_law0_r29, wsL_law0_r30, wsL_law0_r31, wsL_law0_r32, wsL_law0_r33, wsL_law0_r34, wsL_law0_r35, wsX50, wsX60, wsX40, wsX00, wsX20, wsX30, wsX10]
theorem rowsL_in : ∀ r ∈ rowsL, ∀ w ∈ r, w ∈ wsL_law := List.forall_mem_cons.mpr ⟨inR_0, List.forall_mem_cons.mpr ⟨inR_1, List.forall_mem_cons.mpr ⟨inR_2, List.forall_mem_cons.mpr ⟨inR_3, List.forall_mem_cons.mpr ⟨inR_4, List.forall_mem_cons.mpr ⟨inR_5, List.forall_mem_cons.mpr ⟨inR_6, List.forall_mem_cons.mpr ⟨inR_7, List.forall_mem_cons.mpr ⟨inR_8, List.forall_mem_cons.mpr ⟨inR_9, List.forall_mem_cons.mpr ⟨inR_10, List.forall_mem_cons.mpr ⟨inR_11, List.forall_mem_cons.mpr ⟨inR_12, List.forall_mem_cons.mpr ⟨inR_13, List.forall_mem_cons.mpr ⟨inR_14, List.forall_mem_cons.mpr ⟨inR_15, List.forall_mem_cons.mpr ⟨inR_16, List.forall_mem_cons.mpr ⟨inR_17, List.forall_mem_cons.mpr ⟨inR_18, List.forall_mem_cons.mpr ⟨inR_19, List.forall_mem_cons.mpr ⟨inR_20, List.forall_mem_cons.mpr ⟨inR_21, List.forall_mem_cons.mpr ⟨inR_22, List.forall_mem_cons.mpr ⟨inR_23, List.forall_mem_cons.mpr ⟨inR_24, List.forall_mem_cons.mpr ⟨inR_25, List.forall_mem_cons.mpr ⟨inR_26, List.forall_mem_cons.mpr ⟨inR_27, List.forall_mem_cons.mpr ⟨inR_28, List.forall_mem_cons.mpr ⟨inR_29, List.forall_mem_cons.mpr ⟨inR_30, List.forall_mem_cons.mpr ⟨inR_31, List.forall_mem_cons.mpr ⟨inR_32, List.forall_mem_cons.mpr ⟨inR_33, List.forall_mem_cons.mpr ⟨inR_34, List.forall_mem_cons.mpr ⟨inR_35, List.forall_mem_cons.mpr ⟨inR_36, List.forall_mem_cons.mpr ⟨inR_37, List.forall_mem_cons.mpr ⟨inR_38, List.forall_mem_cons.mpr ⟨inR_39, List.forall_mem_cons.mpr ⟨inR_40, List.forall_mem_cons.mpr ⟨inR_41, fun _ h => nomatch h⟩⟩⟩⟩⟩⟩⟩⟩⟩⟩⟩⟩⟩⟩⟩⟩⟩⟩⟩⟩⟩⟩⟩⟩⟩⟩⟩⟩⟩⟩⟩⟩⟩⟩⟩⟩⟩⟩⟩⟩⟩⟩
theorem inT_0 : ∀ w ∈ wsL_law0_r1, w ∈ lw_tbl := mem_rr rowsT rowsT_in _ [(1, 18), (1, 19), (1, 1), (3, 222), (3, 223), (1, 6), (5, 117), (1, 20), (1, 21), (1, 22), (1, 23), (1, 24), (1, 25), (1, 26), (1, 27), (1, 2), (1, 112), (1, 48), (1, 49), (1, 3), (1, 113), (1, 114), (1, 116), (1, 117)] rfl
theorem inT_1 : ∀ w ∈ wsL_law0_r2, w ∈ lw_tbl := mem_rr rowsT rowsT_in _ [(1, 77), (1, 118), (1, 79), (1, 119), (1, 81), (1, 4), (1, 120), (1, 94), (1, 95), (1, 5), (1, 121), (1, 47), (1, 122), (1, 123), (1, 124), (1, 29), (1, 30), (1, 31), (1, 32), (1, 35), (1, 51), (1, 52), (1, 53), (1, 54)] rfl
theorem inT_2 : ∀ w ∈ wsL_law0_r3, w ∈ lw_tbl := mem_rr rowsT rowsT_in _ [(1, 57), (1, 60), (1, 62), (1, 64), (1, 82), (1, 83), (1, 84), (1, 85), (1, 86), (1, 87), (1, 97), (1, 98), (1, 99), (1, 100), (1, 102), (3, 224), (3, 225), (3, 226), (3, 227), (3, 229), (3, 230), (3, 233), (3, 234), (4, 85)] rfl
theorem inT_3 : ∀ w ∈ wsL_law0_r4, w ∈ lw_tbl := mem_rr rowsT rowsT_in _ [(4, 1), (4, 4), (4, 5), (4, 12), (4, 13), (4, 14), (4, 15), (4, 16), (4, 17), (4, 18), (1, 152), (1, 153), (1, 154), (1, 155), (1, 156), (1, 157), (1, 158), (1, 159), (1, 161), (0, 0), (1, 162), (3, 54), (1, 163), (1, 165)] rfl
theorem inT_4 : ∀ w ∈ wsL_law0_r5, w ∈ lw_tbl := mem_rr rowsT rowsT_in _ [(0, 1), (1, 166), (1, 167), (1, 169), (0, 2), (1, 170), (1, 171), (1, 172), (1, 173), (1, 174), (1, 103), (1, 104), (3, 56), (1, 175), (1, 176), (1, 177), (1, 178), (1, 179), (1, 181), (1, 180), (1, 7), (1, 37), (1, 182), (1, 184)] rfl
theorem inT_5 : ∀ w ∈ wsL_law0_r6, w ∈ lw_tbl := mem_rr rowsT rowsT_in _ [(0, 3), (1, 185), (1, 186), (1, 188), (0, 4), (1, 189), (1, 190), (1, 191), (1, 192), (1, 11), (1, 193), (3, 55), (1, 194), (1, 196), (0, 5), (1, 197), (1, 198), (1, 200), (0, 6), (1, 201), (1, 202), (1, 204), (0, 7), (1, 205)] rfl
theorem inT_6 : ∀ w ∈ wsL_law0_r7, w ∈ lw_tbl := mem_rr rowsT rowsT_in _ [(1, 206), (1, 208), (0, 8), (1, 209), (1, 210), (1, 211), (1, 212), (1, 213), (1, 214), (1, 215), (1, 216), (1, 217), (1, 218), (1, 219), (1, 220), (1, 221), (1, 222), (1, 223), (1, 224), (1, 225), (1, 226), (1, 227), (1, 228), (1, 229)] rfl
theorem inT_7 : ∀ w ∈ wsL_law0_r8, w ∈ lw_tbl := mem_rr rowsT rowsT_in _ [(1, 230), (1, 231), (1, 232), (1, 233), (1, 234), (1, 235), (1, 236), (1, 237), (1, 238), (1, 239), (1, 38), (1, 33), (2, 0), (2, 2), (0, 9), (2, 3), (2, 4), (2, 6), (0, 10), (2, 7), (5, 46), (5, 47), (5, 48), (5, 49)] rfl
theorem inT_8 : ∀ w ∈ wsL_law0_r9, w ∈ lw_tbl := mem_rr rowsT rowsT_in _ [(4, 6), (4, 7), (4, 127), (4, 128), (4, 129), (4, 105), (4, 106), (4, 107), (5, 50), (5, 52), (0, 39), (5, 53), (4, 8), (4, 9), (3, 228), (4, 10), (4, 11), (5, 54), (5, 56), (0, 40), (5, 57), (5, 58), (5, 60), (0, 41)] rfl
theorem inT_9 : ∀ w ∈ wsL_law0_r10, w ∈ lw_tbl := mem_rr rowsT rowsT_in _ [(5, 61), (5, 62), (5, 64), (0, 42), (5, 65), (5, 66), (5, 68), (0, 43), (5, 69), (5, 70), (5, 72), (0, 44), (5, 73), (5, 74), (5, 75), (5, 76), (5, 77), (5, 79), (0, 45), (5, 80), (2, 8), (2, 9), (2, 10), (2, 11)] rfl
theorem inT_10 : ∀ w ∈ wsL_law0_r11, w ∈ lw_tbl := mem_rr rowsT rowsT_in _ [(1, 34), (1, 36), (2, 12), (4, 97), (4, 98), (4, 99), (4, 100), (4, 101), (4, 103), (0, 24), (4, 104), (2, 13), (2, 14), (2, 15), (2, 16), (1, 56), (1, 59), (2, 17), (2, 18), (2, 19), (2, 20), (2, 21), (2, 22), (2, 23)] rfl
theorem inT_11 : ∀ w ∈ wsL_law0_r12, w ∈ lw_tbl := mem_rr rowsT rowsT_in _ [(2, 24), (2, 25), (2, 26), (2, 27), (2, 28), (2, 29), (2, 30), (1, 8), (2, 31), (2, 32), (2, 33), (2, 34), (2, 35), (2, 36), (2, 37), (2, 38), (2, 39), (2, 40), (2, 42), (0, 11), (2, 43), (4, 108), (4, 109), (4, 110)] rfl
theorem inT_12 : ∀ w ∈ wsL_law0_r13, w ∈ lw_tbl := mem_rr rowsT rowsT_in _ [(4, 111), (3, 235), (3, 236), (3, 237), (3, 238), (3, 239), (4, 112), (4, 114), (0, 25), (4, 115), (4, 116), (4, 117), (4, 118), (4, 119), (4, 121), (0, 26), (4, 122), (4, 0), (2, 44), (2, 45), (2, 46), (2, 47), (2, 48), (2, 49)] rfl
theorem inT_13 : ∀ w ∈ wsL_law0_r14, w ∈ lw_tbl := mem_rr rowsT rowsT_in _ [(2, 62), (2, 50), (2, 51), (2, 52), (2, 53), (1, 63), (1, 61), (2, 54), (2, 55), (2, 56), (2, 57), (2, 58), (1, 55), (1, 58), (2, 59), (2, 60), (1, 9), (2, 61), (4, 123), (4, 124), (4, 125), (4, 126), (4, 130), (4, 135)] rfl
theorem inT_14 : ∀ w ∈ wsL_law0_r15, w ∈ lw_tbl := mem_rr rowsT rowsT_in _ [(4, 144), (4, 131), (4, 133), (0, 27), (4, 134), (4, 136), (4, 138), (0, 28), (4, 139), (4, 140), (4, 141), (4, 142), (4, 143), (2, 63), (2, 64), (2, 65), (2, 66), (4, 145), (4, 146), (4, 147), (4, 148), (2, 67), (2, 68), (2, 69)] rfl
theorem inT_15 : ∀ w ∈ wsL_law0_r16, w ∈ lw_tbl := mem_rr rowsT rowsT_in _ [(2, 70), (1, 65), (2, 71), (2, 72), (2, 73), (2, 74), (2, 75), (2, 76), (2, 77), (2, 78), (2, 79), (4, 149), (4, 150), (4, 151), (4, 152), (4, 153), (4, 155), (0, 29), (4, 156), (2, 80), (2, 81), (2, 82), (2, 83), (4, 157)] rfl
theorem inT_16 : ∀ w ∈ wsL_law0_r17, w ∈ lw_tbl := mem_rr rowsT rowsT_in _ [(4, 158), (4, 159), (4, 160), (2, 84), (2, 85), (2, 86), (2, 87), (2, 88), (2, 90), (0, 12), (2, 91), (4, 161), (4, 162), (4, 163), (4, 164), (2, 92), (2, 93), (2, 94), (2, 95), (2, 96), (2, 98), (0, 13), (2, 99), (2, 100)] rfl
theorem inT_17 : ∀ w ∈ wsL_law0_r18, w ∈ lw_tbl := mem_rr rowsT rowsT_in _ [(2, 102), (0, 14), (2, 103), (2, 104), (2, 105), (1, 10), (2, 106), (2, 107), (2, 108), (2, 109), (4, 165), (4, 166), (4, 167), (4, 168), (4, 169), (4, 171), (0, 30), (4, 172), (4, 173), (4, 175), (0, 31), (4, 176), (2, 110), (2, 111)] rfl
theorem inT_18 : ∀ w ∈ wsL_law0_r19, w ∈ lw_tbl := mem_rr rowsT rowsT_in _ [(2, 112), (2, 113), (4, 177), (4, 178), (4, 179), (4, 180), (2, 114), (2, 115), (2, 116), (2, 117), (2, 118), (2, 120), (0, 15), (2, 121), (3, 57), (2, 122), (2, 123), (2, 124), (2, 125), (2, 127), (0, 16), (2, 128), (2, 129), (2, 130)] rfl
theorem inT_19 : ∀ w ∈ wsL_law0_r20, w ∈ lw_tbl := mem_rr rowsT rowsT_in _ [(2, 131), (2, 132), (2, 133), (2, 134), (2, 135), (2, 136), (2, 137), (2, 139), (0, 17), (2, 140), (2, 141), (2, 143), (0, 18), (2, 144), (2, 145), (4, 181), (4, 182), (4, 183), (4, 184), (4, 185), (4, 187), (0, 32), (4, 188), (4, 189)] rfl
theorem inT_20 : ∀ w ∈ wsL_law0_r21, w ∈ lw_tbl := mem_rr rowsT rowsT_in _ [(4, 191), (0, 33), (4, 192), (4, 193), (4, 194), (4, 195), (4, 196), (4, 198), (0, 34), (4, 199), (4, 200), (4, 202), (0, 35), (4, 203), (2, 146), (2, 147), (2, 148), (2, 149), (2, 150), (2, 151), (2, 152), (2, 153), (2, 154), (4, 204)] rfl
theorem inT_21 : ∀ w ∈ wsL_law0_r22, w ∈ lw_tbl := mem_rr rowsT rowsT_in _ [(4, 205), (4, 206), (4, 207), (2, 155), (2, 156), (2, 157), (2, 158), (2, 159), (2, 160), (2, 161), (4, 208), (4, 209), (4, 210), (4, 211), (2, 162), (2, 163), (2, 164), (2, 165), (4, 212), (4, 213), (4, 214), (4, 215), (2, 166), (2, 167)] rfl
theorem inT_22 : ∀ w ∈ wsL_law0_r23, w ∈ lw_tbl := mem_rr rowsT rowsT_in _ [(2, 168), (2, 169), (2, 170), (2, 171), (2, 172), (2, 173), (2, 174), (1, 9), (2, 175), (2, 176), (2, 177), (2, 178), (2, 179), (2, 180), (2, 181), (4, 216), (4, 217), (4, 218), (4, 219), (4, 220), (4, 221), (4, 222), (2, 182), (2, 183)] rfl
theorem inT_23 : ∀ w ∈ wsL_law0_r24, w ∈ lw_tbl := mem_rr rowsT rowsT_in _ [(2, 184), (2, 185), (4, 223), (4, 224), (4, 225), (4, 226), (2, 186), (2, 187), (2, 188), (2, 189), (2, 190), (2, 191), (2, 192), (2, 193), (2, 194), (2, 195), (2, 196), (4, 227), (4, 228), (4, 229), (4, 230), (4, 2), (4, 3), (4, 231)] rfl
theorem inT_24 : ∀ w ∈ wsL_law0_r25, w ∈ lw_tbl := mem_rr rowsT rowsT_in _ [(4, 233), (0, 36), (4, 234), (4, 235), (4, 237), (0, 37), (4, 238), (2, 197), (2, 198), (2, 199), (2, 200), (2, 201), (2, 203), (0, 19), (2, 204), (4, 239), (5, 0), (5, 1), (5, 2), (5, 3), (5, 5), (0, 38), (5, 6), (2, 205)] rfl
theorem inT_25 : ∀ w ∈ wsL_law0_r26, w ∈ lw_tbl := mem_rr rowsT rowsT_in _ [(2, 206), (2, 207), (2, 208), (1, 39), (5, 7), (5, 8), (5, 9), (5, 10), (2, 209), (2, 210), (2, 211), (2, 212), (5, 11), (5, 12), (5, 13), (5, 14), (2, 213), (2, 214), (2, 215), (2, 216), (2, 217), (2, 218), (2, 219), (2, 220)] rfl
theorem inT_26 : ∀ w ∈ wsL_law0_r27, w ∈ lw_tbl := mem_rr rowsT rowsT_in _ [(2, 221), (2, 222), (5, 15), (5, 16), (5, 17), (5, 18), (2, 223), (2, 224), (2, 225), (2, 226), (5, 19), (5, 20), (5, 21), (5, 22), (2, 227), (2, 228), (2, 229), (2, 230), (2, 231), (2, 233), (0, 20), (2, 234), (5, 23), (5, 24)] rfl
theorem inT_27 : ∀ w ∈ wsL_law0_r28, w ∈ lw_tbl := mem_rr rowsT rowsT_in _ [(5, 25), (5, 26), (2, 235), (2, 236), (2, 237), (2, 238), (2, 239), (3, 1), (0, 21), (3, 2), (3, 3), (3, 5), (0, 22), (3, 6), (3, 7), (3, 8), (3, 9), (3, 10), (5, 27), (5, 28), (5, 29), (5, 30), (3, 11), (3, 12)] rfl
theorem inT_28 : ∀ w ∈ wsL_law0_r29, w ∈ lw_tbl := mem_rr rowsT rowsT_in _ [(3, 13), (3, 14), (3, 15), (3, 16), (3, 17), (3, 18), (5, 31), (5, 32), (5, 33), (5, 34), (5, 35), (5, 36), (5, 37), (4, 90), (4, 91), (4, 92), (3, 19), (3, 20), (3, 21), (3, 22), (5, 38), (5, 39), (5, 40), (5, 41)] rfl
theorem inT_29 : ∀ w ∈ wsL_law0_r30, w ∈ lw_tbl := mem_rr rowsT rowsT_in _ [(3, 23), (3, 24), (3, 25), (3, 26), (1, 115), (3, 27), (4, 86), (4, 87), (4, 88), (4, 89), (3, 231), (3, 232), (3, 28), (3, 29), (3, 30), (3, 31), (4, 93), (4, 94), (4, 95), (4, 96), (3, 32), (3, 33), (3, 34), (3, 35)] rfl
theorem inT_30 : ∀ w ∈ wsL_law0_r31, w ∈ lw_tbl := mem_rr rowsT rowsT_in _ [(3, 36), (3, 37), (3, 38), (3, 39), (5, 42), (5, 43), (5, 44), (5, 45), (3, 40), (3, 41), (3, 42), (3, 43), (5, 81), (5, 82), (5, 83), (5, 84), (3, 44), (3, 45), (3, 46), (3, 47), (3, 48), (3, 49), (3, 50), (3, 51)] rfl
theorem inT_31 : ∀ w ∈ wsL_law0_r32, w ∈ lw_tbl := mem_rr rowsT rowsT_in _ [(3, 52), (3, 53), (5, 85), (5, 86), (5, 87), (5, 88), (3, 63), (3, 64), (3, 65), (3, 66), (3, 67), (3, 68), (3, 69), (3, 70), (3, 71), (5, 89), (5, 90), (5, 91), (5, 92), (3, 194), (3, 195), (1, 0), (3, 196), (3, 197)] rfl
theorem inT_32 : ∀ w ∈ wsL_law0_r33, w ∈ lw_tbl := mem_rr rowsT rowsT_in _ [(3, 198), (3, 199), (3, 200), (3, 201), (3, 202), (3, 94), (1, 15), (3, 95), (1, 16), (5, 93), (5, 94), (5, 95), (5, 96), (4, 19), (5, 97), (5, 98), (5, 99), (5, 100), (3, 72), (3, 73), (3, 74), (3, 75), (3, 80), (3, 76)] rfl
theorem inT_33 : ∀ w ∈ wsL_law0_r34, w ∈ lw_tbl := mem_rr rowsT rowsT_in _ [(3, 77), (3, 78), (3, 79), (5, 101), (5, 102), (5, 103), (5, 104), (3, 81), (3, 82), (3, 83), (3, 84), (3, 85), (3, 86), (3, 87), (3, 88), (5, 105), (5, 106), (5, 107), (5, 108), (5, 109), (5, 111), (0, 46), (5, 112), (3, 89)] rfl
theorem inT_34 : ∀ w ∈ wsL_law0_r35, w ∈ lw_tbl := mem_rr rowsT rowsT_in _ [(3, 90), (3, 91), (3, 92), (3, 93), (1, 88), (3, 96), (3, 97), (3, 98), (3, 99), (3, 100), (1, 17), (3, 164), (3, 179), (5, 113), (5, 114), (5, 115), (5, 116)] rfl
theorem inT_35 : ∀ w ∈ wsX50, w ∈ lw_tbl := mem_rr rowsT rowsT_in _ [(1, 125), (1, 127), (1, 129), (1, 131), (1, 133), (1, 135), (1, 137), (1, 139), (1, 141), (1, 143), (1, 145), (1, 147), (1, 149)] rfl
theorem inT_36 : ∀ w ∈ wsX60, w ∈ lw_tbl := mem_rr rowsT rowsT_in _ [(4, 20), (4, 22), (4, 24), (4, 26), (4, 28), (4, 30), (4, 32), (4, 34), (4, 36), (4, 38), (4, 40), (4, 42), (4, 44), (4, 46), (4, 48), (4, 50), (4, 52), (4, 54), (4, 56), (4, 58), (4, 60), (4, 62), (4, 64), (4, 66), (4, 68), (4, 70), (4, 72), (4, 74), (4, 76), (4, 78), (4, 80), (4, 82)] rfl
theorem inT_37 : ∀ w ∈ wsX40, w ∈ lw_tbl := mem_rr rowsT rowsT_in _ [(1, 40), (1, 42), (1, 44)] rfl
theorem inT_38 : ∀ w ∈ wsX00, w ∈ lw_tbl := mem_rr rowsT rowsT_in _ [(1, 66), (1, 68), (1, 70), (1, 72), (1, 74)] rfl
theorem inT_39 : ∀ w ∈ wsX20, w ∈ lw_tbl := mem_rr rowsT rowsT_in _ [(1, 89), (1, 91)] rfl
theorem inT_40 : ∀ w ∈ wsX30, w ∈ lw_tbl := mem_rr rowsT rowsT_in _ [(1, 105), (1, 107), (1, 109)] rfl
theorem inT_41 : ∀ w ∈ wsX10, w ∈ lw_tbl := mem_rr rowsT rowsT_in _ [(3, 58), (3, 60)] rfl
theorem wsL_law_in0 : ∀ w ∈ wsL_law0, w ∈ lw_tbl := List.forall_mem_append.mpr ⟨List.forall_mem_append.mpr ⟨List.forall_mem_append.mpr ⟨List.forall_mem_append.mpr ⟨List.forall_mem_append.mpr ⟨List.forall_mem_append.mpr ⟨List.forall_mem_append.mpr ⟨List.forall_mem_append.mpr ⟨List.forall_mem_append.mpr ⟨inT_0, List.forall_mem_append.mpr ⟨inT_1, List.forall_mem_append.mpr ⟨inT_2, List.forall_mem_append.mpr ⟨inT_3, List.forall_mem_append.mpr ⟨inT_4, List.forall_mem_append.mpr ⟨inT_5, List.forall_mem_append.mpr ⟨inT_6, List.forall_mem_append.mpr ⟨inT_7, List.forall_mem_append.mpr ⟨inT_8, List.forall_mem_append.mpr ⟨inT_9, List.forall_mem_append.mpr ⟨inT_10, List.forall_mem_append.mpr ⟨inT_11, List.forall_mem_append.mpr ⟨inT_12, List.forall_mem_append.mpr ⟨inT_13, List.forall_mem_append.mpr ⟨inT_14, List.forall_mem_append.mpr ⟨inT_15, List.forall_mem_append.mpr ⟨inT_16, List.forall_mem_append.mpr ⟨inT_17, List.forall_mem_append.mpr ⟨inT_18, List.forall_mem_append.mpr ⟨inT_19, List.forall_mem_append.mpr ⟨inT_20, List.forall_mem_append.mpr ⟨inT_21, List.forall_mem_append.mpr ⟨inT_22, List.forall_mem_append.mpr ⟨inT_23, List.forall_mem_append.mpr ⟨inT_24, List.forall_mem_append.mpr ⟨inT_25, List.forall_mem_append.mpr ⟨inT_26, List.forall_mem_append.mpr ⟨inT_27, List.forall_mem_append.mpr ⟨inT_28, List.forall_mem_append.mpr ⟨inT_29, List.forall_mem_append.mpr ⟨inT_30, List.forall_mem_append.mpr ⟨inT_31, List.forall_mem_append.mpr ⟨inT_32, List.forall_mem_append.mpr ⟨inT_33, inT_34⟩⟩⟩⟩⟩⟩⟩⟩⟩⟩⟩⟩⟩⟩⟩⟩⟩⟩⟩⟩⟩⟩⟩⟩⟩⟩⟩⟩⟩⟩⟩⟩⟩⟩, inT_35⟩, inT_36⟩, inT_37⟩, inT_38⟩, inT_39⟩, inT_40⟩, inT_41⟩, fun _ h => nomatch h⟩
theorem wsL_law_x0 : ∀ w ∈ (vx_atS RX5 237 "java/lang/IllegalArgumentException" ["java/lang/RuntimeException", "java/lang/Exception"]).filter goodWord, w ∈ lw_tbl := mem_rr rowsT rowsT_in _ [(1, 12), (3, 122), (3, 131), (3, 135), (3, 138), (3, 140), (3, 123), (3, 124), (1, 24), (1, 25), (3, 125), (3, 130), (3, 136), (3, 153), (3, 112), (3, 154), (3, 114), (3, 155), (3, 116), (3, 126), (3, 128), (3, 118), (3, 214), (3, 215), (3, 152), (3, 118), (3, 205), (3, 206), (3, 207), (3, 208), (3, 208), (3, 209), (3, 210), (3, 211), (3, 211), (3, 212), (3, 213), (3, 214), (3, 204), (3, 165), (3, 167), (3, 133), (3, 168), (3, 169), (3, 170), (3, 171), (3, 121), (3, 120), (3, 172)] rfl
theorem wsL_law_x1 : ∀ w ∈ (vx_atS RX5 244 "java/lang/IllegalStateException" ["java/lang/RuntimeException", "java/lang/Exception"]).filter goodWord, w ∈ lw_tbl := mem_rr rowsT rowsT_in _ [(1, 12), (3, 122), (3, 131), (3, 135), (3, 138), (3, 140), (3, 123), (3, 124), (1, 24), (1, 25), (3, 125), (3, 130), (3, 136), (3, 153), (3, 112), (3, 154), (3, 114), (3, 155), (3, 116), (3, 126), (3, 128), (3, 118), (3, 214), (3, 215), (3, 152), (3, 118), (3, 218), (3, 219), (3, 220), (3, 208), (3, 208), (3, 209), (3, 210), (3, 211), (3, 211), (3, 212), (3, 213), (3, 214), (3, 217), (3, 180), (3, 182), (3, 134), (3, 183), (3, 184), (3, 185), (3, 186), (3, 121), (3, 120), (3, 187)] rfl
theorem wsL_law_x2 : ∀ w ∈ (vx_at0 RX2 54 "java/lang/UnsupportedOperationException" ["java/lang/RuntimeException", "java/lang/Exception"]).filter goodWord, w ∈ lw_tbl := mem_rr rowsT rowsT_in _ [(1, 12), (3, 122), (3, 131), (3, 135), (3, 138), (3, 140), (3, 123), (3, 124), (1, 24), (1, 25), (3, 125), (3, 130), (3, 136), (3, 153), (3, 112), (3, 154), (3, 114), (3, 155), (3, 116), (3, 126), (3, 128), (3, 118), (3, 142), (3, 143), (3, 144), (3, 145), (3, 145), (3, 146), (3, 147), (3, 148), (3, 148), (3, 149), (3, 150), (3, 123), (3, 141), (3, 101), (3, 109), (3, 110), (3, 111), (3, 113), (3, 115), (3, 117), (3, 121), (3, 120), (3, 119)] rfl
theorem wsL_law_x3 : ∀ w ∈ (vx_at0 RX2 57 "java/lang/IllegalArgumentException" ["java/lang/RuntimeException", "java/lang/Exception"]).filter goodWord, w ∈ lw_tbl := mem_rr rowsT rowsT_in _ [(1, 12), (3, 122), (3, 131), (3, 135), (3, 138), (3, 140), (3, 123), (3, 124), (1, 24), (1, 25), (3, 125), (3, 130), (3, 136), (3, 153), (3, 112), (3, 154), (3, 114), (3, 155), (3, 116), (3, 126), (3, 128), (3, 118), (3, 174), (3, 175), (3, 176), (3, 145), (3, 145), (3, 146), (3, 147), (3, 148), (3, 148), (3, 149), (3, 150), (3, 123), (3, 173), (3, 165), (3, 167), (3, 133), (3, 168), (3, 169), (3, 170), (3, 171), (3, 121), (3, 120), (3, 172)] rfl
theorem wsL_law_x4 : ∀ w ∈ (vx_at0 RX2 60 "java/lang/IllegalStateException" ["java/lang/RuntimeException", "java/lang/Exception"]).filter goodWord, w ∈ lw_tbl := mem_rr rowsT rowsT_in _ [(1, 12), (3, 122), (3, 131), (3, 135), (3, 138), (3, 140), (3, 123), (3, 124), (1, 24), (1, 25), (3, 125), (3, 130), (3, 136), (3, 153), (3, 112), (3, 154), (3, 114), (3, 155), (3, 116), (3, 126), (3, 128), (3, 118), (3, 189), (3, 190), (3, 191), (3, 145), (3, 145), (3, 146), (3, 147), (3, 148), (3, 148), (3, 149), (3, 150), (3, 123), (3, 188), (3, 180), (3, 182), (3, 134), (3, 183), (3, 184), (3, 185), (3, 186), (3, 121), (3, 120), (3, 187)] rfl
theorem wsL_law_in : ∀ w ∈ wsL_law, w ∈ lw_tbl := fun w h => (List.mem_append.mp h).elim (fun h => (List.mem_append.mp h).elim (fun h => (List.mem_append.mp h).elim (fun h => (List.mem_append.mp h).elim (fun h => (List.mem_append.mp h).elim (fun h => wsL_law_in0 w h) (fun h => wsL_law_x0 w h)) (fun h => wsL_law_x1 w h)) (fun h => wsL_law_x2 w h)) (fun h => wsL_law_x3 w h)) (fun h => wsL_law_x4 w h)
theorem inlX0 : ∀ w ∈ wsX00, w ∈ wsL_law := fun _ h => List.mem_append_left _ (List.mem_append_left _ (List.mem_append_left _ (List.mem_append_left _ (List.mem_append_left _ (List.mem_append_left _ (List.mem_append_left _ (List.mem_append_left _ (List.mem_append_left _ (List.mem_append_right _ h)))))))))
theorem inX0 : ∀ w ∈ wsX00, w ∈ lw_tbl := fun w h => wsL_law_in w (inlX0 w h)
theorem inlX1 : ∀ w ∈ wsX10, w ∈ wsL_law := fun _ h => List.mem_append_left _ (List.mem_append_left _ (List.mem_append_left _ (List.mem_append_left _ (List.mem_append_left _ (List.mem_append_left _ (List.mem_append_right _ h))))))
theorem inX1 : ∀ w ∈ wsX10, w ∈ lw_tbl := fun w h => wsL_law_in w (inlX1 w h)
theorem inlX2 : ∀ w ∈ wsX20, w ∈ wsL_law := fun _ h => List.mem_append_left _ (List.mem_append_left _ (List.mem_append_left _ (List.mem_append_left _ (List.mem_append_left _ (List.mem_append_left _ (List.mem_append_left _ (List.mem_append_left _ (List.mem_append_right _ h))))))))
theorem inX2 : ∀ w ∈ wsX20, w ∈ lw_tbl := fun w h => wsL_law_in w (inlX2 w h)
theorem inlX3 : ∀ w ∈ wsX30, w ∈ wsL_law := fun _ h => List.mem_append_left _ (List.mem_append_left _ (List.mem_append_left _ (List.mem_append_left _ (List.mem_append_left _ (List.mem_append_left _ (List.mem_append_left _ (List.mem_append_right _ h)))))))
theorem inX3 : ∀ w ∈ wsX30, w ∈ lw_tbl := fun w h => wsL_law_in w (inlX3 w h)
theorem inlX4 : ∀ w ∈ wsX40, w ∈ wsL_law := fun _ h => List.mem_append_left _ (List.mem_append_left _ (List.mem_append_left _ (List.mem_append_left _ (List.mem_append_left _ (List.mem_append_left _ (List.mem_append_left _ (List.mem_append_left _ (List.mem_append_left _ (List.mem_append_left _ (List.mem_append_right _ h))))))))))
theorem inX4 : ∀ w ∈ wsX40, w ∈ lw_tbl := fun w h => wsL_law_in w (inlX4 w h)
theorem inlX5 : ∀ w ∈ wsX50, w ∈ wsL_law := fun _ h => List.mem_append_left _ (List.mem_append_left _ (List.mem_append_left _ (List.mem_append_left _ (List.mem_append_left _ (List.mem_append_left _ (List.mem_append_left _ (List.mem_append_left _ (List.mem_append_left _ (List.mem_append_left _ (List.mem_append_left _ (List.mem_append_left _ (List.mem_append_right _ h))))))))))))
theorem inX5 : ∀ w ∈ wsX50, w ∈ lw_tbl := fun w h => wsL_law_in w (inlX5 w h)
theorem inlX6 : ∀ w ∈ wsX60, w ∈ wsL_law := fun _ h => List.mem_append_left _ (List.mem_append_left _ (List.mem_append_left _ (List.mem_append_left _ (List.mem_append_left _ (List.mem_append_left _ (List.mem_append_left _ (List.mem_append_left _ (List.mem_append_left _ (List.mem_append_left _ (List.mem_append_left _ (List.mem_append_right _ h)))))))))))
theorem inX6 : ∀ w ∈ wsX60, w ∈ lw_tbl := fun w h => wsL_law_in w (inlX6 w h)
theorem inJx145de : ∀ w ∈ wsJx145de0, w ∈ lw_tbl := by decide +kernel
theorem inJ6 : ∀ w ∈ wsJ60, w ∈ lw_tbl := by decide +kernel
theorem inJ9 : ∀ w ∈ wsJ90, w ∈ lw_tbl := by decide +kernel
theorem inJ0 : ∀ w ∈ wsJ00, w ∈ lw_tbl := by decide +kernel
theorem inJ10 : ∀ w ∈ wsJ100, w ∈ lw_tbl := by decide +kernel
theorem inJ7 : ∀ w ∈ wsJ70, w ∈ lw_tbl := by decide +kernel
set_option maxRecDepth 20000 in
theorem ggX5_element_X5_isShelf : GoodIn wsX5_element wsX5_isShelf := goodIn_r _ [10] (by decide +kernel) (by decide +kernel)
set_option maxRecDepth 20000 in
theorem gX5_element_X5_isShelf : GoodIn wsX5_element (va_wsS RX5 68 yX5_isShelf wsX5_isShelf) := goodIn_app (goodIn_of _ (by decide +kernel)) ggX5_element_X5_isShelf
set_option maxRecDepth 20000 in
theorem ggX5_element_X1_isPlace : GoodIn wsX5_element wsX1_isPlace := goodIn_r _ [15, 16, 30, 31] (by decide +kernel) (by decide +kernel)
set_option maxRecDepth 20000 in
theorem gX5_element_X1_isPlace : GoodIn wsX5_element (wsV RX5 227 RX1 yX1_isPlace wsX1_isPlace) := goodIn_app (goodIn_of _ (by decide +kernel)) ggX5_element_X1_isPlace
set_option maxRecDepth 20000 in
theorem ggX5_toss_X5_isShelf : GoodIn wsX5_toss wsX5_isShelf := goodIn_r _ [9] (by decide +kernel) (by decide +kernel)
set_option maxRecDepth 20000 in
theorem gX5_toss_X5_isShelf : GoodIn wsX5_toss (va_wsS RX5 68 yX5_isShelf wsX5_isShelf) := goodIn_app (goodIn_of _ (by decide +kernel)) ggX5_toss_X5_isShelf
set_option maxRecDepth 20000 in
theorem ggX5_toss_X5_notHeld : GoodIn wsX5_toss wsX5_notHeld := goodIn_r _ [13, 14, 15, 16, 8, 17, 4, 18, 36, 37, 38, 39, 40, 41, 42, 43, 44, 45, 46, 47, 48] (by decide +kernel) (by decide +kernel)
set_option maxRecDepth 20000 in
theorem gX5_toss_X5_notHeld : GoodIn wsX5_toss (wsV RX5 76 RX5 yX5_notHeld wsX5_notHeld) := goodIn_app (goodIn_of _ (by decide +kernel)) ggX5_toss_X5_notHeld
set_option maxRecDepth 20000 in
theorem ggX5_toss_X2_fail : GoodIn wsX5_toss wsX2_fail := goodIn_ca (goodIn_ca (goodIn_ca (goodIn_r _ [23, 24, 25, 26, 27, 28, 29, 30, 31, 49, 50] (by decide +kernel) (by decide +kernel)) (goodIn_sub (fun _ h => List.mem_cons_of_mem _ (List.mem_append_left _ (List.mem_append_left _ (List.mem_append_right _ h)))) (by decide +kernel))) (goodIn_sub (fun _ h => List.mem_cons_of_mem _ (List.mem_append_left _ (List.mem_append_right _ h))) (by decide +kernel))) (goodIn_sub (fun _ h => List.mem_cons_of_mem _ (List.mem_append_right _ h)) (by decide +kernel))
set_option maxRecDepth 20000 in
theorem gX5_toss_X2_fail : GoodIn wsX5_toss (wsV RX5 263 RX2 yX2_fail wsX2_fail) := goodIn_app (goodIn_of _ (by decide +kernel)) ggX5_toss_X2_fail
set_option maxRecDepth 20000 in
theorem ggX5_toss_X2_price : GoodIn wsX5_toss wsX2_price := goodIn_r _ [35, 31, 30, 49, 50] (by decide +kernel) (by decide +kernel)
set_option maxRecDepth 20000 in
theorem gX5_toss_X2_price : GoodIn wsX5_toss (wsV RX5 260 RX2 yX2_price wsX2_price) := goodIn_app (goodIn_of _ (by decide +kernel)) ggX5_toss_X2_price
set_option maxRecDepth 20000 in
theorem ggL_element_X5_element : GoodIn wsL_element wsX5_element := goodIn_ca (goodIn_ca (goodIn_r _ [7, 8, 9, 10, 11, 12, 13, 14, 15, 6, 16, 17, 18, 19, 20, 21, 22, 23, 24, 25, 26, 27, 28, 29, 30, 31, 32, 33, 34, 35, 36, 37] (by decide +kernel) (by decide +kernel)) (goodIn_sub (fun _ h => List.mem_cons_of_mem _ (List.mem_append_left _ (List.mem_append_right _ h))) (by decide +kernel))) (goodIn_sub (fun _ h => List.mem_cons_of_mem _ (List.mem_append_right _ h)) (by decide +kernel))
set_option maxRecDepth 20000 in
theorem gL_element_X5_element : GoodIn wsL_element (wsV RL 7 RX5 yX5_element wsX5_element) := goodIn_app (goodIn_of _ (by decide +kernel)) ggL_element_X5_element
theorem dL_element_0 : decode cL_element 0 = .ok (.aload_n 3, 1) := by decide +kernel
theorem dL_element_1 : decode cL_element 1 = .ok (.iconst 0, 1) := by decide +kernel
theorem dL_element_2 : decode cL_element 2 = .ok (.aload_n 0, 1) := by decide +kernel
theorem dL_element_3 : decode cL_element 3 = .ok (.iload_n 1, 1) := by decide +kernel
theorem dL_element_4 : decode cL_element 4 = .ok (.iload_n 2, 1) := by decide +kernel
theorem dL_element_5 : decode cL_element 5 = .ok (.invokevirtual 7, 3) := by decide +kernel
theorem dL_element_8 : decode cL_element 8 = .ok (.lastore, 1) := by decide +kernel
theorem dL_element_9 : decode cL_element 9 = .ok (.goto 11, 3) := by decide +kernel
theorem dL_element_12 : decode cL_element 12 = .ok (.astore 4, 2) := by decide +kernel
theorem dL_element_14 : decode cL_element 14 = .ok (.iconst 1, 1) := by decide +kernel
theorem dL_element_15 : decode cL_element 15 = .ok (.ireturn, 1) := by decide +kernel
theorem dL_element_16 : decode cL_element 16 = .ok (.astore 4, 2) := by decide +kernel
theorem dL_element_18 : decode cL_element 18 = .ok (.iconst 2, 1) := by decide +kernel
theorem dL_element_19 : decode cL_element 19 = .ok (.ireturn, 1) := by decide +kernel
theorem dL_element_20 : decode cL_element 20 = .ok (.iconst 0, 1) := by decide +kernel
theorem dL_element_21 : decode cL_element 21 = .ok (.ireturn, 1) := by decide +kernel
set_option maxRecDepth 20000 in
theorem ggL_law_X5_init : GoodIn wsL_law wsX5_init := goodIn_rr rowsL rowsL_in _ [(0, 9), (0, 10), (0, 11), (0, 12), (0, 13), (0, 14), (0, 15), (0, 16), (0, 17), (0, 18), (0, 19), (0, 20), (0, 21), (0, 22), (0, 23), (1, 0), (1, 1), (1, 2), (1, 3), (1, 4), (1, 5), (1, 6), (1, 7), (1, 8), (1, 9), (1, 10), (1, 11), (1, 12), (1, 13), (1, 14), (1, 15), (1, 16), (1, 17), (1, 18), (1, 19), (1, 20), (1, 21), (1, 22), (1, 23), (2, 0), (2, 1), (2, 2), (2, 3), (2, 4), (2, 5), (2, 6), (2, 7), (2, 8), (2, 9), (2, 10), (2, 11), (2, 12), (2, 13), (2, 14), (37, 0), (37, 1), (37, 2), (35, 0), (35, 1), (35, 2), (35, 3), (35, 4), (35, 5), (35, 6), (35, 7), (35, 8), (35, 9), (35, 10), (35, 11), (35, 12), (38, 0), (38, 1), (38, 2), (38, 3), (38, 4), (39, 0), (39, 1), (40, 0), (40, 1), (40, 2)] rfl (by decide +kernel)
set_option maxRecDepth 20000 in
theorem gL_law_X5_init : GoodIn wsL_law (wsX5_init) := ggL_law_X5_init
set_option maxRecDepth 20000 in
theorem ggL_law_X6_init : GoodIn wsL_law wsX6_init := goodIn_rr rowsL rowsL_in _ [(2, 17), (2, 18), (0, 11), (0, 12), (1, 11), (2, 19), (2, 20), (2, 21), (2, 22), (2, 23), (3, 0), (3, 1), (3, 2), (3, 3), (3, 4), (3, 5), (3, 6), (3, 7), (3, 8), (3, 9), (36, 0), (36, 1), (36, 2), (36, 3), (36, 4), (36, 5), (36, 6), (36, 7), (36, 8), (36, 9), (36, 10), (36, 11), (36, 12), (36, 13), (36, 14), (36, 15), (36, 16), (36, 17), (36, 18), (36, 19), (36, 20), (36, 21), (36, 22), (36, 23), (36, 24), (36, 25), (36, 26), (36, 27), (36, 28), (36, 29), (36, 30), (36, 31)] rfl (by decide +kernel)
set_option maxRecDepth 20000 in
theorem gL_law_X6_init : GoodIn wsL_law (wsX6_init) := ggL_law_X6_init
set_option maxRecDepth 20000 in
theorem ggL_law_X5_shop : GoodIn wsL_law wsX5_shop := goodIn_rr rowsL rowsL_in _ [(3, 13), (1, 10), (0, 16), (0, 20), (3, 14), (3, 15), (0, 2), (3, 16), (3, 17), (3, 18), (3, 19), (3, 20), (1, 3), (3, 21), (3, 22), (3, 23), (4, 0), (4, 1), (4, 2), (4, 3), (4, 4), (4, 5), (1, 1), (4, 6), (4, 7), (4, 8), (1, 9), (4, 9), (2, 14), (4, 10), (4, 11), (4, 12), (4, 13), (4, 14), (4, 15), (0, 15), (4, 16), (1, 18), (4, 17), (4, 18), (4, 19), (4, 20), (1, 19), (4, 21), (4, 22), (4, 23), (5, 0), (5, 1), (5, 2), (5, 3), (5, 4), (5, 5), (5, 6), (5, 7), (5, 8), (5, 9), (5, 10), (5, 11), (5, 12), (5, 13), (5, 14), (5, 15), (5, 16), (5, 17), (5, 18), (5, 19), (5, 20), (5, 21), (5, 22), (5, 23), (6, 0), (6, 1), (6, 2), (6, 3), (6, 4), (6, 5), (6, 6), (6, 7), (6, 8), (6, 9), (6, 10), (6, 11), (6, 12), (6, 13), (6, 14), (6, 15), (6, 16), (6, 17), (6, 18), (6, 19), (6, 20), (6, 21), (6, 22), (6, 23), (7, 0), (7, 1), (7, 2), (7, 3), (7, 4), (7, 5), (7, 6), (7, 7), (7, 8), (0, 19), (7, 9), (2, 3), (7, 10), (7, 11), (7, 12), (7, 13), (7, 14), (7, 15), (1, 23), (2, 0), (2, 1), (2, 2), (7, 16), (7, 17), (7, 18), (7, 19), (35, 0), (35, 1), (35, 2), (35, 3), (35, 4), (35, 5), (35, 6), (35, 7), (35, 8), (35, 9), (35, 10), (35, 11), (35, 12), (41, 0), (41, 1), (40, 0), (40, 1), (40, 2), (37, 0), (37, 1), (37, 2), (38, 0), (38, 1), (38, 2), (38, 3), (38, 4)] rfl (by decide +kernel)
set_option maxRecDepth 20000 in
theorem gL_law_X5_shop : GoodIn wsL_law (wsV RL 21 RX5 yX5_shop wsX5_shop) := goodIn_app (goodIn_of _ (by decide +kernel)) ggL_law_X5_shop
set_option maxRecDepth 20000 in
theorem ggL_law_X6_shop : GoodIn wsL_law wsX6_shop := goodIn_rr rowsL rowsL_in _ [(7, 23), (3, 3), (3, 6), (8, 0), (3, 7), (8, 1), (8, 2), (8, 3), (0, 5), (8, 4), (8, 5), (8, 6), (8, 7), (8, 8), (8, 9), (8, 10), (8, 11), (8, 12), (8, 13), (8, 14), (8, 15), (8, 16), (8, 17), (8, 18), (8, 19), (8, 20), (3, 8), (8, 21), (8, 22), (8, 23), (9, 0), (9, 1), (9, 2), (9, 3), (9, 4), (9, 5), (9, 6), (9, 7), (9, 8), (9, 9), (9, 10), (9, 11), (9, 12), (9, 13), (9, 14), (9, 15), (9, 16), (9, 17), (9, 18), (9, 19), (2, 19), (2, 20), (36, 0), (36, 1), (36, 2), (36, 3), (36, 4), (36, 5), (36, 6), (36, 7), (36, 8), (36, 9), (36, 10), (36, 11), (36, 12), (36, 13), (36, 14), (36, 15), (36, 16), (36, 17), (36, 18), (36, 19), (36, 20), (36, 21), (36, 22), (36, 23), (36, 24), (36, 25), (36, 26), (36, 27), (36, 28), (36, 29), (36, 30), (36, 31)] rfl (by decide +kernel)
set_option maxRecDepth 20000 in
theorem gL_law_X6_shop : GoodIn wsL_law (wsV RL 25 RX6 yX6_shop wsX6_shop) := goodIn_app (goodIn_of _ (by decide +kernel)) ggL_law_X6_shop
set_option maxRecDepth 20000 in
theorem ggL_law_X5_stone : GoodIn wsL_law wsX5_stone := goodIn_rr rowsL rowsL_in _ [(9, 23), (0, 16), (10, 0), (10, 1), (10, 2), (6, 19), (6, 20), (0, 15), (6, 21), (4, 21), (35, 0), (35, 1), (35, 2), (35, 3), (35, 4), (35, 5), (35, 6), (35, 7), (35, 8), (35, 9), (35, 10), (35, 11), (35, 12), (37, 0), (37, 1), (37, 2)] rfl (by decide +kernel)
set_option maxRecDepth 20000 in
theorem gL_law_X5_stone : GoodIn wsL_law (wsV RL 26 RX5 yX5_stone wsX5_stone) := goodIn_app (goodIn_of _ (by decide +kernel)) ggL_law_X5_stone
set_option maxRecDepth 20000 in
theorem ggL_law_X6_stone : GoodIn wsL_law wsX6_stone := goodIn_rr rowsL rowsL_in _ [(10, 6), (2, 19), (2, 20), (10, 7), (10, 8), (10, 9), (0, 5), (10, 10), (8, 14), (8, 5), (8, 6), (8, 7), (36, 0), (36, 1), (36, 2), (36, 3), (36, 4), (36, 5), (36, 6), (36, 7), (36, 8), (36, 9), (36, 10), (36, 11), (36, 12), (36, 13), (36, 14), (36, 15), (36, 16), (36, 17), (36, 18), (36, 19), (36, 20), (36, 21), (36, 22), (36, 23), (36, 24), (36, 25), (36, 26), (36, 27), (36, 28), (36, 29), (36, 30), (36, 31)] rfl (by decide +kernel)
set_option maxRecDepth 20000 in
theorem gL_law_X6_stone : GoodIn wsL_law (wsV RL 30 RX6 yX6_stone wsX6_stone) := goodIn_app (goodIn_of _ (by decide +kernel)) ggL_law_X6_stone
set_option maxRecDepth 20000 in
theorem ggL_law_X5_lying : GoodIn wsL_law wsX5_lying := goodIn_rr rowsL rowsL_in _ [(10, 14), (0, 20), (10, 15), (10, 16), (0, 16), (10, 17), (10, 18), (10, 19), (0, 19), (10, 20), (2, 3), (10, 21), (10, 22), (10, 23), (11, 0), (11, 1), (11, 2), (11, 3), (11, 4), (2, 1), (2, 2), (11, 5), (11, 6), (11, 7), (11, 8), (11, 9), (11, 10), (11, 11), (11, 12), (11, 13), (11, 14), (11, 15), (0, 15), (11, 16), (1, 19), (11, 17), (11, 18), (11, 19), (11, 20), (4, 21), (35, 0), (35, 1), (35, 2), (35, 3), (35, 4), (35, 5), (35, 6), (35, 7), (35, 8), (35, 9), (35, 10), (35, 11), (35, 12), (38, 0), (38, 1), (38, 2), (38, 3), (38, 4), (37, 0), (37, 1), (37, 2)] rfl (by decide +kernel)
set_option maxRecDepth 20000 in
theorem gL_law_X5_lying : GoodIn wsL_law (wsV RL 31 RX5 yX5_lying wsX5_lying) := goodIn_app (goodIn_of _ (by decide +kernel)) ggL_law_X5_lying
set_option maxRecDepth 20000 in
theorem ggL_law_X6_lying : GoodIn wsL_law wsX6_lying := goodIn_rr rowsL rowsL_in _ [(12, 0), (12, 1), (12, 2), (12, 3), (12, 4), (12, 5), (12, 6), (12, 7), (12, 8), (0, 5), (12, 9), (8, 14), (12, 10), (12, 11), (12, 12), (8, 5), (8, 6), (8, 7), (12, 13), (12, 14), (12, 15), (12, 16), (12, 17), (2, 19), (2, 20), (36, 0), (36, 1), (36, 2), (36, 3), (36, 4), (36, 5), (36, 6), (36, 7), (36, 8), (36, 9), (36, 10), (36, 11), (36, 12), (36, 13), (36, 14), (36, 15), (36, 16), (36, 17), (36, 18), (36, 19), (36, 20), (36, 21), (36, 22), (36, 23), (36, 24), (36, 25), (36, 26), (36, 27), (36, 28), (36, 29), (36, 30), (36, 31)] rfl (by decide +kernel)
set_option maxRecDepth 20000 in
theorem gL_law_X6_lying : GoodIn wsL_law (wsV RL 34 RX6 yX6_lying wsX6_lying) := goodIn_app (goodIn_of _ (by decide +kernel)) ggL_law_X6_lying
set_option maxRecDepth 20000 in
theorem ggL_law_X5_weighs : GoodIn wsL_law wsX5_weighs := goodIn_rr rowsL rowsL_in _ [(12, 21), (0, 20), (12, 22), (1, 1), (12, 23), (13, 0), (3, 14), (3, 15), (0, 2), (3, 16), (10, 17), (10, 18), (10, 19), (0, 19), (10, 20), (2, 3), (3, 22), (3, 23), (4, 0), (4, 1), (4, 2), (4, 3), (4, 4), (4, 5), (1, 3), (13, 1), (13, 2), (13, 3), (1, 5), (13, 4), (2, 8), (13, 5), (13, 6), (13, 7), (11, 6), (11, 7), (11, 8), (11, 9), (11, 10), (11, 11), (13, 8), (13, 9), (13, 10), (13, 11), (13, 12), (13, 13), (2, 9), (13, 14), (13, 15), (13, 16), (13, 17), (35, 0), (35, 1), (35, 2), (35, 3), (35, 4), (35, 5), (35, 6), (35, 7), (35, 8), (35, 9), (35, 10), (35, 11), (35, 12), (38, 0), (38, 1), (38, 2), (38, 3), (38, 4), (39, 0), (39, 1)] rfl (by decide +kernel)
set_option maxRecDepth 20000 in
theorem gL_law_X5_weighs : GoodIn wsL_law (wsV RL 35 RX5 yX5_weighs wsX5_weighs) := goodIn_app (goodIn_of _ (by decide +kernel)) ggL_law_X5_weighs
set_option maxRecDepth 20000 in
theorem ggL_law_X6_weighs : GoodIn wsL_law wsX6_weighs := goodIn_rr rowsL rowsL_in _ [(13, 21), (13, 22), (13, 23), (3, 4), (3, 5), (12, 1), (12, 2), (14, 0), (8, 2), (8, 3), (0, 5), (8, 4), (8, 5), (8, 6), (8, 7), (12, 6), (12, 7), (12, 8), (12, 9), (8, 14), (12, 10), (12, 11), (12, 12), (14, 1), (14, 2), (14, 3), (14, 4), (3, 3), (12, 13), (12, 14), (12, 15), (12, 16), (12, 3), (12, 4), (12, 5), (12, 17), (2, 19), (2, 20), (14, 5), (14, 6), (14, 7), (14, 8), (14, 9), (14, 10), (14, 11), (14, 12), (13, 15), (13, 16), (13, 17), (36, 0), (36, 1), (36, 2), (36, 3), (36, 4), (36, 5), (36, 6), (36, 7), (36, 8), (36, 9), (36, 10), (36, 11), (36, 12), (36, 13), (36, 14), (36, 15), (36, 16), (36, 17), (36, 18), (36, 19), (36, 20), (36, 21), (36, 22), (36, 23), (36, 24), (36, 25), (36, 26), (36, 27), (36, 28), (36, 29), (36, 30), (36, 31)] rfl (by decide +kernel)
set_option maxRecDepth 20000 in
theorem gL_law_X6_weighs : GoodIn wsL_law (wsV RL 38 RX6 yX6_weighs wsX6_weighs) := goodIn_app (goodIn_of _ (by decide +kernel)) ggL_law_X6_weighs
set_option maxRecDepth 20000 in
theorem ggL_law_X5_may : GoodIn wsL_law wsX5_may := goodIn_rr rowsL rowsL_in _ [(14, 16), (0, 20), (1, 1), (3, 14), (3, 15), (0, 2), (3, 16), (10, 17), (10, 18), (10, 19), (0, 19), (10, 20), (2, 3), (3, 22), (3, 23), (4, 0), (4, 1), (4, 2), (4, 3), (4, 4), (4, 5), (1, 3), (13, 1), (13, 2), (13, 3), (1, 5), (13, 4), (2, 8), (13, 5), (13, 6), (13, 7), (11, 6), (11, 7), (11, 8), (11, 9), (11, 10), (11, 11), (35, 0), (35, 1), (35, 2), (35, 3), (35, 4), (35, 5), (35, 6), (35, 7), (35, 8), (35, 9), (35, 10), (35, 11), (35, 12), (38, 0), (38, 1), (38, 2), (38, 3), (38, 4), (39, 0), (39, 1)] rfl (by decide +kernel)
set_option maxRecDepth 20000 in
theorem gL_law_X5_may : GoodIn wsL_law (wsV RL 39 RX5 yX5_may wsX5_may) := goodIn_app (goodIn_of _ (by decide +kernel)) ggL_law_X5_may
set_option maxRecDepth 20000 in
theorem ggL_law_X6_may : GoodIn wsL_law wsX6_may := goodIn_rr rowsL rowsL_in _ [(14, 20), (3, 4), (8, 2), (8, 3), (0, 5), (8, 4), (8, 5), (8, 6), (8, 7), (12, 6), (12, 7), (12, 8), (12, 9), (8, 14), (12, 10), (12, 11), (12, 12), (14, 1), (14, 2), (14, 3), (14, 4), (3, 3), (12, 13), (12, 14), (12, 15), (12, 16), (12, 1), (12, 2), (12, 3), (12, 4), (12, 5), (12, 17), (2, 19), (2, 20), (14, 5), (14, 6), (14, 7), (14, 8), (36, 0), (36, 1), (36, 2), (36, 3), (36, 4), (36, 5), (36, 6), (36, 7), (36, 8), (36, 9), (36, 10), (36, 11), (36, 12), (36, 13), (36, 14), (36, 15), (36, 16), (36, 17), (36, 18), (36, 19), (36, 20), (36, 21), (36, 22), (36, 23), (36, 24), (36, 25), (36, 26), (36, 27), (36, 28), (36, 29), (36, 30), (36, 31)] rfl (by decide +kernel)
set_option maxRecDepth 20000 in
theorem gL_law_X6_may : GoodIn wsL_law (wsV RL 42 RX6 yX6_may wsX6_may) := goodIn_app (goodIn_of _ (by decide +kernel)) ggL_law_X6_may
set_option maxRecDepth 20000 in
theorem ggL_law_X5_ways : GoodIn wsL_law wsX5_ways := goodIn_rr rowsL rowsL_in _ [(15, 0), (1, 1), (0, 20), (15, 1), (3, 14), (3, 15), (0, 2), (3, 16), (15, 2), (15, 3), (15, 4), (3, 22), (3, 23), (4, 0), (4, 1), (4, 2), (4, 3), (4, 4), (4, 5), (1, 3), (15, 5), (15, 6), (15, 7), (1, 5), (15, 8), (15, 9), (13, 2), (13, 3), (13, 4), (2, 8), (13, 5), (13, 6), (13, 7), (11, 6), (11, 7), (11, 8), (11, 9), (11, 10), (11, 11), (15, 10), (13, 9), (13, 10), (13, 11), (13, 12), (13, 13), (2, 9), (13, 14), (13, 15), (13, 16), (13, 17), (35, 0), (35, 1), (35, 2), (35, 3), (35, 4), (35, 5), (35, 6), (35, 7), (35, 8), (35, 9), (35, 10), (35, 11), (35, 12), (38, 0), (38, 1), (38, 2), (38, 3), (38, 4), (39, 0), (39, 1)] rfl (by decide +kernel)
set_option maxRecDepth 20000 in
theorem gL_law_X5_ways : GoodIn wsL_law (wsV RL 43 RX5 yX5_ways wsX5_ways) := goodIn_app (goodIn_of _ (by decide +kernel)) ggL_law_X5_ways
set_option maxRecDepth 20000 in
theorem ggL_law_X6_ways : GoodIn wsL_law wsX6_ways := goodIn_rr rowsL rowsL_in _ [(15, 14), (8, 14), (8, 2), (8, 3), (0, 5), (8, 4), (8, 5), (8, 6), (8, 7), (14, 1), (14, 2), (14, 3), (14, 4), (3, 3), (12, 10), (12, 11), (12, 12), (15, 15), (15, 16), (15, 17), (15, 18), (3, 4), (3, 5), (12, 1), (12, 2), (12, 13), (12, 14), (12, 15), (12, 16), (12, 3), (12, 4), (12, 5), (12, 17), (2, 19), (2, 20), (14, 5), (14, 6), (14, 7), (14, 8), (14, 9), (14, 10), (14, 11), (14, 12), (13, 15), (13, 16), (13, 17), (36, 0), (36, 1), (36, 2), (36, 3), (36, 4), (36, 5), (36, 6), (36, 7), (36, 8), (36, 9), (36, 10), (36, 11), (36, 12), (36, 13), (36, 14), (36, 15), (36, 16), (36, 17), (36, 18), (36, 19), (36, 20), (36, 21), (36, 22), (36, 23), (36, 24), (36, 25), (36, 26), (36, 27), (36, 28), (36, 29), (36, 30), (36, 31)] rfl (by decide +kernel)
set_option maxRecDepth 20000 in
theorem gL_law_X6_ways : GoodIn wsL_law (wsV RL 46 RX6 yX6_ways wsX6_ways) := goodIn_app (goodIn_of _ (by decide +kernel)) ggL_law_X6_ways
set_option maxRecDepth 20000 in
theorem ggL_law_X5_first : GoodIn wsL_law wsX5_first := goodIn_rr rowsL rowsL_in _ [(15, 22), (1, 1), (0, 20), (15, 1), (3, 14), (3, 15), (0, 2), (3, 16), (15, 2), (15, 3), (15, 4), (3, 22), (3, 23), (4, 0), (4, 1), (4, 2), (4, 3), (4, 4), (4, 5), (1, 3), (15, 5), (15, 6), (15, 7), (1, 5), (15, 8), (15, 9), (13, 2), (13, 3), (13, 4), (2, 8), (13, 5), (13, 6), (13, 7), (11, 6), (11, 7), (11, 8), (11, 9), (11, 10), (11, 11), (15, 10), (13, 9), (13, 10), (13, 11), (13, 12), (13, 13), (2, 9), (13, 14), (13, 15), (13, 16), (13, 17), (35, 0), (35, 1), (35, 2), (35, 3), (35, 4), (35, 5), (35, 6), (35, 7), (35, 8), (35, 9), (35, 10), (35, 11), (35, 12), (38, 0), (38, 1), (38, 2), (38, 3), (38, 4), (39, 0), (39, 1)] rfl (by decide +kernel)
set_option maxRecDepth 20000 in
theorem gL_law_X5_first : GoodIn wsL_law (wsV RL 47 RX5 yX5_first wsX5_first) := goodIn_app (goodIn_of _ (by decide +kernel)) ggL_law_X5_first
set_option maxRecDepth 20000 in
theorem ggL_law_X6_first : GoodIn wsL_law wsX6_first := goodIn_rr rowsL rowsL_in _ [(16, 2), (8, 14), (8, 2), (8, 3), (0, 5), (8, 4), (8, 5), (8, 6), (8, 7), (14, 1), (14, 2), (14, 3), (14, 4), (3, 3), (12, 10), (12, 11), (12, 12), (15, 15), (15, 16), (15, 17), (15, 18), (3, 4), (3, 5), (12, 1), (12, 2), (12, 13), (12, 14), (12, 15), (12, 16), (12, 3), (12, 4), (12, 5), (12, 17), (2, 19), (2, 20), (14, 5), (14, 6), (14, 7), (14, 8), (14, 9), (14, 10), (14, 11), (14, 12), (13, 15), (13, 16), (13, 17), (36, 0), (36, 1), (36, 2), (36, 3), (36, 4), (36, 5), (36, 6), (36, 7), (36, 8), (36, 9), (36, 10), (36, 11), (36, 12), (36, 13), (36, 14), (36, 15), (36, 16), (36, 17), (36, 18), (36, 19), (36, 20), (36, 21), (36, 22), (36, 23), (36, 24), (36, 25), (36, 26), (36, 27), (36, 28), (36, 29), (36, 30), (36, 31)] rfl (by decide +kernel)
set_option maxRecDepth 20000 in
theorem gL_law_X6_first : GoodIn wsL_law (wsV RL 50 RX6 yX6_first wsX6_first) := goodIn_app (goodIn_of _ (by decide +kernel)) ggL_law_X6_first
set_option maxRecDepth 20000 in
theorem ggL_law_X5_lifts : GoodIn wsL_law wsX5_lifts := goodIn_rr rowsL rowsL_in _ [(16, 6), (1, 1), (0, 20), (3, 14), (3, 15), (0, 2), (3, 16), (15, 2), (15, 3), (15, 4), (3, 22), (3, 23), (4, 0), (4, 1), (4, 2), (4, 3), (4, 4), (4, 5), (1, 3), (16, 7), (16, 8), (16, 9), (16, 10), (15, 1), (15, 5), (15, 6), (15, 7), (1, 5), (15, 8), (15, 9), (13, 2), (13, 3), (13, 4), (2, 8), (13, 5), (13, 6), (13, 7), (11, 6), (11, 7), (11, 8), (11, 9), (11, 10), (11, 11), (15, 10), (13, 9), (13, 10), (13, 11), (13, 12), (13, 13), (2, 9), (13, 14), (13, 15), (13, 16), (13, 17), (10, 21), (10, 22), (10, 23), (0, 19), (11, 0), (11, 1), (11, 2), (11, 3), (11, 4), (2, 1), (2, 2), (11, 5), (35, 0), (35, 1), (35, 2), (35, 3), (35, 4), (35, 5), (35, 6), (35, 7), (35, 8), (35, 9), (35, 10), (35, 11), (35, 12), (38, 0), (38, 1), (38, 2), (38, 3), (38, 4), (39, 0), (39, 1)] rfl (by decide +kernel)
set_option maxRecDepth 20000 in
theorem gL_law_X5_lifts : GoodIn wsL_law (wsV RL 51 RX5 yX5_lifts wsX5_lifts) := goodIn_app (goodIn_of _ (by decide +kernel)) ggL_law_X5_lifts
set_option maxRecDepth 20000 in
theorem ggL_law_X6_lifts : GoodIn wsL_law wsX6_lifts := goodIn_rr rowsL rowsL_in _ [(16, 14), (8, 14), (12, 3), (12, 4), (8, 2), (8, 3), (0, 5), (8, 4), (8, 5), (8, 6), (8, 7), (14, 1), (14, 2), (14, 3), (14, 4), (3, 3), (12, 10), (12, 11), (12, 12), (15, 15), (15, 16), (15, 17), (15, 18), (3, 4), (3, 5), (12, 1), (12, 2), (12, 13), (12, 14), (12, 15), (12, 16), (12, 5), (12, 17), (2, 19), (2, 20), (14, 5), (14, 6), (14, 7), (14, 8), (14, 9), (14, 10), (14, 11), (14, 12), (13, 15), (13, 16), (13, 17), (36, 0), (36, 1), (36, 2), (36, 3), (36, 4), (36, 5), (36, 6), (36, 7), (36, 8), (36, 9), (36, 10), (36, 11), (36, 12), (36, 13), (36, 14), (36, 15), (36, 16), (36, 17), (36, 18), (36, 19), (36, 20), (36, 21), (36, 22), (36, 23), (36, 24), (36, 25), (36, 26), (36, 27), (36, 28), (36, 29), (36, 30), (36, 31)] rfl (by decide +kernel)
set_option maxRecDepth 20000 in
theorem gL_law_X6_lifts : GoodIn wsL_law (wsV RL 55 RX6 yX6_lifts wsX6_lifts) := goodIn_app (goodIn_of _ (by decide +kernel)) ggL_law_X6_lifts
set_option maxRecDepth 20000 in
theorem ggL_law_X5_reach : GoodIn wsL_law wsX5_reach := goodIn_rr rowsL rowsL_in _ [(16, 18), (1, 1), (0, 20), (3, 14), (3, 15), (0, 2), (3, 16), (3, 22), (3, 23), (4, 0), (4, 1), (4, 2), (4, 3), (4, 4), (4, 5), (1, 3), (16, 19), (16, 20), (16, 21), (16, 22), (1, 12), (16, 23), (17, 0), (17, 1), (17, 2), (15, 1), (17, 3), (17, 4), (17, 5), (17, 6), (11, 12), (11, 2), (11, 3), (0, 19), (11, 4), (2, 1), (2, 2), (13, 1), (13, 2), (13, 3), (1, 5), (13, 4), (2, 8), (13, 5), (13, 6), (13, 7), (11, 6), (11, 7), (11, 8), (11, 9), (11, 10), (11, 11), (13, 8), (13, 9), (13, 10), (13, 11), (13, 12), (13, 13), (2, 9), (13, 14), (13, 15), (13, 16), (13, 17), (17, 7), (17, 8), (17, 9), (35, 0), (35, 1), (35, 2), (35, 3), (35, 4), (35, 5), (35, 6), (35, 7), (35, 8), (35, 9), (35, 10), (35, 11), (35, 12), (38, 0), (38, 1), (38, 2), (38, 3), (38, 4), (39, 0), (39, 1)] rfl (by decide +kernel)
set_option maxRecDepth 20000 in
theorem gL_law_X5_reach : GoodIn wsL_law (wsV RL 56 RX5 yX5_reach wsX5_reach) := goodIn_app (goodIn_of _ (by decide +kernel)) ggL_law_X5_reach
set_option maxRecDepth 20000 in
theorem ggL_law_X6_reach : GoodIn wsL_law wsX6_reach := goodIn_rr rowsL rowsL_in _ [(17, 13), (8, 2), (8, 3), (0, 5), (8, 4), (8, 5), (8, 6), (8, 7), (14, 1), (14, 2), (14, 3), (14, 4), (3, 3), (17, 14), (17, 15), (17, 16), (17, 17), (3, 0), (8, 14), (3, 4), (3, 5), (12, 1), (12, 2), (12, 17), (12, 10), (12, 11), (12, 12), (12, 13), (12, 14), (12, 15), (12, 16), (12, 3), (12, 4), (12, 5), (2, 19), (2, 20), (14, 9), (14, 10), (14, 11), (14, 12), (13, 15), (13, 16), (13, 17), (14, 5), (14, 6), (14, 7), (14, 8), (17, 18), (17, 19), (17, 20), (17, 21), (36, 0), (36, 1), (36, 2), (36, 3), (36, 4), (36, 5), (36, 6), (36, 7), (36, 8), (36, 9), (36, 10), (36, 11), (36, 12), (36, 13), (36, 14), (36, 15), (36, 16), (36, 17), (36, 18), (36, 19), (36, 20), (36, 21), (36, 22), (36, 23), (36, 24), (36, 25), (36, 26), (36, 27), (36, 28), (36, 29), (36, 30), (36, 31)] rfl (by decide +kernel)
set_option maxRecDepth 20000 in
theorem gL_law_X6_reach : GoodIn wsL_law (wsV RL 59 RX6 yX6_reach wsX6_reach) := goodIn_app (goodIn_of _ (by decide +kernel)) ggL_law_X6_reach
set_option maxRecDepth 20000 in
theorem ggL_law_X5_hole : GoodIn wsL_law wsX5_hole := goodIn_rr rowsL rowsL_in _ [(18, 1), (1, 1), (0, 20), (3, 14), (3, 15), (0, 2), (3, 16), (3, 22), (3, 23), (4, 0), (4, 1), (4, 2), (4, 3), (4, 4), (4, 5), (1, 3), (16, 19), (16, 20), (16, 21), (16, 22), (1, 12), (16, 23), (17, 0), (17, 1), (17, 2), (15, 1), (17, 3), (17, 4), (17, 5), (17, 6), (11, 12), (11, 2), (11, 3), (0, 19), (11, 4), (2, 1), (2, 2), (13, 1), (13, 2), (13, 3), (1, 5), (13, 4), (2, 8), (13, 5), (13, 6), (13, 7), (11, 6), (11, 7), (11, 8), (11, 9), (11, 10), (11, 11), (13, 8), (13, 9), (13, 10), (13, 11), (13, 12), (13, 13), (2, 9), (13, 14), (13, 15), (13, 16), (13, 17), (17, 7), (17, 8), (17, 9), (35, 0), (35, 1), (35, 2), (35, 3), (35, 4), (35, 5), (35, 6), (35, 7), (35, 8), (35, 9), (35, 10), (35, 11), (35, 12), (38, 0), (38, 1), (38, 2), (38, 3), (38, 4), (39, 0), (39, 1)] rfl (by decide +kernel)
set_option maxRecDepth 20000 in
theorem gL_law_X5_hole : GoodIn wsL_law (wsV RL 60 RX5 yX5_hole wsX5_hole) := goodIn_app (goodIn_of _ (by decide +kernel)) ggL_law_X5_hole
set_option maxRecDepth 20000 in
theorem ggL_law_X6_hole : GoodIn wsL_law wsX6_hole := goodIn_rr rowsL rowsL_in _ [(18, 5), (8, 2), (8, 3), (0, 5), (8, 4), (8, 5), (8, 6), (8, 7), (14, 1), (14, 2), (14, 3), (14, 4), (3, 3), (17, 14), (17, 15), (17, 16), (17, 17), (3, 0), (8, 14), (3, 4), (3, 5), (12, 1), (12, 2), (12, 17), (12, 10), (12, 11), (12, 12), (12, 13), (12, 14), (12, 15), (12, 16), (12, 3), (12, 4), (12, 5), (2, 19), (2, 20), (14, 9), (14, 10), (14, 11), (14, 12), (13, 15), (13, 16), (13, 17), (14, 5), (14, 6), (14, 7), (14, 8), (17, 18), (17, 19), (17, 20), (17, 21), (36, 0), (36, 1), (36, 2), (36, 3), (36, 4), (36, 5), (36, 6), (36, 7), (36, 8), (36, 9), (36, 10), (36, 11), (36, 12), (36, 13), (36, 14), (36, 15), (36, 16), (36, 17), (36, 18), (36, 19), (36, 20), (36, 21), (36, 22), (36, 23), (36, 24), (36, 25), (36, 26), (36, 27), (36, 28), (36, 29), (36, 30), (36, 31)] rfl (by decide +kernel)
set_option maxRecDepth 20000 in
theorem gL_law_X6_hole : GoodIn wsL_law (wsV RL 63 RX6 yX6_hole wsX6_hole) := goodIn_app (goodIn_of _ (by decide +kernel)) ggL_law_X6_hole
set_option maxRecDepth 20000 in
theorem ggL_law_X5_list : GoodIn wsL_law wsX5_list := goodIn_rr rowsL rowsL_in _ [(18, 9), (3, 14), (3, 15), (0, 2), (3, 16), (18, 10), (18, 11), (18, 12), (18, 13), (1, 1), (18, 14), (0, 16), (3, 22), (3, 23), (4, 0), (4, 1), (4, 2), (4, 3), (4, 4), (4, 5), (1, 3), (3, 17), (3, 18), (3, 19), (3, 20), (3, 21), (18, 15), (18, 16), (18, 17), (17, 7), (17, 8), (17, 9), (18, 18), (18, 19), (18, 20), (18, 21), (1, 13), (0, 20), (15, 1), (17, 3), (17, 4), (17, 5), (17, 6), (13, 1), (13, 2), (13, 3), (1, 5), (13, 4), (2, 8), (13, 5), (13, 6), (13, 7), (11, 6), (11, 7), (11, 8), (11, 9), (11, 10), (11, 11), (13, 8), (13, 9), (13, 10), (13, 11), (13, 12), (13, 13), (2, 9), (13, 14), (13, 15), (13, 16), (13, 17), (18, 22), (18, 23), (19, 0), (5, 9), (19, 1), (5, 11), (11, 12), (11, 2), (11, 3), (0, 19), (11, 4), (2, 1), (2, 2), (19, 2), (19, 3), (19, 4), (0, 15), (19, 5), (4, 21), (19, 6), (19, 7), (19, 8), (19, 9), (19, 10), (19, 11), (19, 12), (19, 13), (19, 14), (11, 13), (11, 14), (11, 15), (11, 16), (1, 19), (11, 17), (11, 18), (11, 19), (11, 20), (35, 0), (35, 1), (35, 2), (35, 3), (35, 4), (35, 5), (35, 6), (35, 7), (35, 8), (35, 9), (35, 10), (35, 11), (35, 12), (41, 0), (41, 1), (38, 0), (38, 1), (38, 2), (38, 3), (38, 4), (39, 0), (39, 1), (37, 0), (37, 1), (37, 2)] rfl (by decide +kernel)
set_option maxRecDepth 20000 in
theorem gL_law_X5_list : GoodIn wsL_law (wsV RL 64 RX5 yX5_list wsX5_list) := goodIn_app (goodIn_of _ (by decide +kernel)) ggL_law_X5_list
set_option maxRecDepth 20000 in
theorem ggL_law_X6_list : GoodIn wsL_law wsX6_list := goodIn_rr rowsL rowsL_in _ [(19, 18), (8, 2), (8, 3), (0, 5), (8, 4), (8, 5), (8, 6), (8, 7), (14, 1), (14, 2), (14, 3), (14, 4), (3, 3), (19, 19), (19, 20), (19, 21), (19, 22), (3, 6), (3, 7), (3, 8), (19, 23), (20, 0), (20, 1), (20, 2), (8, 14), (20, 3), (20, 4), (20, 5), (20, 6), (20, 7), (20, 8), (20, 9), (2, 20), (20, 10), (20, 11), (20, 12), (20, 13), (3, 0), (17, 14), (17, 15), (17, 16), (17, 17), (3, 4), (3, 5), (12, 1), (12, 2), (12, 17), (12, 10), (12, 11), (12, 12), (12, 13), (12, 14), (12, 15), (12, 16), (12, 3), (12, 4), (12, 5), (2, 19), (14, 9), (14, 10), (14, 11), (14, 12), (13, 15), (13, 16), (13, 17), (14, 5), (14, 6), (14, 7), (14, 8), (36, 0), (36, 1), (36, 2), (36, 3), (36, 4), (36, 5), (36, 6), (36, 7), (36, 8), (36, 9), (36, 10), (36, 11), (36, 12), (36, 13), (36, 14), (36, 15), (36, 16), (36, 17), (36, 18), (36, 19), (36, 20), (36, 21), (36, 22), (36, 23), (36, 24), (36, 25), (36, 26), (36, 27), (36, 28), (36, 29), (36, 30), (36, 31)] rfl (by decide +kernel)
set_option maxRecDepth 20000 in
theorem gL_law_X6_list : GoodIn wsL_law (wsV RL 67 RX6 yX6_list wsX6_list) := goodIn_app (goodIn_of _ (by decide +kernel)) ggL_law_X6_list
set_option maxRecDepth 20000 in
theorem ggL_law_X5_cheapest : GoodIn wsL_law wsX5_cheapest := goodIn_rr rowsL rowsL_in _ [(20, 17), (0, 16), (3, 14), (3, 15), (0, 2), (3, 16), (20, 18), (20, 19), (20, 20), (0, 15), (20, 21), (20, 22), (19, 3), (19, 4), (19, 5), (4, 21), (18, 10), (18, 11), (18, 12), (18, 13), (1, 1), (18, 14), (3, 22), (3, 23), (4, 0), (4, 1), (4, 2), (4, 3), (4, 4), (4, 5), (1, 3), (3, 17), (3, 18), (3, 19), (3, 20), (3, 21), (18, 15), (18, 16), (18, 17), (17, 7), (17, 8), (17, 9), (18, 18), (18, 19), (18, 20), (18, 21), (1, 13), (0, 20), (15, 1), (17, 3), (17, 4), (17, 5), (17, 6), (13, 1), (13, 2), (13, 3), (1, 5), (13, 4), (2, 8), (13, 5), (13, 6), (13, 7), (11, 6), (11, 7), (11, 8), (11, 9), (11, 10), (11, 11), (13, 8), (13, 9), (13, 10), (13, 11), (13, 12), (13, 13), (2, 9), (13, 14), (13, 15), (13, 16), (13, 17), (18, 22), (18, 23), (19, 0), (5, 9), (19, 1), (5, 11), (11, 12), (11, 2), (11, 3), (0, 19), (11, 4), (2, 1), (2, 2), (19, 2), (19, 6), (19, 7), (19, 8), (19, 9), (19, 10), (19, 11), (19, 12), (19, 13), (19, 14), (11, 13), (11, 14), (11, 15), (11, 16), (1, 19), (11, 17), (11, 18), (11, 19), (11, 20), (35, 0), (35, 1), (35, 2), (35, 3), (35, 4), (35, 5), (35, 6), (35, 7), (35, 8), (35, 9), (35, 10), (35, 11), (35, 12), (37, 0), (37, 1), (37, 2), (41, 0), (41, 1), (38, 0), (38, 1), (38, 2), (38, 3), (38, 4), (39, 0), (39, 1)] rfl (by decide +kernel)
set_option maxRecDepth 20000 in
theorem gL_law_X5_cheapest : GoodIn wsL_law (wsV RL 68 RX5 yX5_cheapest wsX5_cheapest) := goodIn_app (goodIn_of _ (by decide +kernel)) ggL_law_X5_cheapest
set_option maxRecDepth 20000 in
theorem ggL_law_X6_cheapest : GoodIn wsL_law wsX6_cheapest := goodIn_rr rowsL rowsL_in _ [(21, 2), (8, 14), (8, 2), (8, 3), (0, 5), (8, 4), (8, 5), (8, 6), (8, 7), (14, 1), (14, 2), (14, 3), (14, 4), (3, 3), (19, 19), (19, 20), (19, 21), (19, 22), (3, 6), (3, 7), (3, 8), (19, 23), (20, 0), (20, 1), (20, 2), (20, 3), (20, 4), (20, 5), (20, 6), (20, 7), (20, 8), (20, 9), (2, 20), (20, 10), (20, 11), (20, 12), (20, 13), (3, 0), (17, 14), (17, 15), (17, 16), (17, 17), (3, 4), (3, 5), (12, 1), (12, 2), (12, 17), (12, 10), (12, 11), (12, 12), (12, 13), (12, 14), (12, 15), (12, 16), (12, 3), (12, 4), (12, 5), (2, 19), (14, 9), (14, 10), (14, 11), (14, 12), (13, 15), (13, 16), (13, 17), (14, 5), (14, 6), (14, 7), (14, 8), (36, 0), (36, 1), (36, 2), (36, 3), (36, 4), (36, 5), (36, 6), (36, 7), (36, 8), (36, 9), (36, 10), (36, 11), (36, 12), (36, 13), (36, 14), (36, 15), (36, 16), (36, 17), (36, 18), (36, 19), (36, 20), (36, 21), (36, 22), (36, 23), (36, 24), (36, 25), (36, 26), (36, 27), (36, 28), (36, 29), (36, 30), (36, 31)] rfl (by decide +kernel)
set_option maxRecDepth 20000 in
theorem gL_law_X6_cheapest : GoodIn wsL_law (wsV RL 72 RX6 yX6_cheapest wsX6_cheapest) := goodIn_app (goodIn_of _ (by decide +kernel)) ggL_law_X6_cheapest
set_option maxRecDepth 20000 in
theorem ggL_law_X5_threes : GoodIn wsL_law wsX5_threes := goodIn_rr rowsL rowsL_in _ [(21, 6), (21, 7), (21, 8), (0, 2), (21, 9)] rfl (by decide +kernel)
set_option maxRecDepth 20000 in
theorem gL_law_X5_threes : GoodIn wsL_law (wsV RL 73 RX5 yX5_threes wsX5_threes) := goodIn_app (goodIn_of _ (by decide +kernel)) ggL_law_X5_threes
set_option maxRecDepth 20000 in
theorem ggL_law_X6_threes : GoodIn wsL_law wsX6_threes := goodIn_rr rowsL rowsL_in _ [(21, 13), (8, 5), (8, 6), (0, 5), (8, 7), (12, 10), (12, 11), (12, 12)] rfl (by decide +kernel)
set_option maxRecDepth 20000 in
theorem gL_law_X6_threes : GoodIn wsL_law (wsV RL 76 RX6 yX6_threes wsX6_threes) := goodIn_app (goodIn_of _ (by decide +kernel)) ggL_law_X6_threes
set_option maxRecDepth 20000 in
theorem ggL_law_X5_doubles : GoodIn wsL_law wsX5_doubles := goodIn_rr rowsL rowsL_in _ [(21, 17), (21, 7), (21, 8), (0, 2), (21, 9)] rfl (by decide +kernel)
set_option maxRecDepth 20000 in
theorem gL_law_X5_doubles : GoodIn wsL_law (wsV RL 77 RX5 yX5_doubles wsX5_doubles) := goodIn_app (goodIn_of _ (by decide +kernel)) ggL_law_X5_doubles
set_option maxRecDepth 20000 in
theorem ggL_law_X6_doubles : GoodIn wsL_law wsX6_doubles := goodIn_rr rowsL rowsL_in _ [(21, 21), (8, 5), (8, 6), (0, 5), (8, 7)] rfl (by decide +kernel)
set_option maxRecDepth 20000 in
theorem gL_law_X6_doubles : GoodIn wsL_law (wsV RL 80 RX6 yX6_doubles wsX6_doubles) := goodIn_app (goodIn_of _ (by decide +kernel)) ggL_law_X6_doubles
set_option maxRecDepth 20000 in
theorem ggL_law_X5_digits : GoodIn wsL_law wsX5_digits := goodIn_rr rowsL rowsL_in _ [(22, 1), (15, 2), (15, 3), (0, 2), (15, 4), (22, 2), (22, 3), (22, 4), (22, 5), (22, 6), (22, 7), (22, 8), (22, 9), (22, 10), (22, 11), (22, 12), (22, 13), (22, 14)] rfl (by decide +kernel)
set_option maxRecDepth 20000 in
theorem gL_law_X5_digits : GoodIn wsL_law (wsV RL 81 RX5 yX5_digits wsX5_digits) := goodIn_app (goodIn_of _ (by decide +kernel)) ggL_law_X5_digits
set_option maxRecDepth 20000 in
theorem ggL_law_X6_digits : GoodIn wsL_law wsX6_digits := goodIn_rr rowsL rowsL_in _ [(22, 18), (8, 5), (8, 6), (0, 5), (8, 7), (22, 19), (22, 20), (22, 21)] rfl (by decide +kernel)
set_option maxRecDepth 20000 in
theorem gL_law_X6_digits : GoodIn wsL_law (wsV RL 84 RX6 yX6_digits wsX6_digits) := goodIn_app (goodIn_of _ (by decide +kernel)) ggL_law_X6_digits
set_option maxRecDepth 20000 in
theorem ggL_law_X5_added : GoodIn wsL_law wsX5_added := goodIn_rr rowsL rowsL_in _ [(23, 1), (15, 2), (15, 3), (0, 2), (15, 4), (22, 9), (22, 10), (22, 11), (22, 12), (22, 13), (22, 7), (22, 14), (22, 2), (22, 3), (22, 4), (22, 5), (22, 6), (22, 8)] rfl (by decide +kernel)
set_option maxRecDepth 20000 in
theorem gL_law_X5_added : GoodIn wsL_law (wsV RL 85 RX5 yX5_added wsX5_added) := goodIn_app (goodIn_of _ (by decide +kernel)) ggL_law_X5_added
set_option maxRecDepth 20000 in
theorem ggL_law_X6_added : GoodIn wsL_law wsX6_added := goodIn_rr rowsL rowsL_in _ [(23, 5), (8, 5), (8, 6), (0, 5), (8, 7), (22, 19), (22, 20), (22, 21)] rfl (by decide +kernel)
set_option maxRecDepth 20000 in
theorem gL_law_X6_added : GoodIn wsL_law (wsV RL 88 RX6 yX6_added wsX6_added) := goodIn_app (goodIn_of _ (by decide +kernel)) ggL_law_X6_added
set_option maxRecDepth 20000 in
theorem ggL_law_X5_sets : GoodIn wsL_law wsX5_sets := goodIn_rr rowsL rowsL_in _ [(23, 9), (23, 10), (23, 11), (0, 2), (23, 12), (23, 13), (23, 14), (23, 15), (23, 16), (13, 15), (13, 16), (13, 17)] rfl (by decide +kernel)
set_option maxRecDepth 20000 in
theorem gL_law_X5_sets : GoodIn wsL_law (wsV RL 89 RX5 yX5_sets wsX5_sets) := goodIn_app (goodIn_of _ (by decide +kernel)) ggL_law_X5_sets
set_option maxRecDepth 20000 in
theorem ggL_law_X6_sets : GoodIn wsL_law wsX6_sets := goodIn_rr rowsL rowsL_in _ [(23, 20), (23, 21), (23, 22), (8, 5), (8, 6), (0, 5), (8, 7), (23, 23), (24, 0), (24, 1), (24, 2), (3, 1), (24, 3), (24, 4), (24, 5), (24, 6), (12, 10), (12, 11), (12, 12), (36, 0), (36, 1), (36, 2), (36, 3), (36, 4), (36, 5), (36, 6), (36, 7), (36, 8), (36, 9), (36, 10), (36, 11), (36, 12), (36, 13), (36, 14), (36, 15), (36, 16), (36, 17), (36, 18), (36, 19), (36, 20), (36, 21), (36, 22), (36, 23), (36, 24), (36, 25), (36, 26), (36, 27), (36, 28), (36, 29), (36, 30), (36, 31)] rfl (by decide +kernel)
set_option maxRecDepth 20000 in
theorem gL_law_X6_sets : GoodIn wsL_law (wsV RL 92 RX6 yX6_sets wsX6_sets) := goodIn_app (goodIn_of _ (by decide +kernel)) ggL_law_X6_sets
set_option maxRecDepth 20000 in
theorem ggL_law_X5_lost : GoodIn wsL_law wsX5_lost := goodIn_rr rowsL rowsL_in _ [(24, 10), (0, 16), (1, 1), (0, 20), (3, 14), (3, 15), (0, 2), (3, 16), (10, 2), (6, 19), (6, 20), (0, 15), (6, 21), (4, 21), (3, 22), (3, 23), (4, 0), (4, 1), (4, 2), (4, 3), (4, 4), (4, 5), (1, 3), (16, 19), (16, 20), (16, 21), (16, 22), (1, 12), (16, 23), (17, 0), (17, 1), (17, 2), (15, 1), (17, 3), (17, 4), (17, 5), (17, 6), (11, 12), (11, 2), (11, 3), (0, 19), (11, 4), (2, 1), (2, 2), (13, 1), (13, 2), (13, 3), (1, 5), (13, 4), (2, 8), (13, 5), (13, 6), (13, 7), (11, 6), (11, 7), (11, 8), (11, 9), (11, 10), (11, 11), (13, 8), (13, 9), (13, 10), (13, 11), (13, 12), (13, 13), (2, 9), (13, 14), (13, 15), (13, 16), (13, 17), (17, 7), (17, 8), (17, 9), (24, 11), (24, 12), (24, 13), (24, 14), (35, 0), (35, 1), (35, 2), (35, 3), (35, 4), (35, 5), (35, 6), (35, 7), (35, 8), (35, 9), (35, 10), (35, 11), (35, 12), (37, 0), (37, 1), (37, 2), (38, 0), (38, 1), (38, 2), (38, 3), (38, 4), (39, 0), (39, 1)] rfl (by decide +kernel)
set_option maxRecDepth 20000 in
theorem gL_law_X5_lost : GoodIn wsL_law (wsV RL 93 RX5 yX5_lost wsX5_lost) := goodIn_app (goodIn_of _ (by decide +kernel)) ggL_law_X5_lost
set_option maxRecDepth 20000 in
theorem ggL_law_X6_lost : GoodIn wsL_law wsX6_lost := goodIn_rr rowsL rowsL_in _ [(24, 18), (8, 2), (8, 3), (0, 5), (8, 4), (8, 5), (8, 6), (8, 7), (10, 7), (10, 8), (10, 9), (10, 10), (8, 14), (14, 1), (14, 2), (14, 3), (14, 4), (3, 3), (24, 19), (24, 20), (24, 21), (24, 22), (3, 0), (17, 14), (17, 15), (17, 16), (17, 17), (3, 4), (3, 5), (12, 1), (12, 2), (12, 17), (12, 10), (12, 11), (12, 12), (12, 13), (12, 14), (12, 15), (12, 16), (12, 3), (12, 4), (12, 5), (2, 19), (2, 20), (14, 9), (14, 10), (14, 11), (14, 12), (13, 15), (13, 16), (13, 17), (14, 5), (14, 6), (14, 7), (14, 8), (17, 18), (17, 19), (17, 20), (17, 21), (36, 0), (36, 1), (36, 2), (36, 3), (36, 4), (36, 5), (36, 6), (36, 7), (36, 8), (36, 9), (36, 10), (36, 11), (36, 12), (36, 13), (36, 14), (36, 15), (36, 16), (36, 17), (36, 18), (36, 19), (36, 20), (36, 21), (36, 22), (36, 23), (36, 24), (36, 25), (36, 26), (36, 27), (36, 28), (36, 29), (36, 30), (36, 31)] rfl (by decide +kernel)
set_option maxRecDepth 20000 in
theorem gL_law_X6_lost : GoodIn wsL_law (wsV RL 96 RX6 yX6_lost wsX6_lost) := goodIn_app (goodIn_of _ (by decide +kernel)) ggL_law_X6_lost
set_option maxRecDepth 20000 in
theorem ggL_law_X5_harmsLeast : GoodIn wsL_law wsX5_harmsLeast := goodIn_rr rowsL rowsL_in _ [(25, 2), (1, 1), (0, 20), (0, 16), (25, 3), (3, 14), (3, 15), (0, 2), (3, 16), (3, 22), (3, 23), (4, 0), (4, 1), (4, 2), (4, 3), (4, 4), (4, 5), (1, 3), (16, 19), (16, 20), (16, 21), (16, 22), (1, 12), (16, 23), (17, 0), (17, 1), (17, 2), (15, 1), (17, 3), (17, 4), (17, 5), (17, 6), (11, 12), (11, 2), (11, 3), (0, 19), (11, 4), (2, 1), (2, 2), (13, 1), (13, 2), (13, 3), (1, 5), (13, 4), (2, 8), (13, 5), (13, 6), (13, 7), (11, 6), (11, 7), (11, 8), (11, 9), (11, 10), (11, 11), (13, 8), (13, 9), (13, 10), (13, 11), (13, 12), (13, 13), (2, 9), (13, 14), (13, 15), (13, 16), (13, 17), (17, 7), (17, 8), (17, 9), (24, 11), (24, 12), (24, 13), (24, 14), (35, 0), (35, 1), (35, 2), (35, 3), (35, 4), (35, 5), (35, 6), (35, 7), (35, 8), (35, 9), (35, 10), (35, 11), (35, 12), (37, 0), (37, 1), (37, 2), (38, 0), (38, 1), (38, 2), (38, 3), (38, 4), (39, 0), (39, 1)] rfl (by decide +kernel)
set_option maxRecDepth 20000 in
theorem gL_law_X5_harmsLeast : GoodIn wsL_law (wsV RL 97 RX5 yX5_harmsLeast wsX5_harmsLeast) := goodIn_app (goodIn_of _ (by decide +kernel)) ggL_law_X5_harmsLeast
set_option maxRecDepth 20000 in
theorem ggL_law_X6_harmsLeast : GoodIn wsL_law wsX6_harmsLeast := goodIn_rr rowsL rowsL_in _ [(25, 7), (8, 14), (8, 2), (8, 3), (0, 5), (8, 4), (8, 5), (8, 6), (8, 7), (14, 1), (14, 2), (14, 3), (14, 4), (3, 3), (24, 19), (24, 20), (24, 21), (24, 22), (3, 0), (17, 14), (17, 15), (17, 16), (17, 17), (3, 4), (3, 5), (12, 1), (12, 2), (12, 17), (12, 10), (12, 11), (12, 12), (12, 13), (12, 14), (12, 15), (12, 16), (12, 3), (12, 4), (12, 5), (2, 19), (2, 20), (14, 9), (14, 10), (14, 11), (14, 12), (13, 15), (13, 16), (13, 17), (14, 5), (14, 6), (14, 7), (14, 8), (17, 18), (17, 19), (17, 20), (17, 21), (36, 0), (36, 1), (36, 2), (36, 3), (36, 4), (36, 5), (36, 6), (36, 7), (36, 8), (36, 9), (36, 10), (36, 11), (36, 12), (36, 13), (36, 14), (36, 15), (36, 16), (36, 17), (36, 18), (36, 19), (36, 20), (36, 21), (36, 22), (36, 23), (36, 24), (36, 25), (36, 26), (36, 27), (36, 28), (36, 29), (36, 30), (36, 31)] rfl (by decide +kernel)
set_option maxRecDepth 20000 in
theorem gL_law_X6_harmsLeast : GoodIn wsL_law (wsV RL 100 RX6 yX6_harmsLeast wsX6_harmsLeast) := goodIn_app (goodIn_of _ (by decide +kernel)) ggL_law_X6_harmsLeast
set_option maxRecDepth 20000 in
theorem ggL_law_X5_trials : GoodIn wsL_law wsX5_trials := goodIn_rr rowsL rowsL_in _ [(25, 11), (0, 16), (19, 14), (11, 6), (11, 7), (11, 8), (11, 9), (11, 10), (11, 11), (20, 18), (20, 19), (20, 20), (0, 15), (20, 21), (20, 22), (19, 3), (19, 4), (19, 5), (4, 21), (35, 0), (35, 1), (35, 2), (35, 3), (35, 4), (35, 5), (35, 6), (35, 7), (35, 8), (35, 9), (35, 10), (35, 11), (35, 12), (37, 0), (37, 1), (37, 2)] rfl (by decide +kernel)
set_option maxRecDepth 20000 in
theorem gL_law_X5_trials : GoodIn wsL_law (wsV RL 101 RX5 yX5_trials wsX5_trials) := goodIn_app (goodIn_of _ (by decide +kernel)) ggL_law_X5_trials
set_option maxRecDepth 20000 in
theorem ggL_law_X6_trials : GoodIn wsL_law wsX6_trials := goodIn_rr rowsL rowsL_in _ [(25, 15), (8, 14), (20, 3), (20, 4), (0, 5), (20, 5), (12, 10), (12, 11), (12, 12), (36, 0), (36, 1), (36, 2), (36, 3), (36, 4), (36, 5), (36, 6), (36, 7), (36, 8), (36, 9), (36, 10), (36, 11), (36, 12), (36, 13), (36, 14), (36, 15), (36, 16), (36, 17), (36, 18), (36, 19), (36, 20), (36, 21), (36, 22), (36, 23), (36, 24), (36, 25), (36, 26), (36, 27), (36, 28), (36, 29), (36, 30), (36, 31)] rfl (by decide +kernel)
set_option maxRecDepth 20000 in
theorem gL_law_X6_trials : GoodIn wsL_law (wsV RL 104 RX6 yX6_trials wsX6_trials) := goodIn_app (goodIn_of _ (by decide +kernel)) ggL_law_X6_trials
set_option maxRecDepth 20000 in
theorem ggL_law_X5_found : GoodIn wsL_law wsX5_found := goodIn_rr rowsL rowsL_in _ [(25, 19), (3, 14), (3, 15), (0, 2), (3, 16), (3, 17), (3, 18), (3, 19), (3, 20), (1, 3), (3, 21), (3, 22), (3, 23), (4, 0), (4, 1), (4, 2), (4, 3), (4, 4), (4, 5), (1, 1), (25, 20), (25, 21), (25, 22), (18, 14), (25, 23), (26, 0), (26, 1), (35, 0), (35, 1), (35, 2), (35, 3), (35, 4), (35, 5), (35, 6), (35, 7), (35, 8), (35, 9), (35, 10), (35, 11), (35, 12), (41, 0), (41, 1)] rfl (by decide +kernel)
set_option maxRecDepth 20000 in
theorem gL_law_X5_found : GoodIn wsL_law (wsV RL 105 RX5 yX5_found wsX5_found) := goodIn_app (goodIn_of _ (by decide +kernel)) ggL_law_X5_found
set_option maxRecDepth 20000 in
theorem ggL_law_X6_found : GoodIn wsL_law wsX6_found := goodIn_rr rowsL rowsL_in _ [(26, 5), (3, 3), (3, 6), (3, 7), (3, 8), (8, 2), (8, 3), (0, 5), (8, 4), (8, 5), (8, 6), (8, 7), (12, 10), (12, 11), (12, 12), (36, 0), (36, 1), (36, 2), (36, 3), (36, 4), (36, 5), (36, 6), (36, 7), (36, 8), (36, 9), (36, 10), (36, 11), (36, 12), (36, 13), (36, 14), (36, 15), (36, 16), (36, 17), (36, 18), (36, 19), (36, 20), (36, 21), (36, 22), (36, 23), (36, 24), (36, 25), (36, 26), (36, 27), (36, 28), (36, 29), (36, 30), (36, 31)] rfl (by decide +kernel)
set_option maxRecDepth 20000 in
theorem gL_law_X6_found : GoodIn wsL_law (wsV RL 108 RX6 yX6_found wsX6_found) := goodIn_app (goodIn_of _ (by decide +kernel)) ggL_law_X6_found
set_option maxRecDepth 20000 in
theorem ggL_law_X5_twice : GoodIn wsL_law wsX5_twice := goodIn_rr rowsL rowsL_in _ [(26, 9), (12, 23)] rfl (by decide +kernel)
set_option maxRecDepth 20000 in
theorem gL_law_X5_twice : GoodIn wsL_law (wsV RL 109 RX5 yX5_twice wsX5_twice) := goodIn_app (goodIn_of _ (by decide +kernel)) ggL_law_X5_twice
set_option maxRecDepth 20000 in
theorem ggL_law_X6_twice : GoodIn wsL_law wsX6_twice := goodIn_rr rowsL rowsL_in _ [(26, 13), (13, 23), (8, 5), (8, 6), (0, 5), (8, 7)] rfl (by decide +kernel)
set_option maxRecDepth 20000 in
theorem gL_law_X6_twice : GoodIn wsL_law (wsV RL 112 RX6 yX6_twice wsX6_twice) := goodIn_app (goodIn_of _ (by decide +kernel)) ggL_law_X6_twice
set_option maxRecDepth 20000 in
theorem ggL_law_X5_customers : GoodIn wsL_law wsX5_customers := goodIn_rr rowsL rowsL_in _ [(26, 17), (0, 20), (15, 1), (1, 6), (1, 14), (17, 7), (17, 8), (0, 2), (17, 9), (26, 18), (26, 19), (26, 20), (26, 21), (15, 5), (15, 6), (15, 7), (1, 5), (15, 8), (15, 9), (13, 2), (13, 3), (13, 4), (2, 8), (13, 5), (13, 6), (13, 7), (11, 6), (11, 7), (11, 8), (11, 9), (11, 10), (11, 11), (15, 10), (13, 9), (13, 10), (13, 11), (13, 12), (13, 13), (2, 9), (13, 14), (13, 15), (13, 16), (13, 17), (11, 12), (11, 2), (11, 3), (0, 19), (11, 4), (2, 1), (2, 2), (35, 0), (35, 1), (35, 2), (35, 3), (35, 4), (35, 5), (35, 6), (35, 7), (35, 8), (35, 9), (35, 10), (35, 11), (35, 12), (38, 0), (38, 1), (38, 2), (38, 3), (38, 4), (39, 0), (39, 1)] rfl (by decide +kernel)
set_option maxRecDepth 20000 in
theorem gL_law_X5_customers : GoodIn wsL_law (wsV RL 113 RX5 yX5_customers wsX5_customers) := goodIn_app (goodIn_of _ (by decide +kernel)) ggL_law_X5_customers
set_option maxRecDepth 20000 in
theorem ggL_law_X6_customers : GoodIn wsL_law wsX6_customers := goodIn_rr rowsL rowsL_in _ [(27, 1), (8, 14), (12, 1), (12, 2), (12, 17), (8, 5), (8, 6), (0, 5), (8, 7), (12, 10), (12, 11), (12, 12), (12, 13), (12, 14), (12, 15), (12, 16), (12, 3), (12, 4), (12, 5), (2, 19), (2, 20), (36, 0), (36, 1), (36, 2), (36, 3), (36, 4), (36, 5), (36, 6), (36, 7), (36, 8), (36, 9), (36, 10), (36, 11), (36, 12), (36, 13), (36, 14), (36, 15), (36, 16), (36, 17), (36, 18), (36, 19), (36, 20), (36, 21), (36, 22), (36, 23), (36, 24), (36, 25), (36, 26), (36, 27), (36, 28), (36, 29), (36, 30), (36, 31)] rfl (by decide +kernel)
set_option maxRecDepth 20000 in
theorem gL_law_X6_customers : GoodIn wsL_law (wsV RL 116 RX6 yX6_customers wsX6_customers) := goodIn_app (goodIn_of _ (by decide +kernel)) ggL_law_X6_customers
set_option maxRecDepth 20000 in
theorem ggL_law_X5_unknown : GoodIn wsL_law wsX5_unknown := goodIn_rr rowsL rowsL_in _ [(27, 5), (0, 16), (10, 2), (6, 19), (6, 20), (0, 15), (6, 21), (4, 21), (3, 14), (3, 15), (0, 2), (3, 16), (3, 17), (3, 18), (3, 19), (3, 20), (1, 3), (3, 21), (3, 22), (3, 23), (4, 0), (4, 1), (4, 2), (4, 3), (4, 4), (4, 5), (1, 1), (27, 6), (27, 7), (27, 8), (27, 9), (18, 14), (0, 20), (10, 17), (10, 18), (10, 19), (0, 19), (10, 20), (2, 3), (27, 10), (27, 11), (27, 12), (27, 13), (10, 0), (1, 6), (27, 14), (27, 15), (27, 16), (27, 17), (2, 1), (2, 2), (13, 8), (13, 9), (13, 10), (1, 5), (13, 11), (13, 12), (13, 13), (2, 9), (2, 8), (13, 14), (13, 15), (13, 16), (13, 17), (13, 5), (35, 0), (35, 1), (35, 2), (35, 3), (35, 4), (35, 5), (35, 6), (35, 7), (35, 8), (35, 9), (35, 10), (35, 11), (35, 12), (37, 0), (37, 1), (37, 2), (41, 0), (41, 1), (38, 0), (38, 1), (38, 2), (38, 3), (38, 4), (39, 0), (39, 1)] rfl (by decide +kernel)
set_option maxRecDepth 20000 in
theorem gL_law_X5_unknown : GoodIn wsL_law (wsV RL 117 RX5 yX5_unknown wsX5_unknown) := goodIn_app (goodIn_of _ (by decide +kernel)) ggL_law_X5_unknown
set_option maxRecDepth 20000 in
theorem ggL_law_X6_unknown : GoodIn wsL_law wsX6_unknown := goodIn_rr rowsL rowsL_in _ [(27, 21), (3, 3), (3, 6), (3, 7), (3, 8), (2, 19), (12, 1), (12, 2), (10, 7), (10, 8), (10, 9), (0, 5), (10, 10), (8, 14), (8, 5), (8, 6), (8, 7), (8, 2), (8, 3), (8, 4), (12, 6), (12, 7), (12, 8), (12, 9), (12, 10), (12, 11), (12, 12), (12, 13), (12, 14), (12, 15), (12, 16), (12, 3), (12, 4), (12, 5), (12, 17), (2, 20), (36, 0), (36, 1), (36, 2), (36, 3), (36, 4), (36, 5), (36, 6), (36, 7), (36, 8), (36, 9), (36, 10), (36, 11), (36, 12), (36, 13), (36, 14), (36, 15), (36, 16), (36, 17), (36, 18), (36, 19), (36, 20), (36, 21), (36, 22), (36, 23), (36, 24), (36, 25), (36, 26), (36, 27), (36, 28), (36, 29), (36, 30), (36, 31)] rfl (by decide +kernel)
set_option maxRecDepth 20000 in
theorem gL_law_X6_unknown : GoodIn wsL_law (wsV RL 120 RX6 yX6_unknown wsX6_unknown) := goodIn_app (goodIn_of _ (by decide +kernel)) ggL_law_X6_unknown
set_option maxRecDepth 20000 in
theorem ggL_law_X5_seeded : GoodIn wsL_law wsX5_seeded := goodIn_rr rowsL rowsL_in _ [(28, 1), (1, 1), (0, 22), (25, 3), (28, 2), (28, 3), (28, 4), (0, 23), (3, 14), (3, 15), (0, 2), (3, 16), (3, 22), (3, 23), (4, 0), (4, 1), (4, 2), (4, 3), (4, 4), (4, 5), (1, 3), (28, 5), (6, 5), (6, 6), (0, 15), (6, 7), (4, 21), (1, 18), (1, 19), (6, 8), (6, 9), (6, 10), (6, 11), (6, 12), (6, 13), (7, 6), (7, 7), (7, 8), (0, 19), (7, 9), (2, 3), (7, 10), (7, 11), (7, 12), (7, 13), (7, 14), (7, 15), (1, 23), (2, 0), (2, 1), (2, 2), (7, 16), (7, 17), (7, 18), (7, 19), (16, 19), (16, 20), (16, 21), (16, 22), (1, 12), (16, 23), (17, 0), (17, 1), (17, 2), (15, 1), (17, 3), (17, 4), (17, 5), (17, 6), (11, 12), (11, 2), (11, 3), (11, 4), (13, 1), (13, 2), (13, 3), (1, 5), (13, 4), (2, 8), (13, 5), (13, 6), (13, 7), (11, 6), (11, 7), (11, 8), (11, 9), (11, 10), (11, 11), (13, 8), (13, 9), (13, 10), (13, 11), (13, 12), (13, 13), (2, 9), (13, 14), (13, 15), (13, 16), (13, 17), (17, 7), (17, 8), (17, 9), (35, 0), (35, 1), (35, 2), (35, 3), (35, 4), (35, 5), (35, 6), (35, 7), (35, 8), (35, 9), (35, 10), (35, 11), (35, 12), (37, 0), (37, 1), (37, 2), (38, 0), (38, 1), (38, 2), (38, 3), (38, 4), (39, 0), (39, 1)] rfl (by decide +kernel)
set_option maxRecDepth 20000 in
theorem gL_law_X5_seeded : GoodIn wsL_law (wsV RL 121 RX5 yX5_seeded wsX5_seeded) := goodIn_app (goodIn_of _ (by decide +kernel)) ggL_law_X5_seeded
set_option maxRecDepth 20000 in
theorem ggL_law_X6_seeded : GoodIn wsL_law wsX6_seeded := goodIn_rr rowsL rowsL_in _ [(28, 9), (8, 14), (2, 19), (3, 2), (28, 10), (28, 11), (28, 12), (8, 2), (8, 3), (0, 5), (8, 4), (8, 5), (8, 6), (8, 7), (14, 1), (14, 2), (14, 3), (14, 4), (3, 3), (28, 13), (28, 14), (28, 15), (17, 14), (17, 15), (17, 16), (17, 17), (3, 0), (3, 4), (3, 5), (12, 1), (12, 2), (12, 17), (12, 10), (12, 11), (12, 12), (12, 13), (12, 14), (12, 15), (12, 16), (12, 3), (12, 4), (12, 5), (2, 20), (14, 9), (14, 10), (14, 11), (14, 12), (13, 15), (13, 16), (13, 17), (14, 5), (14, 6), (14, 7), (14, 8), (17, 18), (17, 19), (17, 20), (17, 21), (36, 0), (36, 1), (36, 2), (36, 3), (36, 4), (36, 5), (36, 6), (36, 7), (36, 8), (36, 9), (36, 10), (36, 11), (36, 12), (36, 13), (36, 14), (36, 15), (36, 16), (36, 17), (36, 18), (36, 19), (36, 20), (36, 21), (36, 22), (36, 23), (36, 24), (36, 25), (36, 26), (36, 27), (36, 28), (36, 29), (36, 30), (36, 31)] rfl (by decide +kernel)
set_option maxRecDepth 20000 in
theorem gL_law_X6_seeded : GoodIn wsL_law (wsV RL 124 RX6 yX6_seeded wsX6_seeded) := goodIn_app (goodIn_of _ (by decide +kernel)) ggL_law_X6_seeded
set_option maxRecDepth 20000 in
theorem ggL_law_X5_judge : GoodIn wsL_law wsX5_judge := goodIn_rr rowsL rowsL_in _ [(28, 19), (1, 1), (1, 3), (18, 14), (0, 20), (3, 14), (3, 15), (0, 2), (3, 16), (3, 22), (3, 23), (4, 0), (4, 1), (4, 2), (4, 3), (4, 4), (4, 5), (10, 17), (10, 18), (10, 19), (0, 19), (10, 20), (2, 3), (15, 5), (15, 6), (15, 7), (1, 5), (15, 8), (15, 9), (13, 2), (13, 3), (13, 4), (2, 8), (13, 5), (13, 6), (13, 7), (11, 6), (11, 7), (11, 8), (11, 9), (11, 10), (11, 11), (15, 10), (13, 9), (13, 10), (13, 11), (13, 12), (13, 13), (2, 9), (13, 14), (13, 15), (13, 16), (13, 17), (35, 0), (35, 1), (35, 2), (35, 3), (35, 4), (35, 5), (35, 6), (35, 7), (35, 8), (35, 9), (35, 10), (35, 11), (35, 12), (41, 0), (41, 1), (38, 0), (38, 1), (38, 2), (38, 3), (38, 4), (39, 0), (39, 1)] rfl (by decide +kernel)
set_option maxRecDepth 20000 in
theorem gL_law_X5_judge : GoodIn wsL_law (wsV RL 125 RX5 yX5_judge wsX5_judge) := goodIn_app (goodIn_of _ (by decide +kernel)) ggL_law_X5_judge
set_option maxRecDepth 20000 in
theorem ggL_law_X6_judge : GoodIn wsL_law wsX6_judge := goodIn_rr rowsL rowsL_in _ [(28, 23), (3, 3), (3, 7), (3, 8), (8, 2), (8, 3), (0, 5), (8, 4), (8, 5), (8, 6), (8, 7), (14, 1), (14, 2), (14, 3), (14, 4), (12, 6), (12, 7), (12, 8), (12, 9), (8, 14), (12, 10), (12, 11), (12, 12), (15, 15), (15, 16), (15, 17), (15, 18), (3, 4), (3, 5), (12, 1), (12, 2), (12, 13), (12, 14), (12, 15), (12, 16), (12, 3), (12, 4), (12, 5), (12, 17), (2, 19), (2, 20), (14, 5), (14, 6), (14, 7), (14, 8), (14, 9), (14, 10), (14, 11), (14, 12), (13, 15), (13, 16), (13, 17), (36, 0), (36, 1), (36, 2), (36, 3), (36, 4), (36, 5), (36, 6), (36, 7), (36, 8), (36, 9), (36, 10), (36, 11), (36, 12), (36, 13), (36, 14), (36, 15), (36, 16), (36, 17), (36, 18), (36, 19), (36, 20), (36, 21), (36, 22), (36, 23), (36, 24), (36, 25), (36, 26), (36, 27), (36, 28), (36, 29), (36, 30), (36, 31)] rfl (by decide +kernel)
set_option maxRecDepth 20000 in
theorem gL_law_X6_judge : GoodIn wsL_law (wsV RL 128 RX6 yX6_judge wsX6_judge) := goodIn_app (goodIn_of _ (by decide +kernel)) ggL_law_X6_judge
set_option maxRecDepth 20000 in
theorem ggL_law_X5_image : GoodIn wsL_law wsX5_image := goodIn_rr rowsL rowsL_in _ [(29, 3), (0, 21), (0, 16), (29, 4), (25, 3), (29, 5), (4, 14), (4, 15), (0, 15), (4, 16), (1, 18), (4, 17), (4, 18), (4, 19), (4, 20), (1, 19), (4, 21), (35, 0), (35, 1), (35, 2), (35, 3), (35, 4), (35, 5), (35, 6), (35, 7), (35, 8), (35, 9), (35, 10), (35, 11), (35, 12), (37, 0), (37, 1), (37, 2)] rfl (by decide +kernel)
set_option maxRecDepth 20000 in
theorem gL_law_X5_image : GoodIn wsL_law (wsV RL 129 RX5 yX5_image wsX5_image) := goodIn_app (goodIn_of _ (by decide +kernel)) ggL_law_X5_image
set_option maxRecDepth 20000 in
theorem ggL_law_X6_image : GoodIn wsL_law wsX6_image := goodIn_rr rowsL rowsL_in _ [(29, 9), (29, 10), (8, 14), (29, 11), (2, 19), (2, 21), (2, 20), (2, 22), (28, 13), (28, 14), (0, 5), (28, 15), (36, 0), (36, 1), (36, 2), (36, 3), (36, 4), (36, 5), (36, 6), (36, 7), (36, 8), (36, 9), (36, 10), (36, 11), (36, 12), (36, 13), (36, 14), (36, 15), (36, 16), (36, 17), (36, 18), (36, 19), (36, 20), (36, 21), (36, 22), (36, 23), (36, 24), (36, 25), (36, 26), (36, 27), (36, 28), (36, 29), (36, 30), (36, 31)] rfl (by decide +kernel)
set_option maxRecDepth 20000 in
theorem gL_law_X6_image : GoodIn wsL_law (wsV RL 133 RX6 yX6_image wsX6_image) := goodIn_app (goodIn_of _ (by decide +kernel)) ggL_law_X6_image
set_option maxRecDepth 20000 in
theorem ggL_law_X5_restore : GoodIn wsL_law wsX5_restore := goodIn_rr rowsL rowsL_in _ [(29, 15), (29, 4), (0, 16), (0, 21), (0, 20), (25, 3), (29, 5), (4, 14), (4, 15), (0, 15), (4, 16), (1, 18), (4, 17), (4, 18), (4, 19), (4, 20), (1, 19), (4, 21), (7, 6), (7, 7), (7, 8), (0, 19), (7, 9), (2, 3), (7, 10), (7, 11), (7, 12), (7, 13), (7, 14), (7, 15), (1, 23), (2, 0), (2, 1), (2, 2), (7, 16), (7, 17), (7, 18), (7, 19), (35, 0), (35, 1), (35, 2), (35, 3), (35, 4), (35, 5), (35, 6), (35, 7), (35, 8), (35, 9), (35, 10), (35, 11), (35, 12), (37, 0), (37, 1), (37, 2), (38, 0), (38, 1), (38, 2), (38, 3), (38, 4)] rfl (by decide +kernel)
set_option maxRecDepth 20000 in
theorem gL_law_X5_restore : GoodIn wsL_law (wsV RL 134 RX5 yX5_restore wsX5_restore) := goodIn_app (goodIn_of _ (by decide +kernel)) ggL_law_X5_restore
set_option maxRecDepth 20000 in
theorem ggL_law_X6_restore : GoodIn wsL_law wsX6_restore := goodIn_rr rowsL rowsL_in _ [(29, 19), (29, 10), (29, 11), (8, 14), (2, 21), (2, 19), (2, 22), (2, 20), (28, 13), (28, 14), (0, 5), (28, 15), (36, 0), (36, 1), (36, 2), (36, 3), (36, 4), (36, 5), (36, 6), (36, 7), (36, 8), (36, 9), (36, 10), (36, 11), (36, 12), (36, 13), (36, 14), (36, 15), (36, 16), (36, 17), (36, 18), (36, 19), (36, 20), (36, 21), (36, 22), (36, 23), (36, 24), (36, 25), (36, 26), (36, 27), (36, 28), (36, 29), (36, 30), (36, 31)] rfl (by decide +kernel)
set_option maxRecDepth 20000 in
theorem gL_law_X6_restore : GoodIn wsL_law (wsV RL 137 RX6 yX6_restore wsX6_restore) := goodIn_app (goodIn_of _ (by decide +kernel)) ggL_law_X6_restore
set_option maxRecDepth 20000 in
theorem ggL_law_X5_count : GoodIn wsL_law wsX5_count := goodIn_rr rowsL rowsL_in _ [(29, 23), (0, 16), (25, 3), (0, 20), (15, 1), (19, 2), (19, 3), (19, 4), (0, 15), (19, 5), (4, 21), (30, 0), (30, 1), (30, 2), (30, 3), (1, 18), (11, 17), (11, 18), (11, 19), (11, 20), (11, 13), (11, 14), (11, 15), (11, 16), (1, 19), (35, 0), (35, 1), (35, 2), (35, 3), (35, 4), (35, 5), (35, 6), (35, 7), (35, 8), (35, 9), (35, 10), (35, 11), (35, 12), (37, 0), (37, 1), (37, 2), (38, 0), (38, 1), (38, 2), (38, 3), (38, 4)] rfl (by decide +kernel)
set_option maxRecDepth 20000 in
theorem gL_law_X5_count : GoodIn wsL_law (wsV RL 138 RX5 yX5_count wsX5_count) := goodIn_app (goodIn_of _ (by decide +kernel)) ggL_law_X5_count
set_option maxRecDepth 20000 in
theorem ggL_law_X6_count : GoodIn wsL_law wsX6_count := goodIn_rr rowsL rowsL_in _ [(30, 7), (8, 14), (2, 19), (20, 6), (20, 7), (20, 8), (0, 5), (20, 9), (2, 20), (12, 10), (12, 11), (12, 12), (36, 0), (36, 1), (36, 2), (36, 3), (36, 4), (36, 5), (36, 6), (36, 7), (36, 8), (36, 9), (36, 10), (36, 11), (36, 12), (36, 13), (36, 14), (36, 15), (36, 16), (36, 17), (36, 18), (36, 19), (36, 20), (36, 21), (36, 22), (36, 23), (36, 24), (36, 25), (36, 26), (36, 27), (36, 28), (36, 29), (36, 30), (36, 31)] rfl (by decide +kernel)
set_option maxRecDepth 20000 in
theorem gL_law_X6_count : GoodIn wsL_law (wsV RL 141 RX6 yX6_count wsX6_count) := goodIn_app (goodIn_of _ (by decide +kernel)) ggL_law_X6_count
set_option maxRecDepth 20000 in
theorem ggL_law_X5_keep : GoodIn wsL_law wsX5_keep := goodIn_rr rowsL rowsL_in _ [(30, 11), (1, 1), (1, 0), (1, 4), (1, 5), (1, 3), (3, 14), (3, 15), (0, 2), (3, 16), (2, 4), (2, 5), (2, 6), (2, 7), (0, 11), (0, 12), (2, 8), (2, 9), (35, 0), (35, 1), (35, 2), (35, 3), (35, 4), (35, 5), (35, 6), (35, 7), (35, 8), (35, 9), (35, 10), (35, 11), (35, 12), (39, 0), (39, 1)] rfl (by decide +kernel)
set_option maxRecDepth 20000 in
theorem gL_law_X5_keep : GoodIn wsL_law (wsV RL 142 RX5 yX5_keep wsX5_keep) := goodIn_app (goodIn_of _ (by decide +kernel)) ggL_law_X5_keep
set_option maxRecDepth 20000 in
theorem ggL_law_X6_keep : GoodIn wsL_law wsX6_keep := goodIn_rr rowsL rowsL_in _ [(30, 15), (3, 3), (3, 4), (3, 5), (8, 2), (8, 3), (0, 5), (8, 4), (8, 5), (8, 6), (8, 7), (36, 0), (36, 1), (36, 2), (36, 3), (36, 4), (36, 5), (36, 6), (36, 7), (36, 8), (36, 9), (36, 10), (36, 11), (36, 12), (36, 13), (36, 14), (36, 15), (36, 16), (36, 17), (36, 18), (36, 19), (36, 20), (36, 21), (36, 22), (36, 23), (36, 24), (36, 25), (36, 26), (36, 27), (36, 28), (36, 29), (36, 30), (36, 31)] rfl (by decide +kernel)
set_option maxRecDepth 20000 in
theorem gL_law_X6_keep : GoodIn wsL_law (wsV RL 145 RX6 yX6_keep wsX6_keep) := goodIn_app (goodIn_of _ (by decide +kernel)) ggL_law_X6_keep
set_option maxRecDepth 20000 in
theorem ggL_law_X5_row : GoodIn wsL_law wsX5_row := goodIn_rr rowsL rowsL_in _ [(30, 19), (1, 1), (1, 3), (1, 2), (30, 20), (5, 9), (3, 14), (3, 15), (0, 2), (3, 16), (30, 21), (30, 22), (30, 23), (31, 0), (0, 11), (0, 12), (31, 1), (1, 11), (5, 11), (35, 0), (35, 1), (35, 2), (35, 3), (35, 4), (35, 5), (35, 6), (35, 7), (35, 8), (35, 9), (35, 10), (35, 11), (35, 12), (41, 0), (41, 1)] rfl (by decide +kernel)
set_option maxRecDepth 20000 in
theorem gL_law_X5_row : GoodIn wsL_law (wsV RL 146 RX5 yX5_row wsX5_row) := goodIn_app (goodIn_of _ (by decide +kernel)) ggL_law_X5_row
set_option maxRecDepth 20000 in
theorem ggL_law_X6_row : GoodIn wsL_law wsX6_row := goodIn_rr rowsL rowsL_in _ [(31, 5), (3, 3), (3, 6), (3, 7), (3, 8), (8, 2), (8, 3), (0, 5), (8, 4), (8, 5), (8, 6), (8, 7), (36, 0), (36, 1), (36, 2), (36, 3), (36, 4), (36, 5), (36, 6), (36, 7), (36, 8), (36, 9), (36, 10), (36, 11), (36, 12), (36, 13), (36, 14), (36, 15), (36, 16), (36, 17), (36, 18), (36, 19), (36, 20), (36, 21), (36, 22), (36, 23), (36, 24), (36, 25), (36, 26), (36, 27), (36, 28), (36, 29), (36, 30), (36, 31)] rfl (by decide +kernel)
set_option maxRecDepth 20000 in
theorem gL_law_X6_row : GoodIn wsL_law (wsV RL 149 RX6 yX6_row wsX6_row) := goodIn_app (goodIn_of _ (by decide +kernel)) ggL_law_X6_row
set_option maxRecDepth 20000 in
theorem ggL_law_X5_put : GoodIn wsL_law wsX5_put := goodIn_rr rowsL rowsL_in _ [(31, 9), (1, 3), (18, 14), (3, 14), (3, 15), (0, 2), (3, 16), (3, 22), (3, 23), (4, 0), (4, 1), (4, 2), (4, 3), (4, 4), (4, 5), (1, 1), (31, 10), (5, 7), (5, 8), (5, 9), (5, 10), (5, 11), (31, 11), (31, 12), (31, 13), (31, 14), (31, 1), (35, 0), (35, 1), (35, 2), (35, 3), (35, 4), (35, 5), (35, 6), (35, 7), (35, 8), (35, 9), (35, 10), (35, 11), (35, 12), (41, 0), (41, 1)] rfl (by decide +kernel)
set_option maxRecDepth 20000 in
theorem gL_law_X5_put : GoodIn wsL_law (wsV RL 150 RX5 yX5_put wsX5_put) := goodIn_app (goodIn_of _ (by decide +kernel)) ggL_law_X5_put
set_option maxRecDepth 20000 in
theorem ggL_law_X6_put : GoodIn wsL_law wsX6_put := goodIn_rr rowsL rowsL_in _ [(31, 18), (3, 3), (3, 7), (3, 8), (3, 6), (8, 2), (8, 3), (0, 5), (8, 4), (8, 5), (8, 6), (8, 7), (36, 0), (36, 1), (36, 2), (36, 3), (36, 4), (36, 5), (36, 6), (36, 7), (36, 8), (36, 9), (36, 10), (36, 11), (36, 12), (36, 13), (36, 14), (36, 15), (36, 16), (36, 17), (36, 18), (36, 19), (36, 20), (36, 21), (36, 22), (36, 23), (36, 24), (36, 25), (36, 26), (36, 27), (36, 28), (36, 29), (36, 30), (36, 31)] rfl (by decide +kernel)
set_option maxRecDepth 20000 in
theorem gL_law_X6_put : GoodIn wsL_law (wsV RL 153 RX6 yX6_put wsX6_put) := goodIn_app (goodIn_of _ (by decide +kernel)) ggL_law_X6_put
set_option maxRecDepth 20000 in
theorem ggL_law_L_element : GoodIn wsL_law wsL_element := goodIn_ca (goodIn_ca (goodIn_rr rowsL rowsL_in _ [(31, 22), (31, 23), (32, 0), (32, 1), (32, 2), (32, 3), (0, 2), (32, 4), (32, 5), (32, 6), (32, 7), (32, 8), (1, 3), (18, 14), (3, 14), (3, 15), (3, 16), (31, 10), (5, 7), (5, 8), (5, 9), (5, 10), (5, 11), (35, 0), (35, 1), (35, 2), (35, 3), (35, 4), (35, 5), (35, 6), (35, 7), (35, 8), (35, 9), (35, 10), (35, 11), (35, 12), (41, 0), (41, 1)] rfl (by decide +kernel)) (goodIn_sub (fun _ h => List.mem_append_left _ (List.mem_append_left _ (List.mem_append_left _ (List.mem_append_left _ (List.mem_append_right _ h))))) (by decide +kernel))) (goodIn_sub (fun _ h => List.mem_append_left _ (List.mem_append_left _ (List.mem_append_left _ (List.mem_append_right _ h)))) (by decide +kernel))
set_option maxRecDepth 20000 in
theorem gL_law_L_element : GoodIn wsL_law (va_wsS RL 154 yL_element wsL_element) := goodIn_app (goodIn_of _ (by decide +kernel)) ggL_law_L_element
set_option maxRecDepth 20000 in
theorem ggL_law_X6_element : GoodIn wsL_law wsX6_element := goodIn_rr rowsL rowsL_in _ [(32, 12), (3, 3), (3, 7), (32, 13), (3, 8), (8, 2), (8, 3), (0, 5), (8, 4), (8, 5), (8, 6), (8, 7), (36, 0), (36, 1), (36, 2), (36, 3), (36, 4), (36, 5), (36, 6), (36, 7), (36, 8), (36, 9), (36, 10), (36, 11), (36, 12), (36, 13), (36, 14), (36, 15), (36, 16), (36, 17), (36, 18), (36, 19), (36, 20), (36, 21), (36, 22), (36, 23), (36, 24), (36, 25), (36, 26), (36, 27), (36, 28), (36, 29), (36, 30), (36, 31)] rfl (by decide +kernel)
set_option maxRecDepth 20000 in
theorem gL_law_X6_element : GoodIn wsL_law (wsV RL 159 RX6 yX6_element wsX6_element) := goodIn_app (goodIn_of _ (by decide +kernel)) ggL_law_X6_element
set_option maxRecDepth 20000 in
theorem ggL_law_X6_thrown : GoodIn wsL_law wsX6_thrown := goodIn_rr rowsL rowsL_in _ [(32, 17), (32, 13), (36, 0), (36, 1), (36, 2), (36, 3), (36, 4), (36, 5), (36, 6), (36, 7), (36, 8), (36, 9), (36, 10), (36, 11), (36, 12), (36, 13), (36, 14), (36, 15), (36, 16), (36, 17), (36, 18), (36, 19), (36, 20), (36, 21), (36, 22), (36, 23), (36, 24), (36, 25), (36, 26), (36, 27), (36, 28), (36, 29), (36, 30), (36, 31)] rfl (by decide +kernel)
set_option maxRecDepth 20000 in
theorem gL_law_X6_thrown : GoodIn wsL_law (wsV RL 160 RX6 yX6_thrown wsX6_thrown) := goodIn_app (goodIn_of _ (by decide +kernel)) ggL_law_X6_thrown
set_option maxRecDepth 20000 in
theorem ggL_law_X5_copy : GoodIn wsL_law wsX5_copy := goodIn_rr rowsL rowsL_in _ [(32, 21), (1, 3), (3, 21), (18, 14), (32, 22), (4, 18), (4, 19), (4, 20), (3, 14), (3, 15), (0, 2), (3, 16), (4, 2), (4, 3), (4, 4), (4, 5), (1, 1), (32, 23), (33, 0), (33, 1), (5, 9), (33, 2), (5, 11), (35, 0), (35, 1), (35, 2), (35, 3), (35, 4), (35, 5), (35, 6), (35, 7), (35, 8), (35, 9), (35, 10), (35, 11), (35, 12), (41, 0), (41, 1)] rfl (by decide +kernel)
set_option maxRecDepth 20000 in
theorem gL_law_X5_copy : GoodIn wsL_law (wsV RL 163 RX5 yX5_copy wsX5_copy) := goodIn_app (goodIn_of _ (by decide +kernel)) ggL_law_X5_copy
set_option maxRecDepth 20000 in
theorem ggL_law_X6_copy : GoodIn wsL_law wsX6_copy := goodIn_rr rowsL rowsL_in _ [(33, 6), (3, 3), (3, 6), (3, 7), (3, 9), (3, 8), (8, 2), (8, 3), (0, 5), (8, 4), (8, 5), (8, 6), (8, 7), (36, 0), (36, 1), (36, 2), (36, 3), (36, 4), (36, 5), (36, 6), (36, 7), (36, 8), (36, 9), (36, 10), (36, 11), (36, 12), (36, 13), (36, 14), (36, 15), (36, 16), (36, 17), (36, 18), (36, 19), (36, 20), (36, 21), (36, 22), (36, 23), (36, 24), (36, 25), (36, 26), (36, 27), (36, 28), (36, 29), (36, 30), (36, 31)] rfl (by decide +kernel)
set_option maxRecDepth 20000 in
theorem gL_law_X6_copy : GoodIn wsL_law (wsV RL 167 RX6 yX6_copy wsX6_copy) := goodIn_app (goodIn_of _ (by decide +kernel)) ggL_law_X6_copy
set_option maxRecDepth 20000 in
theorem ggL_law_X5_cost : GoodIn wsL_law wsX5_cost := goodIn_rr rowsL rowsL_in _ [(33, 10), (1, 1), (3, 14), (3, 15), (0, 2), (3, 16), (3, 22), (3, 23), (4, 0), (4, 1), (4, 2), (4, 3), (4, 4), (4, 5), (1, 3), (33, 11), (33, 12), (33, 13), (1, 5), (33, 14), (2, 9), (2, 8), (35, 0), (35, 1), (35, 2), (35, 3), (35, 4), (35, 5), (35, 6), (35, 7), (35, 8), (35, 9), (35, 10), (35, 11), (35, 12), (39, 0), (39, 1)] rfl (by decide +kernel)
set_option maxRecDepth 20000 in
theorem gL_law_X5_cost : GoodIn wsL_law (wsV RL 168 RX5 yX5_cost wsX5_cost) := goodIn_app (goodIn_of _ (by decide +kernel)) ggL_law_X5_cost
set_option maxRecDepth 20000 in
theorem ggL_law_X6_cost : GoodIn wsL_law wsX6_cost := goodIn_rr rowsL rowsL_in _ [(33, 18), (8, 2), (8, 3), (0, 5), (8, 4), (8, 5), (8, 6), (8, 7), (14, 1), (14, 2), (14, 3), (14, 4), (3, 3), (33, 19), (33, 20), (33, 21), (33, 22), (3, 5), (3, 4), (36, 0), (36, 1), (36, 2), (36, 3), (36, 4), (36, 5), (36, 6), (36, 7), (36, 8), (36, 9), (36, 10), (36, 11), (36, 12), (36, 13), (36, 14), (36, 15), (36, 16), (36, 17), (36, 18), (36, 19), (36, 20), (36, 21), (36, 22), (36, 23), (36, 24), (36, 25), (36, 26), (36, 27), (36, 28), (36, 29), (36, 30), (36, 31)] rfl (by decide +kernel)
set_option maxRecDepth 20000 in
theorem gL_law_X6_cost : GoodIn wsL_law (wsV RL 171 RX6 yX6_cost wsX6_cost) := goodIn_app (goodIn_of _ (by decide +kernel)) ggL_law_X6_cost
set_option maxRecDepth 20000 in
theorem ggL_law_X5_toss : GoodIn wsL_law wsX5_toss := goodIn_ca (goodIn_ca (goodIn_ca (goodIn_rr rowsL rowsL_in _ [(34, 2), (34, 3), (32, 5), (32, 7), (1, 1), (34, 4), (3, 14), (3, 15), (0, 2), (3, 16), (3, 22), (3, 23), (4, 0), (4, 1), (4, 2), (4, 3), (4, 4), (4, 5), (1, 3), (34, 5), (34, 6), (34, 7), (1, 5), (34, 8), (34, 9), (34, 10), (34, 11), (32, 6), (34, 12), (32, 8), (2, 8), (2, 9), (33, 11), (33, 12), (33, 13), (33, 14), (35, 0), (35, 1), (35, 2), (35, 3), (35, 4), (35, 5), (35, 6), (35, 7), (35, 8), (35, 9), (35, 10), (35, 11), (35, 12), (39, 0), (39, 1)] rfl (by decide +kernel)) (goodIn_sub (fun _ h => List.mem_append_left _ (List.mem_append_left _ (List.mem_append_right _ h))) (by decide +kernel))) (goodIn_sub (fun _ h => List.mem_append_left _ (List.mem_append_right _ h)) (by decide +kernel))) (goodIn_sub (fun _ h => List.mem_append_right _ h) (by decide +kernel))
set_option maxRecDepth 20000 in
theorem gL_law_X5_toss : GoodIn wsL_law (wsV RL 172 RX5 yX5_toss wsX5_toss) := goodIn_app (goodIn_of _ (by decide +kernel)) ggL_law_X5_toss
set_option maxRecDepth 20000 in
theorem ggL_law_X6_toss : GoodIn wsL_law wsX6_toss := goodIn_rr rowsL rowsL_in _ [(34, 16), (3, 5), (3, 4), (8, 2), (8, 3), (0, 5), (8, 4), (8, 5), (8, 6), (8, 7), (14, 1), (14, 2), (14, 3), (14, 4), (3, 3), (33, 19), (33, 20), (33, 21), (33, 22), (36, 0), (36, 1), (36, 2), (36, 3), (36, 4), (36, 5), (36, 6), (36, 7), (36, 8), (36, 9), (36, 10), (36, 11), (36, 12), (36, 13), (36, 14), (36, 15), (36, 16), (36, 17), (36, 18), (36, 19), (36, 20), (36, 21), (36, 22), (36, 23), (36, 24), (36, 25), (36, 26), (36, 27), (36, 28), (36, 29), (36, 30), (36, 31)] rfl (by decide +kernel)
set_option maxRecDepth 20000 in
theorem gL_law_X6_toss : GoodIn wsL_law (wsV RL 175 RX6 yX6_toss wsX6_toss) := goodIn_app (goodIn_of _ (by decide +kernel)) ggL_law_X6_toss
theorem dL_law_0 : decode cL_law 0 = .ok (.new 8, 3) := by decide +kernel
theorem dL_law_3 : decode cL_law 3 = .ok (.dup, 1) := by decide +kernel
theorem dL_law_4 : decode cL_law 4 = .ok (.invokespecial 17, 3) := by decide +kernel
theorem dL_law_7 : decode cL_law 7 = .ok (.astore_n 1, 1) := by decide +kernel
theorem dL_law_8 : decode cL_law 8 = .ok (.new 18, 3) := by decide +kernel
theorem dL_law_11 : decode cL_law 11 = .ok (.dup, 1) := by decide +kernel
theorem dL_law_12 : decode cL_law 12 = .ok (.invokespecial 20, 3) := by decide +kernel
theorem dL_law_15 : decode cL_law 15 = .ok (.astore_n 2, 1) := by decide +kernel
theorem dL_law_16 : decode cL_law 16 = .ok (.iconst 1, 1) := by decide +kernel
theorem dL_law_17 : decode cL_law 17 = .ok (.newarray .long, 2) := by decide +kernel
theorem dL_law_19 : decode cL_law 19 = .ok (.astore_n 3, 1) := by decide +kernel
theorem dL_law_20 : decode cL_law 20 = .ok (.iconst 0, 1) := by decide +kernel
theorem dL_law_21 : decode cL_law 21 = .ok (.istore 4, 2) := by decide +kernel
theorem dL_law_23 : decode cL_law 23 = .ok (.iload 4, 2) := by decide +kernel
theorem dL_law_25 : decode cL_law 25 = .ok (.aload_n 0, 1) := by decide +kernel
theorem dL_law_26 : decode cL_law 26 = .ok (.arraylength, 1) := by decide +kernel
theorem dL_law_27 : decode cL_law 27 = .ok (.bipush 6, 2) := by decide +kernel
theorem dL_law_29 : decode cL_law 29 = .ok (.isub, 1) := by decide +kernel
theorem dL_law_30 : decode cL_law 30 = .ok (.if_icmp .gt 1574, 3) := by decide +kernel
theorem dL_law_33 : decode cL_law 33 = .ok (.aload_n 0, 1) := by decide +kernel
theorem dL_law_34 : decode cL_law 34 = .ok (.iload 4, 2) := by decide +kernel
theorem dL_law_36 : decode cL_law 36 = .ok (.iaload, 1) := by decide +kernel
theorem dL_law_37 : decode cL_law 37 = .ok (.bipush 63, 2) := by decide +kernel
theorem dL_law_39 : decode cL_law 39 = .ok (.iand, 1) := by decide +kernel
theorem dL_law_40 : decode cL_law 40 = .ok (.tableswitch 1558 0 35 #[160, 185, 222, 259, 296, 333, 370, 407, 456, 481, 506, 543, 604, 641, 678, 715, 752, 813, 850, 875, 900, 925, 974, 1023, 1072, 1121, 1158, 1171, 1184, 1209, 1270, 1319, 1368, 1435, 1508, 1533], 160) := by decide +kernel
theorem dL_law_200 : decode cL_law 200 = .ok (.aload_n 1, 1) := by decide +kernel
theorem dL_law_201 : decode cL_law 201 = .ok (.aload_n 0, 1) := by decide +kernel
theorem dL_law_202 : decode cL_law 202 = .ok (.iload 4, 2) := by decide +kernel
theorem dL_law_204 : decode cL_law 204 = .ok (.iconst 1, 1) := by decide +kernel
theorem dL_law_205 : decode cL_law 205 = .ok (.iadd, 1) := by decide +kernel
theorem dL_law_206 : decode cL_law 206 = .ok (.iaload, 1) := by decide +kernel
theorem dL_law_207 : decode cL_law 207 = .ok (.invokevirtual 21, 3) := by decide +kernel
theorem dL_law_210 : decode cL_law 210 = .ok (.aload_n 2, 1) := by decide +kernel
theorem dL_law_211 : decode cL_law 211 = .ok (.aload_n 0, 1) := by decide +kernel
theorem dL_law_212 : decode cL_law 212 = .ok (.iload 4, 2) := by decide +kernel
theorem dL_law_214 : decode cL_law 214 = .ok (.iconst 1, 1) := by decide +kernel
theorem dL_law_215 : decode cL_law 215 = .ok (.iadd, 1) := by decide +kernel
theorem dL_law_216 : decode cL_law 216 = .ok (.iaload, 1) := by decide +kernel
theorem dL_law_217 : decode cL_law 217 = .ok (.invokevirtual 25, 3) := by decide +kernel
theorem dL_law_220 : decode cL_law 220 = .ok (.if_icmp .eq 1378, 3) := by decide +kernel
theorem dL_law_223 : decode cL_law 223 = .ok (.iconst 0, 1) := by decide +kernel
theorem dL_law_224 : decode cL_law 224 = .ok (.ireturn, 1) := by decide +kernel
theorem dL_law_225 : decode cL_law 225 = .ok (.aload_n 1, 1) := by decide +kernel
theorem dL_law_226 : decode cL_law 226 = .ok (.aload_n 0, 1) := by decide +kernel
theorem dL_law_227 : decode cL_law 227 = .ok (.iload 4, 2) := by decide +kernel
theorem dL_law_229 : decode cL_law 229 = .ok (.iconst 1, 1) := by decide +kernel
theorem dL_law_230 : decode cL_law 230 = .ok (.iadd, 1) := by decide +kernel
theorem dL_law_231 : decode cL_law 231 = .ok (.iaload, 1) := by decide +kernel
theorem dL_law_232 : decode cL_law 232 = .ok (.aload_n 0, 1) := by decide +kernel
theorem dL_law_233 : decode cL_law 233 = .ok (.iload 4, 2) := by decide +kernel
theorem dL_law_235 : decode cL_law 235 = .ok (.iconst 2, 1) := by decide +kernel
theorem dL_law_236 : decode cL_law 236 = .ok (.iadd, 1) := by decide +kernel
theorem dL_law_237 : decode cL_law 237 = .ok (.iaload, 1) := by decide +kernel
theorem dL_law_238 : decode cL_law 238 = .ok (.invokevirtual 26, 3) := by decide +kernel
theorem dL_law_241 : decode cL_law 241 = .ok (.aload_n 2, 1) := by decide +kernel
theorem dL_law_242 : decode cL_law 242 = .ok (.aload_n 0, 1) := by decide +kernel
theorem dL_law_243 : decode cL_law 243 = .ok (.iload 4, 2) := by decide +kernel
theorem dL_law_245 : decode cL_law 245 = .ok (.iconst 1, 1) := by decide +kernel
theorem dL_law_246 : decode cL_law 246 = .ok (.iadd, 1) := by decide +kernel
theorem dL_law_247 : decode cL_law 247 = .ok (.iaload, 1) := by decide +kernel
theorem dL_law_248 : decode cL_law 248 = .ok (.aload_n 0, 1) := by decide +kernel
theorem dL_law_249 : decode cL_law 249 = .ok (.iload 4, 2) := by decide +kernel
theorem dL_law_251 : decode cL_law 251 = .ok (.iconst 2, 1) := by decide +kernel
theorem dL_law_252 : decode cL_law 252 = .ok (.iadd, 1) := by decide +kernel
theorem dL_law_253 : decode cL_law 253 = .ok (.iaload, 1) := by decide +kernel
theorem dL_law_254 : decode cL_law 254 = .ok (.invokevirtual 30, 3) := by decide +kernel
theorem dL_law_257 : decode cL_law 257 = .ok (.if_icmp .eq 1341, 3) := by decide +kernel
theorem dL_law_260 : decode cL_law 260 = .ok (.iconst 0, 1) := by decide +kernel
theorem dL_law_261 : decode cL_law 261 = .ok (.ireturn, 1) := by decide +kernel
theorem dL_law_262 : decode cL_law 262 = .ok (.aload_n 1, 1) := by decide +kernel
theorem dL_law_263 : decode cL_law 263 = .ok (.aload_n 0, 1) := by decide +kernel
theorem dL_law_264 : decode cL_law 264 = .ok (.iload 4, 2) := by decide +kernel
theorem dL_law_266 : decode cL_law 266 = .ok (.iconst 1, 1) := by decide +kernel
theorem dL_law_267 : decode cL_law 267 = .ok (.iadd, 1) := by decide +kernel
theorem dL_law_268 : decode cL_law 268 = .ok (.iaload, 1) := by decide +kernel
theorem dL_law_269 : decode cL_law 269 = .ok (.aload_n 0, 1) := by decide +kernel
theorem dL_law_270 : decode cL_law 270 = .ok (.iload 4, 2) := by decide +kernel
theorem dL_law_272 : decode cL_law 272 = .ok (.iconst 2, 1) := by decide +kernel
theorem dL_law_273 : decode cL_law 273 = .ok (.iadd, 1) := by decide +kernel
theorem dL_law_274 : decode cL_law 274 = .ok (.iaload, 1) := by decide +kernel
theorem dL_law_275 : decode cL_law 275 = .ok (.invokevirtual 31, 3) := by decide +kernel
theorem dL_law_278 : decode cL_law 278 = .ok (.aload_n 2, 1) := by decide +kernel
theorem dL_law_279 : decode cL_law 279 = .ok (.aload_n 0, 1) := by decide +kernel
theorem dL_law_280 : decode cL_law 280 = .ok (.iload 4, 2) := by decide +kernel
theorem dL_law_282 : decode cL_law 282 = .ok (.iconst 1, 1) := by decide +kernel
theorem dL_law_283 : decode cL_law 283 = .ok (.iadd, 1) := by decide +kernel
theorem dL_law_284 : decode cL_law 284 = .ok (.iaload, 1) := by decide +kernel
theorem dL_law_285 : decode cL_law 285 = .ok (.aload_n 0, 1) := by decide +kernel
theorem dL_law_286 : decode cL_law 286 = .ok (.iload 4, 2) := by decide +kernel
theorem dL_law_288 : decode cL_law 288 = .ok (.iconst 2, 1) := by decide +kernel
theorem dL_law_289 : decode cL_law 289 = .ok (.iadd, 1) := by decide +kernel
theorem dL_law_290 : decode cL_law 290 = .ok (.iaload, 1) := by decide +kernel
theorem dL_law_291 : decode cL_law 291 = .ok (.invokevirtual 34, 3) := by decide +kernel
theorem dL_law_294 : decode cL_law 294 = .ok (.if_icmp .eq 1304, 3) := by decide +kernel
theorem dL_law_297 : decode cL_law 297 = .ok (.iconst 0, 1) := by decide +kernel
theorem dL_law_298 : decode cL_law 298 = .ok (.ireturn, 1) := by decide +kernel
theorem dL_law_299 : decode cL_law 299 = .ok (.aload_n 1, 1) := by decide +kernel
theorem dL_law_300 : decode cL_law 300 = .ok (.aload_n 0, 1) := by decide +kernel
theorem dL_law_301 : decode cL_law 301 = .ok (.iload 4, 2) := by decide +kernel
theorem dL_law_303 : decode cL_law 303 = .ok (.iconst 1, 1) := by decide +kernel
theorem dL_law_304 : decode cL_law 304 = .ok (.iadd, 1) := by decide +kernel
theorem dL_law_305 : decode cL_law 305 = .ok (.iaload, 1) := by decide +kernel
theorem dL_law_306 : decode cL_law 306 = .ok (.aload_n 0, 1) := by decide +kernel
theorem dL_law_307 : decode cL_law 307 = .ok (.iload 4, 2) := by decide +kernel
theorem dL_law_309 : decode cL_law 309 = .ok (.iconst 2, 1) := by decide +kernel
theorem dL_law_310 : decode cL_law 310 = .ok (.iadd, 1) := by decide +kernel
theorem dL_law_311 : decode cL_law 311 = .ok (.iaload, 1) := by decide +kernel
theorem dL_law_312 : decode cL_law 312 = .ok (.invokevirtual 35, 3) := by decide +kernel
theorem dL_law_315 : decode cL_law 315 = .ok (.aload_n 2, 1) := by decide +kernel
theorem dL_law_316 : decode cL_law 316 = .ok (.aload_n 0, 1) := by decide +kernel
theorem dL_law_317 : decode cL_law 317 = .ok (.iload 4, 2) := by decide +kernel
theorem dL_law_319 : decode cL_law 319 = .ok (.iconst 1, 1) := by decide +kernel
theorem dL_law_320 : decode cL_law 320 = .ok (.iadd, 1) := by decide +kernel
theorem dL_law_321 : decode cL_law 321 = .ok (.iaload, 1) := by decide +kernel
theorem dL_law_322 : decode cL_law 322 = .ok (.aload_n 0, 1) := by decide +kernel
theorem dL_law_323 : decode cL_law 323 = .ok (.iload 4, 2) := by decide +kernel
theorem dL_law_325 : decode cL_law 325 = .ok (.iconst 2, 1) := by decide +kernel
theorem dL_law_326 : decode cL_law 326 = .ok (.iadd, 1) := by decide +kernel
theorem dL_law_327 : decode cL_law 327 = .ok (.iaload, 1) := by decide +kernel
theorem dL_law_328 : decode cL_law 328 = .ok (.invokevirtual 38, 3) := by decide +kernel
theorem dL_law_331 : decode cL_law 331 = .ok (.if_icmp .eq 1267, 3) := by decide +kernel
theorem dL_law_334 : decode cL_law 334 = .ok (.iconst 0, 1) := by decide +kernel
theorem dL_law_335 : decode cL_law 335 = .ok (.ireturn, 1) := by decide +kernel
theorem dL_law_336 : decode cL_law 336 = .ok (.aload_n 1, 1) := by decide +kernel
theorem dL_law_337 : decode cL_law 337 = .ok (.aload_n 0, 1) := by decide +kernel
theorem dL_law_338 : decode cL_law 338 = .ok (.iload 4, 2) := by decide +kernel
theorem dL_law_340 : decode cL_law 340 = .ok (.iconst 1, 1) := by decide +kernel
theorem dL_law_341 : decode cL_law 341 = .ok (.iadd, 1) := by decide +kernel
theorem dL_law_342 : decode cL_law 342 = .ok (.iaload, 1) := by decide +kernel
theorem dL_law_343 : decode cL_law 343 = .ok (.aload_n 0, 1) := by decide +kernel
theorem dL_law_344 : decode cL_law 344 = .ok (.iload 4, 2) := by decide +kernel
theorem dL_law_346 : decode cL_law 346 = .ok (.iconst 2, 1) := by decide +kernel
theorem dL_law_347 : decode cL_law 347 = .ok (.iadd, 1) := by decide +kernel
theorem dL_law_348 : decode cL_law 348 = .ok (.iaload, 1) := by decide +kernel
theorem dL_law_349 : decode cL_law 349 = .ok (.invokevirtual 39, 3) := by decide +kernel
theorem dL_law_352 : decode cL_law 352 = .ok (.aload_n 2, 1) := by decide +kernel
theorem dL_law_353 : decode cL_law 353 = .ok (.aload_n 0, 1) := by decide +kernel
theorem dL_law_354 : decode cL_law 354 = .ok (.iload 4, 2) := by decide +kernel
theorem dL_law_356 : decode cL_law 356 = .ok (.iconst 1, 1) := by decide +kernel
theorem dL_law_357 : decode cL_law 357 = .ok (.iadd, 1) := by decide +kernel
theorem dL_law_358 : decode cL_law 358 = .ok (.iaload, 1) := by decide +kernel
theorem dL_law_359 : decode cL_law 359 = .ok (.aload_n 0, 1) := by decide +kernel
theorem dL_law_360 : decode cL_law 360 = .ok (.iload 4, 2) := by decide +kernel
theorem dL_law_362 : decode cL_law 362 = .ok (.iconst 2, 1) := by decide +kernel
theorem dL_law_363 : decode cL_law 363 = .ok (.iadd, 1) := by decide +kernel
theorem dL_law_364 : decode cL_law 364 = .ok (.iaload, 1) := by decide +kernel
theorem dL_law_365 : decode cL_law 365 = .ok (.invokevirtual 42, 3) := by decide +kernel
theorem dL_law_368 : decode cL_law 368 = .ok (.if_icmp .eq 1230, 3) := by decide +kernel
theorem dL_law_371 : decode cL_law 371 = .ok (.iconst 0, 1) := by decide +kernel
theorem dL_law_372 : decode cL_law 372 = .ok (.ireturn, 1) := by decide +kernel
theorem dL_law_373 : decode cL_law 373 = .ok (.aload_n 1, 1) := by decide +kernel
theorem dL_law_374 : decode cL_law 374 = .ok (.aload_n 0, 1) := by decide +kernel
theorem dL_law_375 : decode cL_law 375 = .ok (.iload 4, 2) := by decide +kernel
theorem dL_law_377 : decode cL_law 377 = .ok (.iconst 1, 1) := by decide +kernel
theorem dL_law_378 : decode cL_law 378 = .ok (.iadd, 1) := by decide +kernel
theorem dL_law_379 : decode cL_law 379 = .ok (.iaload, 1) := by decide +kernel
theorem dL_law_380 : decode cL_law 380 = .ok (.aload_n 0, 1) := by decide +kernel
theorem dL_law_381 : decode cL_law 381 = .ok (.iload 4, 2) := by decide +kernel
theorem dL_law_383 : decode cL_law 383 = .ok (.iconst 2, 1) := by decide +kernel
theorem dL_law_384 : decode cL_law 384 = .ok (.iadd, 1) := by decide +kernel
theorem dL_law_385 : decode cL_law 385 = .ok (.iaload, 1) := by decide +kernel
theorem dL_law_386 : decode cL_law 386 = .ok (.invokevirtual 43, 3) := by decide +kernel
theorem dL_law_389 : decode cL_law 389 = .ok (.aload_n 2, 1) := by decide +kernel
theorem dL_law_390 : decode cL_law 390 = .ok (.aload_n 0, 1) := by decide +kernel
theorem dL_law_391 : decode cL_law 391 = .ok (.iload 4, 2) := by decide +kernel
theorem dL_law_393 : decode cL_law 393 = .ok (.iconst 1, 1) := by decide +kernel
theorem dL_law_394 : decode cL_law 394 = .ok (.iadd, 1) := by decide +kernel
theorem dL_law_395 : decode cL_law 395 = .ok (.iaload, 1) := by decide +kernel
theorem dL_law_396 : decode cL_law 396 = .ok (.aload_n 0, 1) := by decide +kernel
theorem dL_law_397 : decode cL_law 397 = .ok (.iload 4, 2) := by decide +kernel
theorem dL_law_399 : decode cL_law 399 = .ok (.iconst 2, 1) := by decide +kernel
theorem dL_law_400 : decode cL_law 400 = .ok (.iadd, 1) := by decide +kernel
theorem dL_law_401 : decode cL_law 401 = .ok (.iaload, 1) := by decide +kernel
theorem dL_law_402 : decode cL_law 402 = .ok (.invokevirtual 46, 3) := by decide +kernel
theorem dL_law_405 : decode cL_law 405 = .ok (.if_icmp .eq 1193, 3) := by decide +kernel
theorem dL_law_408 : decode cL_law 408 = .ok (.iconst 0, 1) := by decide +kernel
theorem dL_law_409 : decode cL_law 409 = .ok (.ireturn, 1) := by decide +kernel
theorem dL_law_410 : decode cL_law 410 = .ok (.aload_n 1, 1) := by decide +kernel
theorem dL_law_411 : decode cL_law 411 = .ok (.aload_n 0, 1) := by decide +kernel
theorem dL_law_412 : decode cL_law 412 = .ok (.iload 4, 2) := by decide +kernel
theorem dL_law_414 : decode cL_law 414 = .ok (.iconst 1, 1) := by decide +kernel
theorem dL_law_415 : decode cL_law 415 = .ok (.iadd, 1) := by decide +kernel
theorem dL_law_416 : decode cL_law 416 = .ok (.iaload, 1) := by decide +kernel
theorem dL_law_417 : decode cL_law 417 = .ok (.aload_n 0, 1) := by decide +kernel
theorem dL_law_418 : decode cL_law 418 = .ok (.iload 4, 2) := by decide +kernel
theorem dL_law_420 : decode cL_law 420 = .ok (.iconst 2, 1) := by decide +kernel
theorem dL_law_421 : decode cL_law 421 = .ok (.iadd, 1) := by decide +kernel
theorem dL_law_422 : decode cL_law 422 = .ok (.iaload, 1) := by decide +kernel
theorem dL_law_423 : decode cL_law 423 = .ok (.invokevirtual 47, 3) := by decide +kernel
theorem dL_law_426 : decode cL_law 426 = .ok (.aload_n 2, 1) := by decide +kernel
theorem dL_law_427 : decode cL_law 427 = .ok (.aload_n 0, 1) := by decide +kernel
theorem dL_law_428 : decode cL_law 428 = .ok (.iload 4, 2) := by decide +kernel
theorem dL_law_430 : decode cL_law 430 = .ok (.iconst 1, 1) := by decide +kernel
theorem dL_law_431 : decode cL_law 431 = .ok (.iadd, 1) := by decide +kernel
theorem dL_law_432 : decode cL_law 432 = .ok (.iaload, 1) := by decide +kernel
theorem dL_law_433 : decode cL_law 433 = .ok (.aload_n 0, 1) := by decide +kernel
theorem dL_law_434 : decode cL_law 434 = .ok (.iload 4, 2) := by decide +kernel
theorem dL_law_436 : decode cL_law 436 = .ok (.iconst 2, 1) := by decide +kernel
theorem dL_law_437 : decode cL_law 437 = .ok (.iadd, 1) := by decide +kernel
theorem dL_law_438 : decode cL_law 438 = .ok (.iaload, 1) := by decide +kernel
theorem dL_law_439 : decode cL_law 439 = .ok (.invokevirtual 50, 3) := by decide +kernel
theorem dL_law_442 : decode cL_law 442 = .ok (.if_icmp .eq 1156, 3) := by decide +kernel
theorem dL_law_445 : decode cL_law 445 = .ok (.iconst 0, 1) := by decide +kernel
theorem dL_law_446 : decode cL_law 446 = .ok (.ireturn, 1) := by decide +kernel
theorem dL_law_447 : decode cL_law 447 = .ok (.aload_n 1, 1) := by decide +kernel
theorem dL_law_448 : decode cL_law 448 = .ok (.aload_n 0, 1) := by decide +kernel
theorem dL_law_449 : decode cL_law 449 = .ok (.iload 4, 2) := by decide +kernel
theorem dL_law_451 : decode cL_law 451 = .ok (.iconst 1, 1) := by decide +kernel
theorem dL_law_452 : decode cL_law 452 = .ok (.iadd, 1) := by decide +kernel
theorem dL_law_453 : decode cL_law 453 = .ok (.iaload, 1) := by decide +kernel
theorem dL_law_454 : decode cL_law 454 = .ok (.aload_n 0, 1) := by decide +kernel
theorem dL_law_455 : decode cL_law 455 = .ok (.iload 4, 2) := by decide +kernel
theorem dL_law_457 : decode cL_law 457 = .ok (.iconst 2, 1) := by decide +kernel
theorem dL_law_458 : decode cL_law 458 = .ok (.iadd, 1) := by decide +kernel
theorem dL_law_459 : decode cL_law 459 = .ok (.iaload, 1) := by decide +kernel
theorem dL_law_460 : decode cL_law 460 = .ok (.aload_n 0, 1) := by decide +kernel
theorem dL_law_461 : decode cL_law 461 = .ok (.iload 4, 2) := by decide +kernel
theorem dL_law_463 : decode cL_law 463 = .ok (.iconst 3, 1) := by decide +kernel
theorem dL_law_464 : decode cL_law 464 = .ok (.iadd, 1) := by decide +kernel
theorem dL_law_465 : decode cL_law 465 = .ok (.iaload, 1) := by decide +kernel
theorem dL_law_466 : decode cL_law 466 = .ok (.invokevirtual 51, 3) := by decide +kernel
theorem dL_law_469 : decode cL_law 469 = .ok (.aload_n 2, 1) := by decide +kernel
theorem dL_law_470 : decode cL_law 470 = .ok (.aload_n 0, 1) := by decide +kernel
theorem dL_law_471 : decode cL_law 471 = .ok (.iload 4, 2) := by decide +kernel
theorem dL_law_473 : decode cL_law 473 = .ok (.iconst 1, 1) := by decide +kernel
theorem dL_law_474 : decode cL_law 474 = .ok (.iadd, 1) := by decide +kernel
theorem dL_law_475 : decode cL_law 475 = .ok (.iaload, 1) := by decide +kernel
theorem dL_law_476 : decode cL_law 476 = .ok (.aload_n 0, 1) := by decide +kernel
theorem dL_law_477 : decode cL_law 477 = .ok (.iload 4, 2) := by decide +kernel
theorem dL_law_479 : decode cL_law 479 = .ok (.iconst 2, 1) := by decide +kernel
theorem dL_law_480 : decode cL_law 480 = .ok (.iadd, 1) := by decide +kernel
theorem dL_law_481 : decode cL_law 481 = .ok (.iaload, 1) := by decide +kernel
theorem dL_law_482 : decode cL_law 482 = .ok (.aload_n 0, 1) := by decide +kernel
theorem dL_law_483 : decode cL_law 483 = .ok (.iload 4, 2) := by decide +kernel
theorem dL_law_485 : decode cL_law 485 = .ok (.iconst 3, 1) := by decide +kernel
theorem dL_law_486 : decode cL_law 486 = .ok (.iadd, 1) := by decide +kernel
theorem dL_law_487 : decode cL_law 487 = .ok (.iaload, 1) := by decide +kernel
theorem dL_law_488 : decode cL_law 488 = .ok (.invokevirtual 55, 3) := by decide +kernel
theorem dL_law_491 : decode cL_law 491 = .ok (.if_icmp .eq 1107, 3) := by decide +kernel
theorem dL_law_494 : decode cL_law 494 = .ok (.iconst 0, 1) := by decide +kernel
theorem dL_law_495 : decode cL_law 495 = .ok (.ireturn, 1) := by decide +kernel
theorem dL_law_496 : decode cL_law 496 = .ok (.aload_n 1, 1) := by decide +kernel
theorem dL_law_497 : decode cL_law 497 = .ok (.aload_n 0, 1) := by decide +kernel
theorem dL_law_498 : decode cL_law 498 = .ok (.iload 4, 2) := by decide +kernel
theorem dL_law_500 : decode cL_law 500 = .ok (.iconst 1, 1) := by decide +kernel
theorem dL_law_501 : decode cL_law 501 = .ok (.iadd, 1) := by decide +kernel
theorem dL_law_502 : decode cL_law 502 = .ok (.iaload, 1) := by decide +kernel
theorem dL_law_503 : decode cL_law 503 = .ok (.invokevirtual 56, 3) := by decide +kernel
theorem dL_law_506 : decode cL_law 506 = .ok (.aload_n 2, 1) := by decide +kernel
theorem dL_law_507 : decode cL_law 507 = .ok (.aload_n 0, 1) := by decide +kernel
theorem dL_law_508 : decode cL_law 508 = .ok (.iload 4, 2) := by decide +kernel
theorem dL_law_510 : decode cL_law 510 = .ok (.iconst 1, 1) := by decide +kernel
theorem dL_law_511 : decode cL_law 511 = .ok (.iadd, 1) := by decide +kernel
theorem dL_law_512 : decode cL_law 512 = .ok (.iaload, 1) := by decide +kernel
theorem dL_law_513 : decode cL_law 513 = .ok (.invokevirtual 59, 3) := by decide +kernel
theorem dL_law_516 : decode cL_law 516 = .ok (.if_icmp .eq 1082, 3) := by decide +kernel
theorem dL_law_519 : decode cL_law 519 = .ok (.iconst 0, 1) := by decide +kernel
theorem dL_law_520 : decode cL_law 520 = .ok (.ireturn, 1) := by decide +kernel
theorem dL_law_521 : decode cL_law 521 = .ok (.aload_n 1, 1) := by decide +kernel
theorem dL_law_522 : decode cL_law 522 = .ok (.aload_n 0, 1) := by decide +kernel
theorem dL_law_523 : decode cL_law 523 = .ok (.iload 4, 2) := by decide +kernel
theorem dL_law_525 : decode cL_law 525 = .ok (.iconst 1, 1) := by decide +kernel
theorem dL_law_526 : decode cL_law 526 = .ok (.iadd, 1) := by decide +kernel
theorem dL_law_527 : decode cL_law 527 = .ok (.iaload, 1) := by decide +kernel
theorem dL_law_528 : decode cL_law 528 = .ok (.invokevirtual 60, 3) := by decide +kernel
theorem dL_law_531 : decode cL_law 531 = .ok (.aload_n 2, 1) := by decide +kernel
theorem dL_law_532 : decode cL_law 532 = .ok (.aload_n 0, 1) := by decide +kernel
theorem dL_law_533 : decode cL_law 533 = .ok (.iload 4, 2) := by decide +kernel
theorem dL_law_535 : decode cL_law 535 = .ok (.iconst 1, 1) := by decide +kernel
theorem dL_law_536 : decode cL_law 536 = .ok (.iadd, 1) := by decide +kernel
theorem dL_law_537 : decode cL_law 537 = .ok (.iaload, 1) := by decide +kernel
theorem dL_law_538 : decode cL_law 538 = .ok (.invokevirtual 63, 3) := by decide +kernel
theorem dL_law_541 : decode cL_law 541 = .ok (.if_icmp .eq 1057, 3) := by decide +kernel
theorem dL_law_544 : decode cL_law 544 = .ok (.iconst 0, 1) := by decide +kernel
theorem dL_law_545 : decode cL_law 545 = .ok (.ireturn, 1) := by decide +kernel
theorem dL_law_546 : decode cL_law 546 = .ok (.aload_n 1, 1) := by decide +kernel
theorem dL_law_547 : decode cL_law 547 = .ok (.aload_n 0, 1) := by decide +kernel
theorem dL_law_548 : decode cL_law 548 = .ok (.iload 4, 2) := by decide +kernel
theorem dL_law_550 : decode cL_law 550 = .ok (.iconst 1, 1) := by decide +kernel
theorem dL_law_551 : decode cL_law 551 = .ok (.iadd, 1) := by decide +kernel
theorem dL_law_552 : decode cL_law 552 = .ok (.iaload, 1) := by decide +kernel
theorem dL_law_553 : decode cL_law 553 = .ok (.aload_n 0, 1) := by decide +kernel
theorem dL_law_554 : decode cL_law 554 = .ok (.iload 4, 2) := by decide +kernel
theorem dL_law_556 : decode cL_law 556 = .ok (.iconst 2, 1) := by decide +kernel
theorem dL_law_557 : decode cL_law 557 = .ok (.iadd, 1) := by decide +kernel
theorem dL_law_558 : decode cL_law 558 = .ok (.iaload, 1) := by decide +kernel
theorem dL_law_559 : decode cL_law 559 = .ok (.invokevirtual 64, 3) := by decide +kernel
theorem dL_law_562 : decode cL_law 562 = .ok (.aload_n 2, 1) := by decide +kernel
theorem dL_law_563 : decode cL_law 563 = .ok (.aload_n 0, 1) := by decide +kernel
theorem dL_law_564 : decode cL_law 564 = .ok (.iload 4, 2) := by decide +kernel
theorem dL_law_566 : decode cL_law 566 = .ok (.iconst 1, 1) := by decide +kernel
theorem dL_law_567 : decode cL_law 567 = .ok (.iadd, 1) := by decide +kernel
theorem dL_law_568 : decode cL_law 568 = .ok (.iaload, 1) := by decide +kernel
theorem dL_law_569 : decode cL_law 569 = .ok (.aload_n 0, 1) := by decide +kernel
theorem dL_law_570 : decode cL_law 570 = .ok (.iload 4, 2) := by decide +kernel
theorem dL_law_572 : decode cL_law 572 = .ok (.iconst 2, 1) := by decide +kernel
theorem dL_law_573 : decode cL_law 573 = .ok (.iadd, 1) := by decide +kernel
theorem dL_law_574 : decode cL_law 574 = .ok (.iaload, 1) := by decide +kernel
theorem dL_law_575 : decode cL_law 575 = .ok (.invokevirtual 67, 3) := by decide +kernel
theorem dL_law_578 : decode cL_law 578 = .ok (.if_icmp .eq 1020, 3) := by decide +kernel
theorem dL_law_581 : decode cL_law 581 = .ok (.iconst 0, 1) := by decide +kernel
theorem dL_law_582 : decode cL_law 582 = .ok (.ireturn, 1) := by decide +kernel
theorem dL_law_583 : decode cL_law 583 = .ok (.aload_n 1, 1) := by decide +kernel
theorem dL_law_584 : decode cL_law 584 = .ok (.aload_n 0, 1) := by decide +kernel
theorem dL_law_585 : decode cL_law 585 = .ok (.iload 4, 2) := by decide +kernel
theorem dL_law_587 : decode cL_law 587 = .ok (.iconst 1, 1) := by decide +kernel
theorem dL_law_588 : decode cL_law 588 = .ok (.iadd, 1) := by decide +kernel
theorem dL_law_589 : decode cL_law 589 = .ok (.iaload, 1) := by decide +kernel
theorem dL_law_590 : decode cL_law 590 = .ok (.aload_n 0, 1) := by decide +kernel
theorem dL_law_591 : decode cL_law 591 = .ok (.iload 4, 2) := by decide +kernel
theorem dL_law_593 : decode cL_law 593 = .ok (.iconst 2, 1) := by decide +kernel
theorem dL_law_594 : decode cL_law 594 = .ok (.iadd, 1) := by decide +kernel
theorem dL_law_595 : decode cL_law 595 = .ok (.iaload, 1) := by decide +kernel
theorem dL_law_596 : decode cL_law 596 = .ok (.aload_n 0, 1) := by decide +kernel
theorem dL_law_597 : decode cL_law 597 = .ok (.iload 4, 2) := by decide +kernel
theorem dL_law_599 : decode cL_law 599 = .ok (.iconst 3, 1) := by decide +kernel
theorem dL_law_600 : decode cL_law 600 = .ok (.iadd, 1) := by decide +kernel
theorem dL_law_601 : decode cL_law 601 = .ok (.iaload, 1) := by decide +kernel
theorem dL_law_602 : decode cL_law 602 = .ok (.aload_n 0, 1) := by decide +kernel
theorem dL_law_603 : decode cL_law 603 = .ok (.iload 4, 2) := by decide +kernel
theorem dL_law_605 : decode cL_law 605 = .ok (.iconst 4, 1) := by decide +kernel
theorem dL_law_606 : decode cL_law 606 = .ok (.iadd, 1) := by decide +kernel
theorem dL_law_607 : decode cL_law 607 = .ok (.iaload, 1) := by decide +kernel
theorem dL_law_608 : decode cL_law 608 = .ok (.invokevirtual 68, 3) := by decide +kernel
theorem dL_law_611 : decode cL_law 611 = .ok (.aload_n 2, 1) := by decide +kernel
theorem dL_law_612 : decode cL_law 612 = .ok (.aload_n 0, 1) := by decide +kernel
theorem dL_law_613 : decode cL_law 613 = .ok (.iload 4, 2) := by decide +kernel
theorem dL_law_615 : decode cL_law 615 = .ok (.iconst 1, 1) := by decide +kernel
theorem dL_law_616 : decode cL_law 616 = .ok (.iadd, 1) := by decide +kernel
theorem dL_law_617 : decode cL_law 617 = .ok (.iaload, 1) := by decide +kernel
theorem dL_law_618 : decode cL_law 618 = .ok (.aload_n 0, 1) := by decide +kernel
theorem dL_law_619 : decode cL_law 619 = .ok (.iload 4, 2) := by decide +kernel
theorem dL_law_621 : decode cL_law 621 = .ok (.iconst 2, 1) := by decide +kernel
theorem dL_law_622 : decode cL_law 622 = .ok (.iadd, 1) := by decide +kernel
theorem dL_law_623 : decode cL_law 623 = .ok (.iaload, 1) := by decide +kernel
theorem dL_law_624 : decode cL_law 624 = .ok (.aload_n 0, 1) := by decide +kernel
theorem dL_law_625 : decode cL_law 625 = .ok (.iload 4, 2) := by decide +kernel
theorem dL_law_627 : decode cL_law 627 = .ok (.iconst 3, 1) := by decide +kernel
theorem dL_law_628 : decode cL_law 628 = .ok (.iadd, 1) := by decide +kernel
theorem dL_law_629 : decode cL_law 629 = .ok (.iaload, 1) := by decide +kernel
theorem dL_law_630 : decode cL_law 630 = .ok (.aload_n 0, 1) := by decide +kernel
theorem dL_law_631 : decode cL_law 631 = .ok (.iload 4, 2) := by decide +kernel
theorem dL_law_633 : decode cL_law 633 = .ok (.iconst 4, 1) := by decide +kernel
theorem dL_law_634 : decode cL_law 634 = .ok (.iadd, 1) := by decide +kernel
theorem dL_law_635 : decode cL_law 635 = .ok (.iaload, 1) := by decide +kernel
theorem dL_law_636 : decode cL_law 636 = .ok (.invokevirtual 72, 3) := by decide +kernel
theorem dL_law_639 : decode cL_law 639 = .ok (.if_icmp .eq 959, 3) := by decide +kernel
theorem dL_law_642 : decode cL_law 642 = .ok (.iconst 0, 1) := by decide +kernel
theorem dL_law_643 : decode cL_law 643 = .ok (.ireturn, 1) := by decide +kernel
theorem dL_law_644 : decode cL_law 644 = .ok (.aload_n 1, 1) := by decide +kernel
theorem dL_law_645 : decode cL_law 645 = .ok (.aload_n 0, 1) := by decide +kernel
theorem dL_law_646 : decode cL_law 646 = .ok (.iload 4, 2) := by decide +kernel
theorem dL_law_648 : decode cL_law 648 = .ok (.iconst 1, 1) := by decide +kernel
theorem dL_law_649 : decode cL_law 649 = .ok (.iadd, 1) := by decide +kernel
theorem dL_law_650 : decode cL_law 650 = .ok (.iaload, 1) := by decide +kernel
theorem dL_law_651 : decode cL_law 651 = .ok (.aload_n 0, 1) := by decide +kernel
theorem dL_law_652 : decode cL_law 652 = .ok (.iload 4, 2) := by decide +kernel
theorem dL_law_654 : decode cL_law 654 = .ok (.iconst 2, 1) := by decide +kernel
theorem dL_law_655 : decode cL_law 655 = .ok (.iadd, 1) := by decide +kernel
theorem dL_law_656 : decode cL_law 656 = .ok (.iaload, 1) := by decide +kernel
theorem dL_law_657 : decode cL_law 657 = .ok (.invokevirtual 73, 3) := by decide +kernel
theorem dL_law_660 : decode cL_law 660 = .ok (.aload_n 2, 1) := by decide +kernel
theorem dL_law_661 : decode cL_law 661 = .ok (.aload_n 0, 1) := by decide +kernel
theorem dL_law_662 : decode cL_law 662 = .ok (.iload 4, 2) := by decide +kernel
theorem dL_law_664 : decode cL_law 664 = .ok (.iconst 1, 1) := by decide +kernel
theorem dL_law_665 : decode cL_law 665 = .ok (.iadd, 1) := by decide +kernel
theorem dL_law_666 : decode cL_law 666 = .ok (.iaload, 1) := by decide +kernel
theorem dL_law_667 : decode cL_law 667 = .ok (.aload_n 0, 1) := by decide +kernel
theorem dL_law_668 : decode cL_law 668 = .ok (.iload 4, 2) := by decide +kernel
theorem dL_law_670 : decode cL_law 670 = .ok (.iconst 2, 1) := by decide +kernel
theorem dL_law_671 : decode cL_law 671 = .ok (.iadd, 1) := by decide +kernel
theorem dL_law_672 : decode cL_law 672 = .ok (.iaload, 1) := by decide +kernel
theorem dL_law_673 : decode cL_law 673 = .ok (.invokevirtual 76, 3) := by decide +kernel
theorem dL_law_676 : decode cL_law 676 = .ok (.if_icmp .eq 922, 3) := by decide +kernel
theorem dL_law_679 : decode cL_law 679 = .ok (.iconst 0, 1) := by decide +kernel
theorem dL_law_680 : decode cL_law 680 = .ok (.ireturn, 1) := by decide +kernel
theorem dL_law_681 : decode cL_law 681 = .ok (.aload_n 1, 1) := by decide +kernel
theorem dL_law_682 : decode cL_law 682 = .ok (.aload_n 0, 1) := by decide +kernel
theorem dL_law_683 : decode cL_law 683 = .ok (.iload 4, 2) := by decide +kernel
theorem dL_law_685 : decode cL_law 685 = .ok (.iconst 1, 1) := by decide +kernel
theorem dL_law_686 : decode cL_law 686 = .ok (.iadd, 1) := by decide +kernel
theorem dL_law_687 : decode cL_law 687 = .ok (.iaload, 1) := by decide +kernel
theorem dL_law_688 : decode cL_law 688 = .ok (.aload_n 0, 1) := by decide +kernel
theorem dL_law_689 : decode cL_law 689 = .ok (.iload 4, 2) := by decide +kernel
theorem dL_law_691 : decode cL_law 691 = .ok (.iconst 2, 1) := by decide +kernel
theorem dL_law_692 : decode cL_law 692 = .ok (.iadd, 1) := by decide +kernel
theorem dL_law_693 : decode cL_law 693 = .ok (.iaload, 1) := by decide +kernel
theorem dL_law_694 : decode cL_law 694 = .ok (.invokevirtual 77, 3) := by decide +kernel
theorem dL_law_697 : decode cL_law 697 = .ok (.aload_n 2, 1) := by decide +kernel
theorem dL_law_698 : decode cL_law 698 = .ok (.aload_n 0, 1) := by decide +kernel
theorem dL_law_699 : decode cL_law 699 = .ok (.iload 4, 2) := by decide +kernel
theorem dL_law_701 : decode cL_law 701 = .ok (.iconst 1, 1) := by decide +kernel
theorem dL_law_702 : decode cL_law 702 = .ok (.iadd, 1) := by decide +kernel
theorem dL_law_703 : decode cL_law 703 = .ok (.iaload, 1) := by decide +kernel
theorem dL_law_704 : decode cL_law 704 = .ok (.aload_n 0, 1) := by decide +kernel
theorem dL_law_705 : decode cL_law 705 = .ok (.iload 4, 2) := by decide +kernel
theorem dL_law_707 : decode cL_law 707 = .ok (.iconst 2, 1) := by decide +kernel
theorem dL_law_708 : decode cL_law 708 = .ok (.iadd, 1) := by decide +kernel
theorem dL_law_709 : decode cL_law 709 = .ok (.iaload, 1) := by decide +kernel
theorem dL_law_710 : decode cL_law 710 = .ok (.invokevirtual 80, 3) := by decide +kernel
theorem dL_law_713 : decode cL_law 713 = .ok (.if_icmp .eq 885, 3) := by decide +kernel
theorem dL_law_716 : decode cL_law 716 = .ok (.iconst 0, 1) := by decide +kernel
theorem dL_law_717 : decode cL_law 717 = .ok (.ireturn, 1) := by decide +kernel
theorem dL_law_718 : decode cL_law 718 = .ok (.aload_n 1, 1) := by decide +kernel
theorem dL_law_719 : decode cL_law 719 = .ok (.aload_n 0, 1) := by decide +kernel
theorem dL_law_720 : decode cL_law 720 = .ok (.iload 4, 2) := by decide +kernel
theorem dL_law_722 : decode cL_law 722 = .ok (.iconst 1, 1) := by decide +kernel
theorem dL_law_723 : decode cL_law 723 = .ok (.iadd, 1) := by decide +kernel
theorem dL_law_724 : decode cL_law 724 = .ok (.iaload, 1) := by decide +kernel
theorem dL_law_725 : decode cL_law 725 = .ok (.aload_n 0, 1) := by decide +kernel
theorem dL_law_726 : decode cL_law 726 = .ok (.iload 4, 2) := by decide +kernel
theorem dL_law_728 : decode cL_law 728 = .ok (.iconst 2, 1) := by decide +kernel
theorem dL_law_729 : decode cL_law 729 = .ok (.iadd, 1) := by decide +kernel
theorem dL_law_730 : decode cL_law 730 = .ok (.iaload, 1) := by decide +kernel
theorem dL_law_731 : decode cL_law 731 = .ok (.invokevirtual 81, 3) := by decide +kernel
theorem dL_law_734 : decode cL_law 734 = .ok (.aload_n 2, 1) := by decide +kernel
theorem dL_law_735 : decode cL_law 735 = .ok (.aload_n 0, 1) := by decide +kernel
theorem dL_law_736 : decode cL_law 736 = .ok (.iload 4, 2) := by decide +kernel
theorem dL_law_738 : decode cL_law 738 = .ok (.iconst 1, 1) := by decide +kernel
theorem dL_law_739 : decode cL_law 739 = .ok (.iadd, 1) := by decide +kernel
theorem dL_law_740 : decode cL_law 740 = .ok (.iaload, 1) := by decide +kernel
theorem dL_law_741 : decode cL_law 741 = .ok (.aload_n 0, 1) := by decide +kernel
theorem dL_law_742 : decode cL_law 742 = .ok (.iload 4, 2) := by decide +kernel
theorem dL_law_744 : decode cL_law 744 = .ok (.iconst 2, 1) := by decide +kernel
theorem dL_law_745 : decode cL_law 745 = .ok (.iadd, 1) := by decide +kernel
theorem dL_law_746 : decode cL_law 746 = .ok (.iaload, 1) := by decide +kernel
theorem dL_law_747 : decode cL_law 747 = .ok (.invokevirtual 84, 3) := by decide +kernel
theorem dL_law_750 : decode cL_law 750 = .ok (.if_icmp .eq 848, 3) := by decide +kernel
theorem dL_law_753 : decode cL_law 753 = .ok (.iconst 0, 1) := by decide +kernel
theorem dL_law_754 : decode cL_law 754 = .ok (.ireturn, 1) := by decide +kernel
theorem dL_law_755 : decode cL_law 755 = .ok (.aload_n 1, 1) := by decide +kernel
theorem dL_law_756 : decode cL_law 756 = .ok (.aload_n 0, 1) := by decide +kernel
theorem dL_law_757 : decode cL_law 757 = .ok (.iload 4, 2) := by decide +kernel
theorem dL_law_759 : decode cL_law 759 = .ok (.iconst 1, 1) := by decide +kernel
theorem dL_law_760 : decode cL_law 760 = .ok (.iadd, 1) := by decide +kernel
theorem dL_law_761 : decode cL_law 761 = .ok (.iaload, 1) := by decide +kernel
theorem dL_law_762 : decode cL_law 762 = .ok (.aload_n 0, 1) := by decide +kernel
theorem dL_law_763 : decode cL_law 763 = .ok (.iload 4, 2) := by decide +kernel
theorem dL_law_765 : decode cL_law 765 = .ok (.iconst 2, 1) := by decide +kernel
theorem dL_law_766 : decode cL_law 766 = .ok (.iadd, 1) := by decide +kernel
theorem dL_law_767 : decode cL_law 767 = .ok (.iaload, 1) := by decide +kernel
theorem dL_law_768 : decode cL_law 768 = .ok (.invokevirtual 85, 3) := by decide +kernel
theorem dL_law_771 : decode cL_law 771 = .ok (.aload_n 2, 1) := by decide +kernel
theorem dL_law_772 : decode cL_law 772 = .ok (.aload_n 0, 1) := by decide +kernel
theorem dL_law_773 : decode cL_law 773 = .ok (.iload 4, 2) := by decide +kernel
theorem dL_law_775 : decode cL_law 775 = .ok (.iconst 1, 1) := by decide +kernel
theorem dL_law_776 : decode cL_law 776 = .ok (.iadd, 1) := by decide +kernel
theorem dL_law_777 : decode cL_law 777 = .ok (.iaload, 1) := by decide +kernel
theorem dL_law_778 : decode cL_law 778 = .ok (.aload_n 0, 1) := by decide +kernel
theorem dL_law_779 : decode cL_law 779 = .ok (.iload 4, 2) := by decide +kernel
theorem dL_law_781 : decode cL_law 781 = .ok (.iconst 2, 1) := by decide +kernel
theorem dL_law_782 : decode cL_law 782 = .ok (.iadd, 1) := by decide +kernel
theorem dL_law_783 : decode cL_law 783 = .ok (.iaload, 1) := by decide +kernel
theorem dL_law_784 : decode cL_law 784 = .ok (.invokevirtual 88, 3) := by decide +kernel
theorem dL_law_787 : decode cL_law 787 = .ok (.if_icmp .eq 811, 3) := by decide +kernel
theorem dL_law_790 : decode cL_law 790 = .ok (.iconst 0, 1) := by decide +kernel
theorem dL_law_791 : decode cL_law 791 = .ok (.ireturn, 1) := by decide +kernel
theorem dL_law_792 : decode cL_law 792 = .ok (.aload_n 1, 1) := by decide +kernel
theorem dL_law_793 : decode cL_law 793 = .ok (.aload_n 0, 1) := by decide +kernel
theorem dL_law_794 : decode cL_law 794 = .ok (.iload 4, 2) := by decide +kernel
theorem dL_law_796 : decode cL_law 796 = .ok (.iconst 1, 1) := by decide +kernel
theorem dL_law_797 : decode cL_law 797 = .ok (.iadd, 1) := by decide +kernel
theorem dL_law_798 : decode cL_law 798 = .ok (.iaload, 1) := by decide +kernel
theorem dL_law_799 : decode cL_law 799 = .ok (.aload_n 0, 1) := by decide +kernel
theorem dL_law_800 : decode cL_law 800 = .ok (.iload 4, 2) := by decide +kernel
theorem dL_law_802 : decode cL_law 802 = .ok (.iconst 2, 1) := by decide +kernel
theorem dL_law_803 : decode cL_law 803 = .ok (.iadd, 1) := by decide +kernel
theorem dL_law_804 : decode cL_law 804 = .ok (.iaload, 1) := by decide +kernel
theorem dL_law_805 : decode cL_law 805 = .ok (.aload_n 0, 1) := by decide +kernel
theorem dL_law_806 : decode cL_law 806 = .ok (.iload 4, 2) := by decide +kernel
theorem dL_law_808 : decode cL_law 808 = .ok (.iconst 3, 1) := by decide +kernel
theorem dL_law_809 : decode cL_law 809 = .ok (.iadd, 1) := by decide +kernel
theorem dL_law_810 : decode cL_law 810 = .ok (.iaload, 1) := by decide +kernel
theorem dL_law_811 : decode cL_law 811 = .ok (.aload_n 0, 1) := by decide +kernel
theorem dL_law_812 : decode cL_law 812 = .ok (.iload 4, 2) := by decide +kernel
theorem dL_law_814 : decode cL_law 814 = .ok (.iconst 4, 1) := by decide +kernel
theorem dL_law_815 : decode cL_law 815 = .ok (.iadd, 1) := by decide +kernel
theorem dL_law_816 : decode cL_law 816 = .ok (.iaload, 1) := by decide +kernel
theorem dL_law_817 : decode cL_law 817 = .ok (.invokevirtual 89, 3) := by decide +kernel
theorem dL_law_820 : decode cL_law 820 = .ok (.aload_n 2, 1) := by decide +kernel
theorem dL_law_821 : decode cL_law 821 = .ok (.aload_n 0, 1) := by decide +kernel
theorem dL_law_822 : decode cL_law 822 = .ok (.iload 4, 2) := by decide +kernel
theorem dL_law_824 : decode cL_law 824 = .ok (.iconst 1, 1) := by decide +kernel
theorem dL_law_825 : decode cL_law 825 = .ok (.iadd, 1) := by decide +kernel
theorem dL_law_826 : decode cL_law 826 = .ok (.iaload, 1) := by decide +kernel
theorem dL_law_827 : decode cL_law 827 = .ok (.aload_n 0, 1) := by decide +kernel
theorem dL_law_828 : decode cL_law 828 = .ok (.iload 4, 2) := by decide +kernel
theorem dL_law_830 : decode cL_law 830 = .ok (.iconst 2, 1) := by decide +kernel
theorem dL_law_831 : decode cL_law 831 = .ok (.iadd, 1) := by decide +kernel
theorem dL_law_832 : decode cL_law 832 = .ok (.iaload, 1) := by decide +kernel
theorem dL_law_833 : decode cL_law 833 = .ok (.aload_n 0, 1) := by decide +kernel
theorem dL_law_834 : decode cL_law 834 = .ok (.iload 4, 2) := by decide +kernel
theorem dL_law_836 : decode cL_law 836 = .ok (.iconst 3, 1) := by decide +kernel
theorem dL_law_837 : decode cL_law 837 = .ok (.iadd, 1) := by decide +kernel
theorem dL_law_838 : decode cL_law 838 = .ok (.iaload, 1) := by decide +kernel
theorem dL_law_839 : decode cL_law 839 = .ok (.aload_n 0, 1) := by decide +kernel
theorem dL_law_840 : decode cL_law 840 = .ok (.iload 4, 2) := by decide +kernel
theorem dL_law_842 : decode cL_law 842 = .ok (.iconst 4, 1) := by decide +kernel
theorem dL_law_843 : decode cL_law 843 = .ok (.iadd, 1) := by decide +kernel
theorem dL_law_844 : decode cL_law 844 = .ok (.iaload, 1) := by decide +kernel
theorem dL_law_845 : decode cL_law 845 = .ok (.invokevirtual 92, 3) := by decide +kernel
theorem dL_law_848 : decode cL_law 848 = .ok (.if_icmp .eq 750, 3) := by decide +kernel
theorem dL_law_851 : decode cL_law 851 = .ok (.iconst 0, 1) := by decide +kernel
theorem dL_law_852 : decode cL_law 852 = .ok (.ireturn, 1) := by decide +kernel
theorem dL_law_853 : decode cL_law 853 = .ok (.aload_n 1, 1) := by decide +kernel
theorem dL_law_854 : decode cL_law 854 = .ok (.aload_n 0, 1) := by decide +kernel
theorem dL_law_855 : decode cL_law 855 = .ok (.iload 4, 2) := by decide +kernel
theorem dL_law_857 : decode cL_law 857 = .ok (.iconst 1, 1) := by decide +kernel
theorem dL_law_858 : decode cL_law 858 = .ok (.iadd, 1) := by decide +kernel
theorem dL_law_859 : decode cL_law 859 = .ok (.iaload, 1) := by decide +kernel
theorem dL_law_860 : decode cL_law 860 = .ok (.aload_n 0, 1) := by decide +kernel
theorem dL_law_861 : decode cL_law 861 = .ok (.iload 4, 2) := by decide +kernel
theorem dL_law_863 : decode cL_law 863 = .ok (.iconst 2, 1) := by decide +kernel
theorem dL_law_864 : decode cL_law 864 = .ok (.iadd, 1) := by decide +kernel
theorem dL_law_865 : decode cL_law 865 = .ok (.iaload, 1) := by decide +kernel
theorem dL_law_866 : decode cL_law 866 = .ok (.invokevirtual 93, 3) := by decide +kernel
theorem dL_law_869 : decode cL_law 869 = .ok (.aload_n 2, 1) := by decide +kernel
theorem dL_law_870 : decode cL_law 870 = .ok (.aload_n 0, 1) := by decide +kernel
theorem dL_law_871 : decode cL_law 871 = .ok (.iload 4, 2) := by decide +kernel
theorem dL_law_873 : decode cL_law 873 = .ok (.iconst 1, 1) := by decide +kernel
theorem dL_law_874 : decode cL_law 874 = .ok (.iadd, 1) := by decide +kernel
theorem dL_law_875 : decode cL_law 875 = .ok (.iaload, 1) := by decide +kernel
theorem dL_law_876 : decode cL_law 876 = .ok (.aload_n 0, 1) := by decide +kernel
theorem dL_law_877 : decode cL_law 877 = .ok (.iload 4, 2) := by decide +kernel
theorem dL_law_879 : decode cL_law 879 = .ok (.iconst 2, 1) := by decide +kernel
theorem dL_law_880 : decode cL_law 880 = .ok (.iadd, 1) := by decide +kernel
theorem dL_law_881 : decode cL_law 881 = .ok (.iaload, 1) := by decide +kernel
theorem dL_law_882 : decode cL_law 882 = .ok (.invokevirtual 96, 3) := by decide +kernel
theorem dL_law_885 : decode cL_law 885 = .ok (.if_icmp .eq 713, 3) := by decide +kernel
theorem dL_law_888 : decode cL_law 888 = .ok (.iconst 0, 1) := by decide +kernel
theorem dL_law_889 : decode cL_law 889 = .ok (.ireturn, 1) := by decide +kernel
theorem dL_law_890 : decode cL_law 890 = .ok (.aload_n 1, 1) := by decide +kernel
theorem dL_law_891 : decode cL_law 891 = .ok (.aload_n 0, 1) := by decide +kernel
theorem dL_law_892 : decode cL_law 892 = .ok (.iload 4, 2) := by decide +kernel
theorem dL_law_894 : decode cL_law 894 = .ok (.iconst 1, 1) := by decide +kernel
theorem dL_law_895 : decode cL_law 895 = .ok (.iadd, 1) := by decide +kernel
theorem dL_law_896 : decode cL_law 896 = .ok (.iaload, 1) := by decide +kernel
theorem dL_law_897 : decode cL_law 897 = .ok (.invokevirtual 97, 3) := by decide +kernel
theorem dL_law_900 : decode cL_law 900 = .ok (.aload_n 2, 1) := by decide +kernel
theorem dL_law_901 : decode cL_law 901 = .ok (.aload_n 0, 1) := by decide +kernel
theorem dL_law_902 : decode cL_law 902 = .ok (.iload 4, 2) := by decide +kernel
theorem dL_law_904 : decode cL_law 904 = .ok (.iconst 1, 1) := by decide +kernel
theorem dL_law_905 : decode cL_law 905 = .ok (.iadd, 1) := by decide +kernel
theorem dL_law_906 : decode cL_law 906 = .ok (.iaload, 1) := by decide +kernel
theorem dL_law_907 : decode cL_law 907 = .ok (.invokevirtual 100, 3) := by decide +kernel
theorem dL_law_910 : decode cL_law 910 = .ok (.if_icmp .eq 688, 3) := by decide +kernel
theorem dL_law_913 : decode cL_law 913 = .ok (.iconst 0, 1) := by decide +kernel
theorem dL_law_914 : decode cL_law 914 = .ok (.ireturn, 1) := by decide +kernel
theorem dL_law_915 : decode cL_law 915 = .ok (.aload_n 1, 1) := by decide +kernel
theorem dL_law_916 : decode cL_law 916 = .ok (.aload_n 0, 1) := by decide +kernel
theorem dL_law_917 : decode cL_law 917 = .ok (.iload 4, 2) := by decide +kernel
theorem dL_law_919 : decode cL_law 919 = .ok (.iconst 1, 1) := by decide +kernel
theorem dL_law_920 : decode cL_law 920 = .ok (.iadd, 1) := by decide +kernel
theorem dL_law_921 : decode cL_law 921 = .ok (.iaload, 1) := by decide +kernel
theorem dL_law_922 : decode cL_law 922 = .ok (.invokevirtual 101, 3) := by decide +kernel
theorem dL_law_925 : decode cL_law 925 = .ok (.aload_n 2, 1) := by decide +kernel
theorem dL_law_926 : decode cL_law 926 = .ok (.aload_n 0, 1) := by decide +kernel
theorem dL_law_927 : decode cL_law 927 = .ok (.iload 4, 2) := by decide +kernel
theorem dL_law_929 : decode cL_law 929 = .ok (.iconst 1, 1) := by decide +kernel
theorem dL_law_930 : decode cL_law 930 = .ok (.iadd, 1) := by decide +kernel
theorem dL_law_931 : decode cL_law 931 = .ok (.iaload, 1) := by decide +kernel
theorem dL_law_932 : decode cL_law 932 = .ok (.invokevirtual 104, 3) := by decide +kernel
theorem dL_law_935 : decode cL_law 935 = .ok (.if_icmp .eq 663, 3) := by decide +kernel
theorem dL_law_938 : decode cL_law 938 = .ok (.iconst 0, 1) := by decide +kernel
theorem dL_law_939 : decode cL_law 939 = .ok (.ireturn, 1) := by decide +kernel
theorem dL_law_940 : decode cL_law 940 = .ok (.aload_n 1, 1) := by decide +kernel
theorem dL_law_941 : decode cL_law 941 = .ok (.aload_n 0, 1) := by decide +kernel
theorem dL_law_942 : decode cL_law 942 = .ok (.iload 4, 2) := by decide +kernel
theorem dL_law_944 : decode cL_law 944 = .ok (.iconst 1, 1) := by decide +kernel
theorem dL_law_945 : decode cL_law 945 = .ok (.iadd, 1) := by decide +kernel
theorem dL_law_946 : decode cL_law 946 = .ok (.iaload, 1) := by decide +kernel
theorem dL_law_947 : decode cL_law 947 = .ok (.invokevirtual 105, 3) := by decide +kernel
theorem dL_law_950 : decode cL_law 950 = .ok (.aload_n 2, 1) := by decide +kernel
theorem dL_law_951 : decode cL_law 951 = .ok (.aload_n 0, 1) := by decide +kernel
theorem dL_law_952 : decode cL_law 952 = .ok (.iload 4, 2) := by decide +kernel
theorem dL_law_954 : decode cL_law 954 = .ok (.iconst 1, 1) := by decide +kernel
theorem dL_law_955 : decode cL_law 955 = .ok (.iadd, 1) := by decide +kernel
theorem dL_law_956 : decode cL_law 956 = .ok (.iaload, 1) := by decide +kernel
theorem dL_law_957 : decode cL_law 957 = .ok (.invokevirtual 108, 3) := by decide +kernel
theorem dL_law_960 : decode cL_law 960 = .ok (.if_icmp .eq 638, 3) := by decide +kernel
theorem dL_law_963 : decode cL_law 963 = .ok (.iconst 0, 1) := by decide +kernel
theorem dL_law_964 : decode cL_law 964 = .ok (.ireturn, 1) := by decide +kernel
theorem dL_law_965 : decode cL_law 965 = .ok (.aload_n 1, 1) := by decide +kernel
theorem dL_law_966 : decode cL_law 966 = .ok (.aload_n 0, 1) := by decide +kernel
theorem dL_law_967 : decode cL_law 967 = .ok (.iload 4, 2) := by decide +kernel
theorem dL_law_969 : decode cL_law 969 = .ok (.iconst 1, 1) := by decide +kernel
theorem dL_law_970 : decode cL_law 970 = .ok (.iadd, 1) := by decide +kernel
theorem dL_law_971 : decode cL_law 971 = .ok (.iaload, 1) := by decide +kernel
theorem dL_law_972 : decode cL_law 972 = .ok (.aload_n 0, 1) := by decide +kernel
theorem dL_law_973 : decode cL_law 973 = .ok (.iload 4, 2) := by decide +kernel
theorem dL_law_975 : decode cL_law 975 = .ok (.iconst 2, 1) := by decide +kernel
theorem dL_law_976 : decode cL_law 976 = .ok (.iadd, 1) := by decide +kernel
theorem dL_law_977 : decode cL_law 977 = .ok (.iaload, 1) := by decide +kernel
theorem dL_law_978 : decode cL_law 978 = .ok (.aload_n 0, 1) := by decide +kernel
theorem dL_law_979 : decode cL_law 979 = .ok (.iload 4, 2) := by decide +kernel
theorem dL_law_981 : decode cL_law 981 = .ok (.iconst 3, 1) := by decide +kernel
theorem dL_law_982 : decode cL_law 982 = .ok (.iadd, 1) := by decide +kernel
theorem dL_law_983 : decode cL_law 983 = .ok (.iaload, 1) := by decide +kernel
theorem dL_law_984 : decode cL_law 984 = .ok (.invokevirtual 109, 3) := by decide +kernel
theorem dL_law_987 : decode cL_law 987 = .ok (.aload_n 2, 1) := by decide +kernel
theorem dL_law_988 : decode cL_law 988 = .ok (.aload_n 0, 1) := by decide +kernel
theorem dL_law_989 : decode cL_law 989 = .ok (.iload 4, 2) := by decide +kernel
theorem dL_law_991 : decode cL_law 991 = .ok (.iconst 1, 1) := by decide +kernel
theorem dL_law_992 : decode cL_law 992 = .ok (.iadd, 1) := by decide +kernel
theorem dL_law_993 : decode cL_law 993 = .ok (.iaload, 1) := by decide +kernel
theorem dL_law_994 : decode cL_law 994 = .ok (.aload_n 0, 1) := by decide +kernel
theorem dL_law_995 : decode cL_law 995 = .ok (.iload 4, 2) := by decide +kernel
theorem dL_law_997 : decode cL_law 997 = .ok (.iconst 2, 1) := by decide +kernel
theorem dL_law_998 : decode cL_law 998 = .ok (.iadd, 1) := by decide +kernel
theorem dL_law_999 : decode cL_law 999 = .ok (.iaload, 1) := by decide +kernel
theorem dL_law_1000 : decode cL_law 1000 = .ok (.aload_n 0, 1) := by decide +kernel
theorem dL_law_1001 : decode cL_law 1001 = .ok (.iload 4, 2) := by decide +kernel
theorem dL_law_1003 : decode cL_law 1003 = .ok (.iconst 3, 1) := by decide +kernel
theorem dL_law_1004 : decode cL_law 1004 = .ok (.iadd, 1) := by decide +kernel
theorem dL_law_1005 : decode cL_law 1005 = .ok (.iaload, 1) := by decide +kernel
theorem dL_law_1006 : decode cL_law 1006 = .ok (.invokevirtual 112, 3) := by decide +kernel
theorem dL_law_1009 : decode cL_law 1009 = .ok (.if_icmp .eq 589, 3) := by decide +kernel
theorem dL_law_1012 : decode cL_law 1012 = .ok (.iconst 0, 1) := by decide +kernel
theorem dL_law_1013 : decode cL_law 1013 = .ok (.ireturn, 1) := by decide +kernel
theorem dL_law_1014 : decode cL_law 1014 = .ok (.aload_n 1, 1) := by decide +kernel
theorem dL_law_1015 : decode cL_law 1015 = .ok (.aload_n 0, 1) := by decide +kernel
theorem dL_law_1016 : decode cL_law 1016 = .ok (.iload 4, 2) := by decide +kernel
theorem dL_law_1018 : decode cL_law 1018 = .ok (.iconst 1, 1) := by decide +kernel
theorem dL_law_1019 : decode cL_law 1019 = .ok (.iadd, 1) := by decide +kernel
theorem dL_law_1020 : decode cL_law 1020 = .ok (.iaload, 1) := by decide +kernel
theorem dL_law_1021 : decode cL_law 1021 = .ok (.aload_n 0, 1) := by decide +kernel
theorem dL_law_1022 : decode cL_law 1022 = .ok (.iload 4, 2) := by decide +kernel
theorem dL_law_1024 : decode cL_law 1024 = .ok (.iconst 2, 1) := by decide +kernel
theorem dL_law_1025 : decode cL_law 1025 = .ok (.iadd, 1) := by decide +kernel
theorem dL_law_1026 : decode cL_law 1026 = .ok (.iaload, 1) := by decide +kernel
theorem dL_law_1027 : decode cL_law 1027 = .ok (.aload_n 0, 1) := by decide +kernel
theorem dL_law_1028 : decode cL_law 1028 = .ok (.iload 4, 2) := by decide +kernel
theorem dL_law_1030 : decode cL_law 1030 = .ok (.iconst 3, 1) := by decide +kernel
theorem dL_law_1031 : decode cL_law 1031 = .ok (.iadd, 1) := by decide +kernel
theorem dL_law_1032 : decode cL_law 1032 = .ok (.iaload, 1) := by decide +kernel
theorem dL_law_1033 : decode cL_law 1033 = .ok (.invokevirtual 113, 3) := by decide +kernel
theorem dL_law_1036 : decode cL_law 1036 = .ok (.aload_n 2, 1) := by decide +kernel
theorem dL_law_1037 : decode cL_law 1037 = .ok (.aload_n 0, 1) := by decide +kernel
theorem dL_law_1038 : decode cL_law 1038 = .ok (.iload 4, 2) := by decide +kernel
theorem dL_law_1040 : decode cL_law 1040 = .ok (.iconst 1, 1) := by decide +kernel
theorem dL_law_1041 : decode cL_law 1041 = .ok (.iadd, 1) := by decide +kernel
theorem dL_law_1042 : decode cL_law 1042 = .ok (.iaload, 1) := by decide +kernel
theorem dL_law_1043 : decode cL_law 1043 = .ok (.aload_n 0, 1) := by decide +kernel
theorem dL_law_1044 : decode cL_law 1044 = .ok (.iload 4, 2) := by decide +kernel
theorem dL_law_1046 : decode cL_law 1046 = .ok (.iconst 2, 1) := by decide +kernel
theorem dL_law_1047 : decode cL_law 1047 = .ok (.iadd, 1) := by decide +kernel
theorem dL_law_1048 : decode cL_law 1048 = .ok (.iaload, 1) := by decide +kernel
theorem dL_law_1049 : decode cL_law 1049 = .ok (.aload_n 0, 1) := by decide +kernel
theorem dL_law_1050 : decode cL_law 1050 = .ok (.iload 4, 2) := by decide +kernel
theorem dL_law_1052 : decode cL_law 1052 = .ok (.iconst 3, 1) := by decide +kernel
theorem dL_law_1053 : decode cL_law 1053 = .ok (.iadd, 1) := by decide +kernel
theorem dL_law_1054 : decode cL_law 1054 = .ok (.iaload, 1) := by decide +kernel
theorem dL_law_1055 : decode cL_law 1055 = .ok (.invokevirtual 116, 3) := by decide +kernel
theorem dL_law_1058 : decode cL_law 1058 = .ok (.if_icmp .eq 540, 3) := by decide +kernel
theorem dL_law_1061 : decode cL_law 1061 = .ok (.iconst 0, 1) := by decide +kernel
theorem dL_law_1062 : decode cL_law 1062 = .ok (.ireturn, 1) := by decide +kernel
theorem dL_law_1063 : decode cL_law 1063 = .ok (.aload_n 1, 1) := by decide +kernel
theorem dL_law_1064 : decode cL_law 1064 = .ok (.aload_n 0, 1) := by decide +kernel
theorem dL_law_1065 : decode cL_law 1065 = .ok (.iload 4, 2) := by decide +kernel
theorem dL_law_1067 : decode cL_law 1067 = .ok (.iconst 1, 1) := by decide +kernel
theorem dL_law_1068 : decode cL_law 1068 = .ok (.iadd, 1) := by decide +kernel
theorem dL_law_1069 : decode cL_law 1069 = .ok (.iaload, 1) := by decide +kernel
theorem dL_law_1070 : decode cL_law 1070 = .ok (.aload_n 0, 1) := by decide +kernel
theorem dL_law_1071 : decode cL_law 1071 = .ok (.iload 4, 2) := by decide +kernel
theorem dL_law_1073 : decode cL_law 1073 = .ok (.iconst 2, 1) := by decide +kernel
theorem dL_law_1074 : decode cL_law 1074 = .ok (.iadd, 1) := by decide +kernel
theorem dL_law_1075 : decode cL_law 1075 = .ok (.iaload, 1) := by decide +kernel
theorem dL_law_1076 : decode cL_law 1076 = .ok (.aload_n 0, 1) := by decide +kernel
theorem dL_law_1077 : decode cL_law 1077 = .ok (.iload 4, 2) := by decide +kernel
theorem dL_law_1079 : decode cL_law 1079 = .ok (.iconst 3, 1) := by decide +kernel
theorem dL_law_1080 : decode cL_law 1080 = .ok (.iadd, 1) := by decide +kernel
theorem dL_law_1081 : decode cL_law 1081 = .ok (.iaload, 1) := by decide +kernel
theorem dL_law_1082 : decode cL_law 1082 = .ok (.invokevirtual 117, 3) := by decide +kernel
theorem dL_law_1085 : decode cL_law 1085 = .ok (.aload_n 2, 1) := by decide +kernel
theorem dL_law_1086 : decode cL_law 1086 = .ok (.aload_n 0, 1) := by decide +kernel
theorem dL_law_1087 : decode cL_law 1087 = .ok (.iload 4, 2) := by decide +kernel
theorem dL_law_1089 : decode cL_law 1089 = .ok (.iconst 1, 1) := by decide +kernel
theorem dL_law_1090 : decode cL_law 1090 = .ok (.iadd, 1) := by decide +kernel
theorem dL_law_1091 : decode cL_law 1091 = .ok (.iaload, 1) := by decide +kernel
theorem dL_law_1092 : decode cL_law 1092 = .ok (.aload_n 0, 1) := by decide +kernel
theorem dL_law_1093 : decode cL_law 1093 = .ok (.iload 4, 2) := by decide +kernel
theorem dL_law_1095 : decode cL_law 1095 = .ok (.iconst 2, 1) := by decide +kernel
theorem dL_law_1096 : decode cL_law 1096 = .ok (.iadd, 1) := by decide +kernel
theorem dL_law_1097 : decode cL_law 1097 = .ok (.iaload, 1) := by decide +kernel
theorem dL_law_1098 : decode cL_law 1098 = .ok (.aload_n 0, 1) := by decide +kernel
theorem dL_law_1099 : decode cL_law 1099 = .ok (.iload 4, 2) := by decide +kernel
theorem dL_law_1101 : decode cL_law 1101 = .ok (.iconst 3, 1) := by decide +kernel
theorem dL_law_1102 : decode cL_law 1102 = .ok (.iadd, 1) := by decide +kernel
theorem dL_law_1103 : decode cL_law 1103 = .ok (.iaload, 1) := by decide +kernel
theorem dL_law_1104 : decode cL_law 1104 = .ok (.invokevirtual 120, 3) := by decide +kernel
theorem dL_law_1107 : decode cL_law 1107 = .ok (.if_icmp .eq 491, 3) := by decide +kernel
theorem dL_law_1110 : decode cL_law 1110 = .ok (.iconst 0, 1) := by decide +kernel
theorem dL_law_1111 : decode cL_law 1111 = .ok (.ireturn, 1) := by decide +kernel
theorem dL_law_1112 : decode cL_law 1112 = .ok (.aload_n 1, 1) := by decide +kernel
theorem dL_law_1113 : decode cL_law 1113 = .ok (.aload_n 0, 1) := by decide +kernel
theorem dL_law_1114 : decode cL_law 1114 = .ok (.iload 4, 2) := by decide +kernel
theorem dL_law_1116 : decode cL_law 1116 = .ok (.iconst 1, 1) := by decide +kernel
theorem dL_law_1117 : decode cL_law 1117 = .ok (.iadd, 1) := by decide +kernel
theorem dL_law_1118 : decode cL_law 1118 = .ok (.iaload, 1) := by decide +kernel
theorem dL_law_1119 : decode cL_law 1119 = .ok (.aload_n 0, 1) := by decide +kernel
theorem dL_law_1120 : decode cL_law 1120 = .ok (.iload 4, 2) := by decide +kernel
theorem dL_law_1122 : decode cL_law 1122 = .ok (.iconst 2, 1) := by decide +kernel
theorem dL_law_1123 : decode cL_law 1123 = .ok (.iadd, 1) := by decide +kernel
theorem dL_law_1124 : decode cL_law 1124 = .ok (.iaload, 1) := by decide +kernel
theorem dL_law_1125 : decode cL_law 1125 = .ok (.aload_n 0, 1) := by decide +kernel
theorem dL_law_1126 : decode cL_law 1126 = .ok (.iload 4, 2) := by decide +kernel
theorem dL_law_1128 : decode cL_law 1128 = .ok (.iconst 3, 1) := by decide +kernel
theorem dL_law_1129 : decode cL_law 1129 = .ok (.iadd, 1) := by decide +kernel
theorem dL_law_1130 : decode cL_law 1130 = .ok (.iaload, 1) := by decide +kernel
theorem dL_law_1131 : decode cL_law 1131 = .ok (.invokevirtual 121, 3) := by decide +kernel
theorem dL_law_1134 : decode cL_law 1134 = .ok (.aload_n 2, 1) := by decide +kernel
theorem dL_law_1135 : decode cL_law 1135 = .ok (.aload_n 0, 1) := by decide +kernel
theorem dL_law_1136 : decode cL_law 1136 = .ok (.iload 4, 2) := by decide +kernel
theorem dL_law_1138 : decode cL_law 1138 = .ok (.iconst 1, 1) := by decide +kernel
theorem dL_law_1139 : decode cL_law 1139 = .ok (.iadd, 1) := by decide +kernel
theorem dL_law_1140 : decode cL_law 1140 = .ok (.iaload, 1) := by decide +kernel
theorem dL_law_1141 : decode cL_law 1141 = .ok (.aload_n 0, 1) := by decide +kernel
theorem dL_law_1142 : decode cL_law 1142 = .ok (.iload 4, 2) := by decide +kernel
theorem dL_law_1144 : decode cL_law 1144 = .ok (.iconst 2, 1) := by decide +kernel
theorem dL_law_1145 : decode cL_law 1145 = .ok (.iadd, 1) := by decide +kernel
theorem dL_law_1146 : decode cL_law 1146 = .ok (.iaload, 1) := by decide +kernel
theorem dL_law_1147 : decode cL_law 1147 = .ok (.aload_n 0, 1) := by decide +kernel
theorem dL_law_1148 : decode cL_law 1148 = .ok (.iload 4, 2) := by decide +kernel
theorem dL_law_1150 : decode cL_law 1150 = .ok (.iconst 3, 1) := by decide +kernel
theorem dL_law_1151 : decode cL_law 1151 = .ok (.iadd, 1) := by decide +kernel
theorem dL_law_1152 : decode cL_law 1152 = .ok (.iaload, 1) := by decide +kernel
theorem dL_law_1153 : decode cL_law 1153 = .ok (.invokevirtual 124, 3) := by decide +kernel
theorem dL_law_1156 : decode cL_law 1156 = .ok (.if_icmp .eq 442, 3) := by decide +kernel
theorem dL_law_1159 : decode cL_law 1159 = .ok (.iconst 0, 1) := by decide +kernel
theorem dL_law_1160 : decode cL_law 1160 = .ok (.ireturn, 1) := by decide +kernel
theorem dL_law_1161 : decode cL_law 1161 = .ok (.aload_n 1, 1) := by decide +kernel
theorem dL_law_1162 : decode cL_law 1162 = .ok (.aload_n 0, 1) := by decide +kernel
theorem dL_law_1163 : decode cL_law 1163 = .ok (.iload 4, 2) := by decide +kernel
theorem dL_law_1165 : decode cL_law 1165 = .ok (.iconst 1, 1) := by decide +kernel
theorem dL_law_1166 : decode cL_law 1166 = .ok (.iadd, 1) := by decide +kernel
theorem dL_law_1167 : decode cL_law 1167 = .ok (.iaload, 1) := by decide +kernel
theorem dL_law_1168 : decode cL_law 1168 = .ok (.aload_n 0, 1) := by decide +kernel
theorem dL_law_1169 : decode cL_law 1169 = .ok (.iload 4, 2) := by decide +kernel
theorem dL_law_1171 : decode cL_law 1171 = .ok (.iconst 2, 1) := by decide +kernel
theorem dL_law_1172 : decode cL_law 1172 = .ok (.iadd, 1) := by decide +kernel
theorem dL_law_1173 : decode cL_law 1173 = .ok (.iaload, 1) := by decide +kernel
theorem dL_law_1174 : decode cL_law 1174 = .ok (.invokevirtual 125, 3) := by decide +kernel
theorem dL_law_1177 : decode cL_law 1177 = .ok (.aload_n 2, 1) := by decide +kernel
theorem dL_law_1178 : decode cL_law 1178 = .ok (.aload_n 0, 1) := by decide +kernel
theorem dL_law_1179 : decode cL_law 1179 = .ok (.iload 4, 2) := by decide +kernel
theorem dL_law_1181 : decode cL_law 1181 = .ok (.iconst 1, 1) := by decide +kernel
theorem dL_law_1182 : decode cL_law 1182 = .ok (.iadd, 1) := by decide +kernel
theorem dL_law_1183 : decode cL_law 1183 = .ok (.iaload, 1) := by decide +kernel
theorem dL_law_1184 : decode cL_law 1184 = .ok (.aload_n 0, 1) := by decide +kernel
theorem dL_law_1185 : decode cL_law 1185 = .ok (.iload 4, 2) := by decide +kernel
theorem dL_law_1187 : decode cL_law 1187 = .ok (.iconst 2, 1) := by decide +kernel
theorem dL_law_1188 : decode cL_law 1188 = .ok (.iadd, 1) := by decide +kernel
theorem dL_law_1189 : decode cL_law 1189 = .ok (.iaload, 1) := by decide +kernel
theorem dL_law_1190 : decode cL_law 1190 = .ok (.invokevirtual 128, 3) := by decide +kernel
theorem dL_law_1193 : decode cL_law 1193 = .ok (.if_icmp .eq 405, 3) := by decide +kernel
theorem dL_law_1196 : decode cL_law 1196 = .ok (.iconst 0, 1) := by decide +kernel
theorem dL_law_1197 : decode cL_law 1197 = .ok (.ireturn, 1) := by decide +kernel
theorem dL_law_1198 : decode cL_law 1198 = .ok (.aload_n 1, 1) := by decide +kernel
theorem dL_law_1199 : decode cL_law 1199 = .ok (.invokevirtual 129, 3) := by decide +kernel
theorem dL_law_1202 : decode cL_law 1202 = .ok (.aload_n 2, 1) := by decide +kernel
theorem dL_law_1203 : decode cL_law 1203 = .ok (.invokevirtual 133, 3) := by decide +kernel
theorem dL_law_1206 : decode cL_law 1206 = .ok (.if_icmp .eq 392, 3) := by decide +kernel
theorem dL_law_1209 : decode cL_law 1209 = .ok (.iconst 0, 1) := by decide +kernel
theorem dL_law_1210 : decode cL_law 1210 = .ok (.ireturn, 1) := by decide +kernel
theorem dL_law_1211 : decode cL_law 1211 = .ok (.aload_n 1, 1) := by decide +kernel
theorem dL_law_1212 : decode cL_law 1212 = .ok (.invokevirtual 134, 3) := by decide +kernel
theorem dL_law_1215 : decode cL_law 1215 = .ok (.aload_n 2, 1) := by decide +kernel
theorem dL_law_1216 : decode cL_law 1216 = .ok (.invokevirtual 137, 3) := by decide +kernel
theorem dL_law_1219 : decode cL_law 1219 = .ok (.if_icmp .eq 379, 3) := by decide +kernel
theorem dL_law_1222 : decode cL_law 1222 = .ok (.iconst 0, 1) := by decide +kernel
theorem dL_law_1223 : decode cL_law 1223 = .ok (.ireturn, 1) := by decide +kernel
theorem dL_law_1224 : decode cL_law 1224 = .ok (.aload_n 1, 1) := by decide +kernel
theorem dL_law_1225 : decode cL_law 1225 = .ok (.aload_n 0, 1) := by decide +kernel
theorem dL_law_1226 : decode cL_law 1226 = .ok (.iload 4, 2) := by decide +kernel
theorem dL_law_1228 : decode cL_law 1228 = .ok (.iconst 1, 1) := by decide +kernel
theorem dL_law_1229 : decode cL_law 1229 = .ok (.iadd, 1) := by decide +kernel
theorem dL_law_1230 : decode cL_law 1230 = .ok (.iaload, 1) := by decide +kernel
theorem dL_law_1231 : decode cL_law 1231 = .ok (.invokevirtual 138, 3) := by decide +kernel
theorem dL_law_1234 : decode cL_law 1234 = .ok (.aload_n 2, 1) := by decide +kernel
theorem dL_law_1235 : decode cL_law 1235 = .ok (.aload_n 0, 1) := by decide +kernel
theorem dL_law_1236 : decode cL_law 1236 = .ok (.iload 4, 2) := by decide +kernel
theorem dL_law_1238 : decode cL_law 1238 = .ok (.iconst 1, 1) := by decide +kernel
theorem dL_law_1239 : decode cL_law 1239 = .ok (.iadd, 1) := by decide +kernel
theorem dL_law_1240 : decode cL_law 1240 = .ok (.iaload, 1) := by decide +kernel
theorem dL_law_1241 : decode cL_law 1241 = .ok (.invokevirtual 141, 3) := by decide +kernel
theorem dL_law_1244 : decode cL_law 1244 = .ok (.if_icmp .eq 354, 3) := by decide +kernel
theorem dL_law_1247 : decode cL_law 1247 = .ok (.iconst 0, 1) := by decide +kernel
theorem dL_law_1248 : decode cL_law 1248 = .ok (.ireturn, 1) := by decide +kernel
theorem dL_law_1249 : decode cL_law 1249 = .ok (.aload_n 1, 1) := by decide +kernel
theorem dL_law_1250 : decode cL_law 1250 = .ok (.aload_n 0, 1) := by decide +kernel
theorem dL_law_1251 : decode cL_law 1251 = .ok (.iload 4, 2) := by decide +kernel
theorem dL_law_1253 : decode cL_law 1253 = .ok (.iconst 1, 1) := by decide +kernel
theorem dL_law_1254 : decode cL_law 1254 = .ok (.iadd, 1) := by decide +kernel
theorem dL_law_1255 : decode cL_law 1255 = .ok (.iaload, 1) := by decide +kernel
theorem dL_law_1256 : decode cL_law 1256 = .ok (.aload_n 0, 1) := by decide +kernel
theorem dL_law_1257 : decode cL_law 1257 = .ok (.iload 4, 2) := by decide +kernel
theorem dL_law_1259 : decode cL_law 1259 = .ok (.iconst 2, 1) := by decide +kernel
theorem dL_law_1260 : decode cL_law 1260 = .ok (.iadd, 1) := by decide +kernel
theorem dL_law_1261 : decode cL_law 1261 = .ok (.iaload, 1) := by decide +kernel
theorem dL_law_1262 : decode cL_law 1262 = .ok (.aload_n 0, 1) := by decide +kernel
theorem dL_law_1263 : decode cL_law 1263 = .ok (.iload 4, 2) := by decide +kernel
theorem dL_law_1265 : decode cL_law 1265 = .ok (.iconst 3, 1) := by decide +kernel
theorem dL_law_1266 : decode cL_law 1266 = .ok (.iadd, 1) := by decide +kernel
theorem dL_law_1267 : decode cL_law 1267 = .ok (.iaload, 1) := by decide +kernel
theorem dL_law_1268 : decode cL_law 1268 = .ok (.aload_n 0, 1) := by decide +kernel
theorem dL_law_1269 : decode cL_law 1269 = .ok (.iload 4, 2) := by decide +kernel
theorem dL_law_1271 : decode cL_law 1271 = .ok (.iconst 4, 1) := by decide +kernel
theorem dL_law_1272 : decode cL_law 1272 = .ok (.iadd, 1) := by decide +kernel
theorem dL_law_1273 : decode cL_law 1273 = .ok (.iaload, 1) := by decide +kernel
theorem dL_law_1274 : decode cL_law 1274 = .ok (.invokevirtual 142, 3) := by decide +kernel
theorem dL_law_1277 : decode cL_law 1277 = .ok (.aload_n 2, 1) := by decide +kernel
theorem dL_law_1278 : decode cL_law 1278 = .ok (.aload_n 0, 1) := by decide +kernel
theorem dL_law_1279 : decode cL_law 1279 = .ok (.iload 4, 2) := by decide +kernel
theorem dL_law_1281 : decode cL_law 1281 = .ok (.iconst 1, 1) := by decide +kernel
theorem dL_law_1282 : decode cL_law 1282 = .ok (.iadd, 1) := by decide +kernel
theorem dL_law_1283 : decode cL_law 1283 = .ok (.iaload, 1) := by decide +kernel
theorem dL_law_1284 : decode cL_law 1284 = .ok (.aload_n 0, 1) := by decide +kernel
theorem dL_law_1285 : decode cL_law 1285 = .ok (.iload 4, 2) := by decide +kernel
theorem dL_law_1287 : decode cL_law 1287 = .ok (.iconst 2, 1) := by decide +kernel
theorem dL_law_1288 : decode cL_law 1288 = .ok (.iadd, 1) := by decide +kernel
theorem dL_law_1289 : decode cL_law 1289 = .ok (.iaload, 1) := by decide +kernel
theorem dL_law_1290 : decode cL_law 1290 = .ok (.aload_n 0, 1) := by decide +kernel
theorem dL_law_1291 : decode cL_law 1291 = .ok (.iload 4, 2) := by decide +kernel
theorem dL_law_1293 : decode cL_law 1293 = .ok (.iconst 3, 1) := by decide +kernel
theorem dL_law_1294 : decode cL_law 1294 = .ok (.iadd, 1) := by decide +kernel
theorem dL_law_1295 : decode cL_law 1295 = .ok (.iaload, 1) := by decide +kernel
theorem dL_law_1296 : decode cL_law 1296 = .ok (.aload_n 0, 1) := by decide +kernel
theorem dL_law_1297 : decode cL_law 1297 = .ok (.iload 4, 2) := by decide +kernel
theorem dL_law_1299 : decode cL_law 1299 = .ok (.iconst 4, 1) := by decide +kernel
theorem dL_law_1300 : decode cL_law 1300 = .ok (.iadd, 1) := by decide +kernel
theorem dL_law_1301 : decode cL_law 1301 = .ok (.iaload, 1) := by decide +kernel
theorem dL_law_1302 : decode cL_law 1302 = .ok (.invokevirtual 145, 3) := by decide +kernel
theorem dL_law_1305 : decode cL_law 1305 = .ok (.if_icmp .eq 293, 3) := by decide +kernel
theorem dL_law_1308 : decode cL_law 1308 = .ok (.iconst 0, 1) := by decide +kernel
theorem dL_law_1309 : decode cL_law 1309 = .ok (.ireturn, 1) := by decide +kernel
theorem dL_law_1310 : decode cL_law 1310 = .ok (.aload_n 1, 1) := by decide +kernel
theorem dL_law_1311 : decode cL_law 1311 = .ok (.aload_n 0, 1) := by decide +kernel
theorem dL_law_1312 : decode cL_law 1312 = .ok (.iload 4, 2) := by decide +kernel
theorem dL_law_1314 : decode cL_law 1314 = .ok (.iconst 1, 1) := by decide +kernel
theorem dL_law_1315 : decode cL_law 1315 = .ok (.iadd, 1) := by decide +kernel
theorem dL_law_1316 : decode cL_law 1316 = .ok (.iaload, 1) := by decide +kernel
theorem dL_law_1317 : decode cL_law 1317 = .ok (.aload_n 0, 1) := by decide +kernel
theorem dL_law_1318 : decode cL_law 1318 = .ok (.iload 4, 2) := by decide +kernel
theorem dL_law_1320 : decode cL_law 1320 = .ok (.iconst 2, 1) := by decide +kernel
theorem dL_law_1321 : decode cL_law 1321 = .ok (.iadd, 1) := by decide +kernel
theorem dL_law_1322 : decode cL_law 1322 = .ok (.iaload, 1) := by decide +kernel
theorem dL_law_1323 : decode cL_law 1323 = .ok (.aload_n 0, 1) := by decide +kernel
theorem dL_law_1324 : decode cL_law 1324 = .ok (.iload 4, 2) := by decide +kernel
theorem dL_law_1326 : decode cL_law 1326 = .ok (.iconst 3, 1) := by decide +kernel
theorem dL_law_1327 : decode cL_law 1327 = .ok (.iadd, 1) := by decide +kernel
theorem dL_law_1328 : decode cL_law 1328 = .ok (.iaload, 1) := by decide +kernel
theorem dL_law_1329 : decode cL_law 1329 = .ok (.invokevirtual 146, 3) := by decide +kernel
theorem dL_law_1332 : decode cL_law 1332 = .ok (.aload_n 2, 1) := by decide +kernel
theorem dL_law_1333 : decode cL_law 1333 = .ok (.aload_n 0, 1) := by decide +kernel
theorem dL_law_1334 : decode cL_law 1334 = .ok (.iload 4, 2) := by decide +kernel
theorem dL_law_1336 : decode cL_law 1336 = .ok (.iconst 1, 1) := by decide +kernel
theorem dL_law_1337 : decode cL_law 1337 = .ok (.iadd, 1) := by decide +kernel
theorem dL_law_1338 : decode cL_law 1338 = .ok (.iaload, 1) := by decide +kernel
theorem dL_law_1339 : decode cL_law 1339 = .ok (.aload_n 0, 1) := by decide +kernel
theorem dL_law_1340 : decode cL_law 1340 = .ok (.iload 4, 2) := by decide +kernel
theorem dL_law_1342 : decode cL_law 1342 = .ok (.iconst 2, 1) := by decide +kernel
theorem dL_law_1343 : decode cL_law 1343 = .ok (.iadd, 1) := by decide +kernel
theorem dL_law_1344 : decode cL_law 1344 = .ok (.iaload, 1) := by decide +kernel
theorem dL_law_1345 : decode cL_law 1345 = .ok (.aload_n 0, 1) := by decide +kernel
theorem dL_law_1346 : decode cL_law 1346 = .ok (.iload 4, 2) := by decide +kernel
theorem dL_law_1348 : decode cL_law 1348 = .ok (.iconst 3, 1) := by decide +kernel
theorem dL_law_1349 : decode cL_law 1349 = .ok (.iadd, 1) := by decide +kernel
theorem dL_law_1350 : decode cL_law 1350 = .ok (.iaload, 1) := by decide +kernel
theorem dL_law_1351 : decode cL_law 1351 = .ok (.invokevirtual 149, 3) := by decide +kernel
theorem dL_law_1354 : decode cL_law 1354 = .ok (.if_icmp .eq 244, 3) := by decide +kernel
theorem dL_law_1357 : decode cL_law 1357 = .ok (.iconst 0, 1) := by decide +kernel
theorem dL_law_1358 : decode cL_law 1358 = .ok (.ireturn, 1) := by decide +kernel
theorem dL_law_1359 : decode cL_law 1359 = .ok (.aload_n 1, 1) := by decide +kernel
theorem dL_law_1360 : decode cL_law 1360 = .ok (.aload_n 0, 1) := by decide +kernel
theorem dL_law_1361 : decode cL_law 1361 = .ok (.iload 4, 2) := by decide +kernel
theorem dL_law_1363 : decode cL_law 1363 = .ok (.iconst 1, 1) := by decide +kernel
theorem dL_law_1364 : decode cL_law 1364 = .ok (.iadd, 1) := by decide +kernel
theorem dL_law_1365 : decode cL_law 1365 = .ok (.iaload, 1) := by decide +kernel
theorem dL_law_1366 : decode cL_law 1366 = .ok (.aload_n 0, 1) := by decide +kernel
theorem dL_law_1367 : decode cL_law 1367 = .ok (.iload 4, 2) := by decide +kernel
theorem dL_law_1369 : decode cL_law 1369 = .ok (.iconst 2, 1) := by decide +kernel
theorem dL_law_1370 : decode cL_law 1370 = .ok (.iadd, 1) := by decide +kernel
theorem dL_law_1371 : decode cL_law 1371 = .ok (.iaload, 1) := by decide +kernel
theorem dL_law_1372 : decode cL_law 1372 = .ok (.aload_n 0, 1) := by decide +kernel
theorem dL_law_1373 : decode cL_law 1373 = .ok (.iload 4, 2) := by decide +kernel
theorem dL_law_1375 : decode cL_law 1375 = .ok (.iconst 3, 1) := by decide +kernel
theorem dL_law_1376 : decode cL_law 1376 = .ok (.iadd, 1) := by decide +kernel
theorem dL_law_1377 : decode cL_law 1377 = .ok (.iaload, 1) := by decide +kernel
theorem dL_law_1378 : decode cL_law 1378 = .ok (.invokevirtual 150, 3) := by decide +kernel
theorem dL_law_1381 : decode cL_law 1381 = .ok (.aload_n 2, 1) := by decide +kernel
theorem dL_law_1382 : decode cL_law 1382 = .ok (.aload_n 0, 1) := by decide +kernel
theorem dL_law_1383 : decode cL_law 1383 = .ok (.iload 4, 2) := by decide +kernel
theorem dL_law_1385 : decode cL_law 1385 = .ok (.iconst 1, 1) := by decide +kernel
theorem dL_law_1386 : decode cL_law 1386 = .ok (.iadd, 1) := by decide +kernel
theorem dL_law_1387 : decode cL_law 1387 = .ok (.iaload, 1) := by decide +kernel
theorem dL_law_1388 : decode cL_law 1388 = .ok (.aload_n 0, 1) := by decide +kernel
theorem dL_law_1389 : decode cL_law 1389 = .ok (.iload 4, 2) := by decide +kernel
theorem dL_law_1391 : decode cL_law 1391 = .ok (.iconst 2, 1) := by decide +kernel
theorem dL_law_1392 : decode cL_law 1392 = .ok (.iadd, 1) := by decide +kernel
theorem dL_law_1393 : decode cL_law 1393 = .ok (.iaload, 1) := by decide +kernel
theorem dL_law_1394 : decode cL_law 1394 = .ok (.aload_n 0, 1) := by decide +kernel
theorem dL_law_1395 : decode cL_law 1395 = .ok (.iload 4, 2) := by decide +kernel
theorem dL_law_1397 : decode cL_law 1397 = .ok (.iconst 3, 1) := by decide +kernel
theorem dL_law_1398 : decode cL_law 1398 = .ok (.iadd, 1) := by decide +kernel
theorem dL_law_1399 : decode cL_law 1399 = .ok (.iaload, 1) := by decide +kernel
theorem dL_law_1400 : decode cL_law 1400 = .ok (.invokevirtual 153, 3) := by decide +kernel
theorem dL_law_1403 : decode cL_law 1403 = .ok (.if_icmp .eq 195, 3) := by decide +kernel
theorem dL_law_1406 : decode cL_law 1406 = .ok (.iconst 0, 1) := by decide +kernel
theorem dL_law_1407 : decode cL_law 1407 = .ok (.ireturn, 1) := by decide +kernel
theorem dL_law_1408 : decode cL_law 1408 = .ok (.aload_n 1, 1) := by decide +kernel
theorem dL_law_1409 : decode cL_law 1409 = .ok (.aload_n 0, 1) := by decide +kernel
theorem dL_law_1410 : decode cL_law 1410 = .ok (.iload 4, 2) := by decide +kernel
theorem dL_law_1412 : decode cL_law 1412 = .ok (.iconst 1, 1) := by decide +kernel
theorem dL_law_1413 : decode cL_law 1413 = .ok (.iadd, 1) := by decide +kernel
theorem dL_law_1414 : decode cL_law 1414 = .ok (.iaload, 1) := by decide +kernel
theorem dL_law_1415 : decode cL_law 1415 = .ok (.aload_n 0, 1) := by decide +kernel
theorem dL_law_1416 : decode cL_law 1416 = .ok (.iload 4, 2) := by decide +kernel
theorem dL_law_1418 : decode cL_law 1418 = .ok (.iconst 2, 1) := by decide +kernel
theorem dL_law_1419 : decode cL_law 1419 = .ok (.iadd, 1) := by decide +kernel
theorem dL_law_1420 : decode cL_law 1420 = .ok (.iaload, 1) := by decide +kernel
theorem dL_law_1421 : decode cL_law 1421 = .ok (.aload_n 3, 1) := by decide +kernel
theorem dL_law_1422 : decode cL_law 1422 = .ok (.invokestatic 154, 3) := by decide +kernel
theorem dL_law_1425 : decode cL_law 1425 = .ok (.istore 5, 2) := by decide +kernel
theorem dL_law_1427 : decode cL_law 1427 = .ok (.aload_n 2, 1) := by decide +kernel
theorem dL_law_1428 : decode cL_law 1428 = .ok (.aload_n 0, 1) := by decide +kernel
theorem dL_law_1429 : decode cL_law 1429 = .ok (.iload 4, 2) := by decide +kernel
theorem dL_law_1431 : decode cL_law 1431 = .ok (.iconst 1, 1) := by decide +kernel
theorem dL_law_1432 : decode cL_law 1432 = .ok (.iadd, 1) := by decide +kernel
theorem dL_law_1433 : decode cL_law 1433 = .ok (.iaload, 1) := by decide +kernel
theorem dL_law_1434 : decode cL_law 1434 = .ok (.aload_n 0, 1) := by decide +kernel
theorem dL_law_1435 : decode cL_law 1435 = .ok (.iload 4, 2) := by decide +kernel
theorem dL_law_1437 : decode cL_law 1437 = .ok (.iconst 2, 1) := by decide +kernel
theorem dL_law_1438 : decode cL_law 1438 = .ok (.iadd, 1) := by decide +kernel
theorem dL_law_1439 : decode cL_law 1439 = .ok (.iaload, 1) := by decide +kernel
theorem dL_law_1440 : decode cL_law 1440 = .ok (.invokevirtual 159, 3) := by decide +kernel
theorem dL_law_1443 : decode cL_law 1443 = .ok (.lstore 6, 2) := by decide +kernel
theorem dL_law_1445 : decode cL_law 1445 = .ok (.aload_n 2, 1) := by decide +kernel
theorem dL_law_1446 : decode cL_law 1446 = .ok (.invokevirtual 160, 3) := by decide +kernel
theorem dL_law_1449 : decode cL_law 1449 = .ok (.iload 5, 2) := by decide +kernel
theorem dL_law_1451 : decode cL_law 1451 = .ok (.if_icmp .eq 5, 3) := by decide +kernel
theorem dL_law_1454 : decode cL_law 1454 = .ok (.iconst 0, 1) := by decide +kernel
theorem dL_law_1455 : decode cL_law 1455 = .ok (.ireturn, 1) := by decide +kernel
theorem dL_law_1456 : decode cL_law 1456 = .ok (.iload 5, 2) := by decide +kernel
theorem dL_law_1458 : decode cL_law 1458 = .ok (.ifCond .ne 14, 3) := by decide +kernel
theorem dL_law_1461 : decode cL_law 1461 = .ok (.aload_n 3, 1) := by decide +kernel
theorem dL_law_1462 : decode cL_law 1462 = .ok (.iconst 0, 1) := by decide +kernel
theorem dL_law_1463 : decode cL_law 1463 = .ok (.laload, 1) := by decide +kernel
theorem dL_law_1464 : decode cL_law 1464 = .ok (.lload 6, 2) := by decide +kernel
theorem dL_law_1466 : decode cL_law 1466 = .ok (.lcmp, 1) := by decide +kernel
theorem dL_law_1467 : decode cL_law 1467 = .ok (.ifCond .eq 5, 3) := by decide +kernel
theorem dL_law_1470 : decode cL_law 1470 = .ok (.iconst 0, 1) := by decide +kernel
theorem dL_law_1471 : decode cL_law 1471 = .ok (.ireturn, 1) := by decide +kernel
theorem dL_law_1472 : decode cL_law 1472 = .ok (.goto 126, 3) := by decide +kernel
theorem dL_law_1475 : decode cL_law 1475 = .ok (.aload_n 1, 1) := by decide +kernel
theorem dL_law_1476 : decode cL_law 1476 = .ok (.aload_n 0, 1) := by decide +kernel
theorem dL_law_1477 : decode cL_law 1477 = .ok (.iload 4, 2) := by decide +kernel
theorem dL_law_1479 : decode cL_law 1479 = .ok (.iconst 1, 1) := by decide +kernel
theorem dL_law_1480 : decode cL_law 1480 = .ok (.iadd, 1) := by decide +kernel
theorem dL_law_1481 : decode cL_law 1481 = .ok (.iaload, 1) := by decide +kernel
theorem dL_law_1482 : decode cL_law 1482 = .ok (.aload_n 0, 1) := by decide +kernel
theorem dL_law_1483 : decode cL_law 1483 = .ok (.iload 4, 2) := by decide +kernel
theorem dL_law_1485 : decode cL_law 1485 = .ok (.iconst 2, 1) := by decide +kernel
theorem dL_law_1486 : decode cL_law 1486 = .ok (.iadd, 1) := by decide +kernel
theorem dL_law_1487 : decode cL_law 1487 = .ok (.iaload, 1) := by decide +kernel
theorem dL_law_1488 : decode cL_law 1488 = .ok (.aload_n 0, 1) := by decide +kernel
theorem dL_law_1489 : decode cL_law 1489 = .ok (.iload 4, 2) := by decide +kernel
theorem dL_law_1491 : decode cL_law 1491 = .ok (.iconst 3, 1) := by decide +kernel
theorem dL_law_1492 : decode cL_law 1492 = .ok (.iadd, 1) := by decide +kernel
theorem dL_law_1493 : decode cL_law 1493 = .ok (.iaload, 1) := by decide +kernel
theorem dL_law_1494 : decode cL_law 1494 = .ok (.aload_n 0, 1) := by decide +kernel
theorem dL_law_1495 : decode cL_law 1495 = .ok (.iload 4, 2) := by decide +kernel
theorem dL_law_1497 : decode cL_law 1497 = .ok (.iconst 4, 1) := by decide +kernel
theorem dL_law_1498 : decode cL_law 1498 = .ok (.iadd, 1) := by decide +kernel
theorem dL_law_1499 : decode cL_law 1499 = .ok (.iaload, 1) := by decide +kernel
theorem dL_law_1500 : decode cL_law 1500 = .ok (.aload_n 0, 1) := by decide +kernel
theorem dL_law_1501 : decode cL_law 1501 = .ok (.iload 4, 2) := by decide +kernel
theorem dL_law_1503 : decode cL_law 1503 = .ok (.iconst 5, 1) := by decide +kernel
theorem dL_law_1504 : decode cL_law 1504 = .ok (.iadd, 1) := by decide +kernel
theorem dL_law_1505 : decode cL_law 1505 = .ok (.iaload, 1) := by decide +kernel
theorem dL_law_1506 : decode cL_law 1506 = .ok (.invokevirtual 163, 3) := by decide +kernel
theorem dL_law_1509 : decode cL_law 1509 = .ok (.aload_n 2, 1) := by decide +kernel
theorem dL_law_1510 : decode cL_law 1510 = .ok (.aload_n 0, 1) := by decide +kernel
theorem dL_law_1511 : decode cL_law 1511 = .ok (.iload 4, 2) := by decide +kernel
theorem dL_law_1513 : decode cL_law 1513 = .ok (.iconst 1, 1) := by decide +kernel
theorem dL_law_1514 : decode cL_law 1514 = .ok (.iadd, 1) := by decide +kernel
theorem dL_law_1515 : decode cL_law 1515 = .ok (.iaload, 1) := by decide +kernel
theorem dL_law_1516 : decode cL_law 1516 = .ok (.aload_n 0, 1) := by decide +kernel
theorem dL_law_1517 : decode cL_law 1517 = .ok (.iload 4, 2) := by decide +kernel
theorem dL_law_1519 : decode cL_law 1519 = .ok (.iconst 2, 1) := by decide +kernel
theorem dL_law_1520 : decode cL_law 1520 = .ok (.iadd, 1) := by decide +kernel
theorem dL_law_1521 : decode cL_law 1521 = .ok (.iaload, 1) := by decide +kernel
theorem dL_law_1522 : decode cL_law 1522 = .ok (.aload_n 0, 1) := by decide +kernel
theorem dL_law_1523 : decode cL_law 1523 = .ok (.iload 4, 2) := by decide +kernel
theorem dL_law_1525 : decode cL_law 1525 = .ok (.iconst 3, 1) := by decide +kernel
theorem dL_law_1526 : decode cL_law 1526 = .ok (.iadd, 1) := by decide +kernel
theorem dL_law_1527 : decode cL_law 1527 = .ok (.iaload, 1) := by decide +kernel
theorem dL_law_1528 : decode cL_law 1528 = .ok (.aload_n 0, 1) := by decide +kernel
theorem dL_law_1529 : decode cL_law 1529 = .ok (.iload 4, 2) := by decide +kernel
theorem dL_law_1531 : decode cL_law 1531 = .ok (.iconst 4, 1) := by decide +kernel
theorem dL_law_1532 : decode cL_law 1532 = .ok (.iadd, 1) := by decide +kernel
theorem dL_law_1533 : decode cL_law 1533 = .ok (.iaload, 1) := by decide +kernel
theorem dL_law_1534 : decode cL_law 1534 = .ok (.aload_n 0, 1) := by decide +kernel
theorem dL_law_1535 : decode cL_law 1535 = .ok (.iload 4, 2) := by decide +kernel
theorem dL_law_1537 : decode cL_law 1537 = .ok (.iconst 5, 1) := by decide +kernel
theorem dL_law_1538 : decode cL_law 1538 = .ok (.iadd, 1) := by decide +kernel
theorem dL_law_1539 : decode cL_law 1539 = .ok (.iaload, 1) := by decide +kernel
theorem dL_law_1540 : decode cL_law 1540 = .ok (.invokevirtual 167, 3) := by decide +kernel
theorem dL_law_1543 : decode cL_law 1543 = .ok (.if_icmp .eq 55, 3) := by decide +kernel
theorem dL_law_1546 : decode cL_law 1546 = .ok (.iconst 0, 1) := by decide +kernel
theorem dL_law_1547 : decode cL_law 1547 = .ok (.ireturn, 1) := by decide +kernel
theorem dL_law_1548 : decode cL_law 1548 = .ok (.aload_n 1, 1) := by decide +kernel
theorem dL_law_1549 : decode cL_law 1549 = .ok (.aload_n 0, 1) := by decide +kernel
theorem dL_law_1550 : decode cL_law 1550 = .ok (.iload 4, 2) := by decide +kernel
theorem dL_law_1552 : decode cL_law 1552 = .ok (.iconst 1, 1) := by decide +kernel
theorem dL_law_1553 : decode cL_law 1553 = .ok (.iadd, 1) := by decide +kernel
theorem dL_law_1554 : decode cL_law 1554 = .ok (.iaload, 1) := by decide +kernel
theorem dL_law_1555 : decode cL_law 1555 = .ok (.invokevirtual 168, 3) := by decide +kernel
theorem dL_law_1558 : decode cL_law 1558 = .ok (.aload_n 2, 1) := by decide +kernel
theorem dL_law_1559 : decode cL_law 1559 = .ok (.aload_n 0, 1) := by decide +kernel
theorem dL_law_1560 : decode cL_law 1560 = .ok (.iload 4, 2) := by decide +kernel
theorem dL_law_1562 : decode cL_law 1562 = .ok (.iconst 1, 1) := by decide +kernel
theorem dL_law_1563 : decode cL_law 1563 = .ok (.iadd, 1) := by decide +kernel
theorem dL_law_1564 : decode cL_law 1564 = .ok (.iaload, 1) := by decide +kernel
theorem dL_law_1565 : decode cL_law 1565 = .ok (.invokevirtual 171, 3) := by decide +kernel
theorem dL_law_1568 : decode cL_law 1568 = .ok (.if_icmp .eq 30, 3) := by decide +kernel
theorem dL_law_1571 : decode cL_law 1571 = .ok (.iconst 0, 1) := by decide +kernel
theorem dL_law_1572 : decode cL_law 1572 = .ok (.ireturn, 1) := by decide +kernel
theorem dL_law_1573 : decode cL_law 1573 = .ok (.aload_n 1, 1) := by decide +kernel
theorem dL_law_1574 : decode cL_law 1574 = .ok (.aload_n 0, 1) := by decide +kernel
theorem dL_law_1575 : decode cL_law 1575 = .ok (.iload 4, 2) := by decide +kernel
theorem dL_law_1577 : decode cL_law 1577 = .ok (.iconst 1, 1) := by decide +kernel
theorem dL_law_1578 : decode cL_law 1578 = .ok (.iadd, 1) := by decide +kernel
theorem dL_law_1579 : decode cL_law 1579 = .ok (.iaload, 1) := by decide +kernel
theorem dL_law_1580 : decode cL_law 1580 = .ok (.invokevirtual 172, 3) := by decide +kernel
theorem dL_law_1583 : decode cL_law 1583 = .ok (.aload_n 2, 1) := by decide +kernel
theorem dL_law_1584 : decode cL_law 1584 = .ok (.aload_n 0, 1) := by decide +kernel
theorem dL_law_1585 : decode cL_law 1585 = .ok (.iload 4, 2) := by decide +kernel
theorem dL_law_1587 : decode cL_law 1587 = .ok (.iconst 1, 1) := by decide +kernel
theorem dL_law_1588 : decode cL_law 1588 = .ok (.iadd, 1) := by decide +kernel
theorem dL_law_1589 : decode cL_law 1589 = .ok (.iaload, 1) := by decide +kernel
theorem dL_law_1590 : decode cL_law 1590 = .ok (.invokevirtual 175, 3) := by decide +kernel
theorem dL_law_1593 : decode cL_law 1593 = .ok (.if_icmp .eq 5, 3) := by decide +kernel
theorem dL_law_1596 : decode cL_law 1596 = .ok (.iconst 0, 1) := by decide +kernel
theorem dL_law_1597 : decode cL_law 1597 = .ok (.ireturn, 1) := by decide +kernel
theorem dL_law_1598 : decode cL_law 1598 = .ok (.iinc 4 6, 3) := by decide +kernel
theorem dL_law_1601 : decode cL_law 1601 = .ok (.goto (-1578), 3) := by decide +kernel
theorem dL_law_1604 : decode cL_law 1604 = .ok (.iconst 1, 1) := by decide +kernel
theorem dL_law_1605 : decode cL_law 1605 = .ok (.ireturn, 1) := by decide +kernel
