theorem z_pick {big ws : List Cond} {is : List Nat} (h : ws = is.filterMap (fun i => big[i]?)) {w : Cond} (hw : w ∈ ws) : w ∈ big := by
  rw [h] at hw
  obtain ⟨i, -, hi⟩ := List.mem_filterMap.mp hw
  exact List.mem_of_getElem? hi
def zT_0 : List Cond := [.selects "SurpriseTax$Text" yX7_readLaw yX7_readLaw, .selects "SurpriseTax$Text" yX7_comes yX7_comes, .selects "SurpriseTax$Text" yX7_figure yX7_figure, .selects "SurpriseTax$Text" yX7_readTenths yX7_readTenths, .selects "SurpriseTax$Text" yX7_readPart yX7_readPart, .selects "SurpriseTax$Text" yX7_readPerson yX7_readPerson, .selects "SurpriseTax$Text" yX7_readRoad yX7_readRoad, .selects "SurpriseTax$Advice" yX1_choose yX1_choose, .selects "SurpriseTax$Advice" yX1_playRow yX1_playRow, .selects "SurpriseTax$Foresight" yX2_paidByOthers yX2_paidByOthers, .selects "SurpriseTax$Rolls" yX4_fits yX4_fits, .selects "SurpriseTax$Rolls" yX4_addTale yX4_addTale, .selects "SurpriseTaxModel" yX9_readRealm yX9_readRealm, .selects "SurpriseTaxModel" yX9_figure yX9_figure, .selects "SurpriseTaxModel" yX9_readTen yX9_readTen, .selects "SurpriseTaxModel" yX9_readPart yX9_readPart, .selects "SurpriseTaxModel" yX9_hasOpen yX9_hasOpen, .selects "SurpriseTaxModel" yX9_openOf yX9_openOf, .selects "SurpriseTaxModel" yX9_debtOf yX9_debtOf, .selects "SurpriseTaxModel" yX9_noOne yX9_noOne, .selects "SurpriseTaxModel" yX9_note yX9_note, .selects "SurpriseTaxModel" yX9_goEvent yX9_goEvent, .selects "SurpriseTaxModel" yX9_taxOf yX9_taxOf, .selects "SurpriseTaxModel" yX9_tenMean yX9_tenMean, .selects "SurpriseTaxModel" yX9_counselOf yX9_counselOf, .selects "SurpriseTaxModel" yX9_layBehind yX9_layBehind, .selects "SurpriseTaxModel" yX9_dayOf yX9_dayOf, .selects "SurpriseTaxModel" yX9_findJoke yX9_findJoke, .selects "SurpriseTaxModel" yX9_begin yX9_begin, .initialized "SurpriseTaxLaw", .initialized "SurpriseTax", .initialized "SurpriseTax$Text", .initialized "SurpriseTax$Realm", .initialized "SurpriseTax$State", .initialized "SurpriseTax$Acts", .initialized "SurpriseTax$Slots", .initialized "SurpriseTax$Rolls", .initialized "SurpriseTax$Advice", .initialized "SurpriseTax$Foresight", .initialized "SurpriseTaxModel", .initialized "java/lang/Math", .initialized "java/lang/System", .initialized "java/lang/Integer", .classLink "SurpriseTaxLaw" 7 "SurpriseTax", .instantiable "SurpriseTax" 11, .methodLink "SurpriseTaxLaw" 9 yX8_init, .instanceMethod yX8_init, .code yX8_init cX8_init 2 none]
def zT_1 : List Cond := [.methodLink "SurpriseTax" 1 objectInit, .instanceMethod objectInit, .code objectInit ⟨#[0xb1]⟩ 1 none, .classLink "SurpriseTax" 7 "SurpriseTax$Text", .instantiable "SurpriseTax$Text" 5, .instanceMethod yX7_init, .code yX7_init cX7_init 1 none, .methodLink "SurpriseTax$Text" 3 objectInit, .fieldLink "SurpriseTax$Text" 9 "SurpriseTax$Text" "bytes" "[I", .fieldLink "SurpriseTax$Text" 15 "SurpriseTax$Text" "tenths" "[I", .fieldLink "SurpriseTax$Text" 18 "SurpriseTax$Text" "length" "I", .fieldLink "SurpriseTax$Text" 22 "SurpriseTax$Text" "at" "I", .fieldLink "SurpriseTax$Text" 25 "SurpriseTax$Text" "fault" "I", .laysFinal "SurpriseTax$Text" "SurpriseTax$Text" "bytes" "[I", .laysFinal "SurpriseTax$Text" "SurpriseTax$Text" "tenths" "[I", .lays "SurpriseTax$Text" "SurpriseTax$Text" "length" "I", .lays "SurpriseTax$Text" "SurpriseTax$Text" "at" "I", .lays "SurpriseTax$Text" "SurpriseTax$Text" "fault" "I", .arrayClass .int, .classLink "SurpriseTax" 16 "SurpriseTax$Realm", .instantiable "SurpriseTax$Realm" 8, .instanceMethod yX3_init, .code yX3_init cX3_init 1 none, .methodLink "SurpriseTax$Realm" 3 objectInit, .fieldLink "SurpriseTax$Realm" 9 "SurpriseTax$Realm" "odds" "[I", .fieldLink "SurpriseTax$Realm" 15 "SurpriseTax$Realm" "nerve" "[I", .fieldLink "SurpriseTax$Realm" 18 "SurpriseTax$Realm" "roads" "[I", .fieldLink "SurpriseTax$Realm" 21 "SurpriseTax$Realm" "rate" "I", .fieldLink "SurpriseTax$Realm" 25 "SurpriseTax$Realm" "free" "I", .fieldLink "SurpriseTax$Realm" 28 "SurpriseTax$Realm" "price" "I", .fieldLink "SurpriseTax$Realm" 31 "SurpriseTax$Realm" "people" "I", .fieldLink "SurpriseTax$Realm" 34 "SurpriseTax$Realm" "roadCount" "I", .laysFinal "SurpriseTax$Realm" "SurpriseTax$Realm" "odds" "[I", .laysFinal "SurpriseTax$Realm" "SurpriseTax$Realm" "nerve" "[I", .laysFinal "SurpriseTax$Realm" "SurpriseTax$Realm" "roads" "[I", .lays "SurpriseTax$Realm" "SurpriseTax$Realm" "rate" "I", .lays "SurpriseTax$Realm" "SurpriseTax$Realm" "free" "I", .lays "SurpriseTax$Realm" "SurpriseTax$Realm" "price" "I", .lays "SurpriseTax$Realm" "SurpriseTax$Realm" "people" "I", .lays "SurpriseTax$Realm" "SurpriseTax$Realm" "roadCount" "I", .classLink "SurpriseTax" 23 "SurpriseTax$State", .instantiable "SurpriseTax$State" 1, .methodLink "SurpriseTax" 25 yX6_init, .instanceMethod yX6_init, .code yX6_init cX6_init 1 none, .methodLink "SurpriseTax$State" 5 objectInit, .methodLink "SurpriseTax$State" 15 yX6_clear, .instanceMethod yX6_clear]
def zT_2 : List Cond := [.selects "SurpriseTax$State" yX6_clear yX6_clear, .code yX6_clear cX6_clear 2 none, .methodLink "SurpriseTax$State" 18 yX6_forgetNews, .instanceMethod yX6_forgetNews, .selects "SurpriseTax$State" yX6_forgetNews yX6_forgetNews, .code yX6_forgetNews cX6_forgetNews 2 none, .methodLink "SurpriseTax$State" 34 yX6_setDeclared, .instanceMethod yX6_setDeclared, .selects "SurpriseTax$State" yX6_setDeclared yX6_setDeclared, .code yX6_setDeclared cX6_setDeclared 3 none, .methodLink "SurpriseTax$State" 38 yX6_setHeard, .instanceMethod yX6_setHeard, .selects "SurpriseTax$State" yX6_setHeard yX6_setHeard, .code yX6_setHeard cX6_setHeard 3 none, .fieldLink "SurpriseTax$State" 11 "SurpriseTax$State" "cells" "[I", .laysFinal "SurpriseTax$State" "SurpriseTax$State" "cells" "[I", .classLink "SurpriseTax" 36 "SurpriseTax$Acts", .instantiable "SurpriseTax$Acts" 3, .instanceMethod yX0_init, .code yX0_init cX0_init 1 none, .methodLink "SurpriseTax$Acts" 3 objectInit, .fieldLink "SurpriseTax$Acts" 11 "SurpriseTax$Acts" "store" "[I", .fieldLink "SurpriseTax$Acts" 17 "SurpriseTax$Acts" "count" "I", .fieldLink "SurpriseTax$Acts" 21 "SurpriseTax$Acts" "next" "I", .laysFinal "SurpriseTax$Acts" "SurpriseTax$Acts" "store" "[I", .lays "SurpriseTax$Acts" "SurpriseTax$Acts" "count" "I", .lays "SurpriseTax$Acts" "SurpriseTax$Acts" "next" "I", .classLink "SurpriseTax" 43 "SurpriseTax$Slots", .instantiable "SurpriseTax$Slots" 2, .instanceMethod yX5_init, .code yX5_init cX5_init 1 none, .methodLink "SurpriseTax$Slots" 3 objectInit, .fieldLink "SurpriseTax$Slots" 11 "SurpriseTax$Slots" "store" "[I", .fieldLink "SurpriseTax$Slots" 17 "SurpriseTax$Slots" "kept" "[Z", .laysFinal "SurpriseTax$Slots" "SurpriseTax$Slots" "store" "[I", .laysFinal "SurpriseTax$Slots" "SurpriseTax$Slots" "kept" "[Z", .arrayClass .boolean, .classLink "SurpriseTax" 50 "SurpriseTax$Rolls", .instantiable "SurpriseTax$Rolls" 6, .instanceMethod yX4_init, .code yX4_init cX4_init 1 none, .methodLink "SurpriseTax$Rolls" 3 objectInit, .fieldLink "SurpriseTax$Rolls" 9 "SurpriseTax$Rolls" "person" "[I", .fieldLink "SurpriseTax$Rolls" 15 "SurpriseTax$Rolls" "paid" "[I", .fieldLink "SurpriseTax$Rolls" 18 "SurpriseTax$Rolls" "count" "I", .fieldLink "SurpriseTax$Rolls" 22 "SurpriseTax$Rolls" "fitting" "I", .fieldLink "SurpriseTax$Rolls" 25 "SurpriseTax$Rolls" "kinds" "I", .fieldLink "SurpriseTax$Rolls" 28 "SurpriseTax$Rolls" "sure" "I"]
def zT_3 : List Cond := [.laysFinal "SurpriseTax$Rolls" "SurpriseTax$Rolls" "person" "[I", .laysFinal "SurpriseTax$Rolls" "SurpriseTax$Rolls" "paid" "[I", .lays "SurpriseTax$Rolls" "SurpriseTax$Rolls" "count" "I", .lays "SurpriseTax$Rolls" "SurpriseTax$Rolls" "fitting" "I", .lays "SurpriseTax$Rolls" "SurpriseTax$Rolls" "kinds" "I", .lays "SurpriseTax$Rolls" "SurpriseTax$Rolls" "sure" "I", .classLink "SurpriseTax" 57 "SurpriseTax$Advice", .instantiable "SurpriseTax$Advice" 3, .instanceMethod yX1_init, .code yX1_init cX1_init 1 none, .methodLink "SurpriseTax$Advice" 3 objectInit, .classLink "SurpriseTax$Advice" 9 "SurpriseTax$State", .methodLink "SurpriseTax$Advice" 11 yX6_init, .fieldLink "SurpriseTax$Advice" 12 "SurpriseTax$Advice" "trial" "LSurpriseTax$State;", .fieldLink "SurpriseTax$Advice" 18 "SurpriseTax$Advice" "choice" "I", .fieldLink "SurpriseTax$Advice" 22 "SurpriseTax$Advice" "tenfold" "I", .laysFinal "SurpriseTax$Advice" "SurpriseTax$Advice" "trial" "LSurpriseTax$State;", .lays "SurpriseTax$Advice" "SurpriseTax$Advice" "choice" "I", .lays "SurpriseTax$Advice" "SurpriseTax$Advice" "tenfold" "I", .classLink "SurpriseTax" 64 "SurpriseTax$Foresight", .instantiable "SurpriseTax$Foresight" 2, .instanceMethod yX2_init, .code yX2_init cX2_init 1 none, .methodLink "SurpriseTax$Foresight" 3 objectInit, .classLink "SurpriseTax$Foresight" 9 "SurpriseTax$State", .methodLink "SurpriseTax$Foresight" 11 yX6_init, .fieldLink "SurpriseTax$Foresight" 12 "SurpriseTax$Foresight" "ahead" "LSurpriseTax$State;", .fieldLink "SurpriseTax$Foresight" 18 "SurpriseTax$Foresight" "jokeRow" "I", .laysFinal "SurpriseTax$Foresight" "SurpriseTax$Foresight" "ahead" "LSurpriseTax$State;", .lays "SurpriseTax$Foresight" "SurpriseTax$Foresight" "jokeRow" "I", .fieldLink "SurpriseTax" 10 "SurpriseTax" "text" "LSurpriseTax$Text;", .fieldLink "SurpriseTax" 19 "SurpriseTax" "realm" "LSurpriseTax$Realm;", .fieldLink "SurpriseTax" 26 "SurpriseTax" "now" "LSurpriseTax$State;", .fieldLink "SurpriseTax" 30 "SurpriseTax" "draftRealm" "LSurpriseTax$Realm;", .fieldLink "SurpriseTax" 33 "SurpriseTax" "draftState" "LSurpriseTax$State;", .fieldLink "SurpriseTax" 39 "SurpriseTax" "acts" "LSurpriseTax$Acts;", .fieldLink "SurpriseTax" 46 "SurpriseTax" "slots" "LSurpriseTax$Slots;", .fieldLink "SurpriseTax" 53 "SurpriseTax" "rolls" "LSurpriseTax$Rolls;", .fieldLink "SurpriseTax" 60 "SurpriseTax" "advice" "LSurpriseTax$Advice;", .fieldLink "SurpriseTax" 67 "SurpriseTax" "foresight" "LSurpriseTax$Foresight;", .fieldLink "SurpriseTax" 71 "SurpriseTax" "seed" "J", .laysFinal "SurpriseTax" "SurpriseTax" "text" "LSurpriseTax$Text;", .laysFinal "SurpriseTax" "SurpriseTax" "realm" "LSurpriseTax$Realm;", .laysFinal "SurpriseTax" "SurpriseTax" "now" "LSurpriseTax$State;", .laysFinal "SurpriseTax" "SurpriseTax" "draftRealm" "LSurpriseTax$Realm;", .laysFinal "SurpriseTax" "SurpriseTax" "draftState" "LSurpriseTax$State;", .laysFinal "SurpriseTax" "SurpriseTax" "acts" "LSurpriseTax$Acts;", .laysFinal "SurpriseTax" "SurpriseTax" "slots" "LSurpriseTax$Slots;"]
def zT_4 : List Cond := [.laysFinal "SurpriseTax" "SurpriseTax" "rolls" "LSurpriseTax$Rolls;", .laysFinal "SurpriseTax" "SurpriseTax" "advice" "LSurpriseTax$Advice;", .laysFinal "SurpriseTax" "SurpriseTax" "foresight" "LSurpriseTax$Foresight;", .lays "SurpriseTax" "SurpriseTax" "seed" "J", .methodLink "SurpriseTaxLaw" 13 yX8_write, .instanceMethod yX8_write, .selects "SurpriseTax" yX8_write yX8_write, .code yX8_write cX8_write 2 (some .int), .methodLink "SurpriseTax" 79 yX7_length, .instanceMethod yX7_length, .selects "SurpriseTax$Text" yX7_length yX7_length, .code yX7_length cX7_length 1 (some .int), .methodLink "SurpriseTax" 83 yX7_add, .instanceMethod yX7_add, .selects "SurpriseTax$Text" yX7_add yX7_add, .code yX7_add cX7_add 2 none, .methodLink "SurpriseTaxLaw" 18 yX8_wipe, .instanceMethod yX8_wipe, .selects "SurpriseTax" yX8_wipe yX8_wipe, .code yX8_wipe cX8_wipe 2 (some .int), .methodLink "SurpriseTax" 87 yX7_clear, .instanceMethod yX7_clear, .selects "SurpriseTax$Text" yX7_clear yX7_clear, .code yX7_clear cX7_clear 1 none, .methodLink "SurpriseTaxLaw" 23 yX8_fault, .instanceMethod yX8_fault, .selects "SurpriseTax" yX8_fault yX8_fault, .code yX8_fault cX8_fault 1 (some .int), .methodLink "SurpriseTax" 90 yX7_read, .instanceMethod yX7_read, .selects "SurpriseTax$Text" yX7_read yX7_read, .code yX7_read cX7_read 4 (some .int), .methodLink "SurpriseTax$Text" 28 yX3_sendAllAway, .instanceMethod yX3_sendAllAway, .selects "SurpriseTax$Realm" yX3_sendAllAway yX3_sendAllAway, .code yX3_sendAllAway cX3_sendAllAway 2 none, .methodLink "SurpriseTax$Text" 33 yX6_clear, .methodLink "SurpriseTax$Text" 38 yX7_readLaw, .instanceMethod yX7_readLaw, .code yX7_readLaw cX7_readLaw 3 none, .methodLink "SurpriseTax$Text" 46 yX7_comes, .instanceMethod yX7_comes, .code yX7_comes cX7_comes 2 (some .boolean), .methodLink "SurpriseTax$Text" 50 yX7_figure, .instanceMethod yX7_figure, .code yX7_figure cX7_figure 3 (some .int), .methodLink "SurpriseTax$Text" 63 yX7_readTenths, .instanceMethod yX7_readTenths]
def zT_5 : List Cond := [.code yX7_readTenths cX7_readTenths 5 none, .methodLink "SurpriseTax$Text" 99 Lib.Math.max.name, .static Lib.Math.max.name, .code Lib.Math.max.name Lib.Math.max.code 2 (some .int), .methodLink "SurpriseTax$Text" 105 Lib.Math.min.name, .static Lib.Math.min.name, .code Lib.Math.min.name Lib.Math.min.code 2 (some .int), .methodLink "SurpriseTax$Text" 42 yX7_readPart, .instanceMethod yX7_readPart, .code yX7_readPart cX7_readPart 3 none, .methodLink "SurpriseTax$Text" 72 yX7_readPerson, .instanceMethod yX7_readPerson, .code yX7_readPerson cX7_readPerson 5 none, .methodLink "SurpriseTax$Text" 82 yX6_setExpected, .instanceMethod yX6_setExpected, .selects "SurpriseTax$State" yX6_setExpected yX6_setExpected, .code yX6_setExpected cX6_setExpected 4 none, .methodLink "SurpriseTax$Text" 86 yX6_setCoins, .instanceMethod yX6_setCoins, .selects "SurpriseTax$State" yX6_setCoins yX6_setCoins, .code yX6_setCoins cX6_setCoins 3 none, .methodLink "SurpriseTax$Text" 75 yX3_roadStarts, .instanceMethod yX3_roadStarts, .selects "SurpriseTax$Realm" yX3_roadStarts yX3_roadStarts, .code yX3_roadStarts cX3_roadStarts 3 (some .int), .methodLink "SurpriseTax$Realm" 37 yX3_roadEnds, .instanceMethod yX3_roadEnds, .selects "SurpriseTax$Realm" yX3_roadEnds yX3_roadEnds, .code yX3_roadEnds cX3_roadEnds 2 (some .int), .methodLink "SurpriseTax$Realm" 41 yX3_has, .instanceMethod yX3_has, .selects "SurpriseTax$Realm" yX3_has yX3_has, .code yX3_has cX3_has 2 (some .boolean), .methodLink "SurpriseTax$Realm" 45 yX3_everybody, .instanceMethod yX3_everybody, .selects "SurpriseTax$Realm" yX3_everybody yX3_everybody, .code yX3_everybody cX3_everybody 1 (some .int), .methodLink "SurpriseTax$Text" 79 yX7_readRoad, .instanceMethod yX7_readRoad, .code yX7_readRoad cX7_readRoad 4 none, .methodLink "SurpriseTax$Text" 93 yX3_roadEnds, .methodLink "SurpriseTax$Text" 96 yX3_addRoad, .instanceMethod yX3_addRoad, .selects "SurpriseTax$Realm" yX3_addRoad yX3_addRoad, .code yX3_addRoad cX3_addRoad 3 none, .methodLink "SurpriseTaxLaw" 27 yX8_realm, .instanceMethod yX8_realm, .selects "SurpriseTax" yX8_realm yX8_realm]
def zT_6 : List Cond := [.code yX8_realm cX8_realm 1 (some .int), .methodLink "SurpriseTax" 94 yX0_clear, .instanceMethod yX0_clear, .selects "SurpriseTax$Acts" yX0_clear yX0_clear, .code yX0_clear cX0_clear 1 none, .methodLink "SurpriseTax" 95 yX5_clear, .instanceMethod yX5_clear, .selects "SurpriseTax$Slots" yX5_clear yX5_clear, .code yX5_clear cX5_clear 2 none, .methodLink "SurpriseTaxLaw" 31 yX8_about, .instanceMethod yX8_about, .selects "SurpriseTax" yX8_about yX8_about, .code yX8_about cX8_about 2 (some .int), .methodLink "SurpriseTax" 109 yX3_oddsAsFigures, .instanceMethod yX3_oddsAsFigures, .selects "SurpriseTax$Realm" yX3_oddsAsFigures yX3_oddsAsFigures, .code yX3_oddsAsFigures cX3_oddsAsFigures 3 (some .int), .methodLink "SurpriseTax" 112 yX6_day, .instanceMethod yX6_day, .selects "SurpriseTax$State" yX6_day yX6_day, .code yX6_day cX6_day 1 (some .int), .methodLink "SurpriseTax" 115 yX3_debtors, .instanceMethod yX3_debtors, .selects "SurpriseTax$Realm" yX3_debtors yX3_debtors, .code yX3_debtors cX3_debtors 4 (some .int), .methodLink "SurpriseTax$Realm" 54 yX6_coins, .instanceMethod yX6_coins, .selects "SurpriseTax$State" yX6_coins yX6_coins, .code yX6_coins cX6_coins 2 (some .int), .methodLink "SurpriseTax" 122 yX0_count, .instanceMethod yX0_count, .selects "SurpriseTax$Acts" yX0_count yX0_count, .code yX0_count cX0_count 1 (some .int), .methodLink "SurpriseTax" 125 yX4_count, .instanceMethod yX4_count, .selects "SurpriseTax$Rolls" yX4_count yX4_count, .code yX4_count cX4_count 1 (some .int), .methodLink "SurpriseTaxLaw" 35 yX8_person, .instanceMethod yX8_person, .selects "SurpriseTax" yX8_person yX8_person, .code yX8_person cX8_person 3 (some .int), .methodLink "SurpriseTax" 126 yX3_has, .methodLink "SurpriseTax" 130 yX8_isKind, .static yX8_isKind, .code yX8_isKind cX8_isKind 1 (some .boolean), .methodLink "SurpriseTax" 133 yX6_expected, .instanceMethod yX6_expected, .selects "SurpriseTax$State" yX6_expected yX6_expected]
def zT_7 : List Cond := [.code yX6_expected cX6_expected 3 (some .int), .methodLink "SurpriseTax" 137 yX6_coins, .constant "SurpriseTax" 141 100000, .methodLink "SurpriseTax" 145 yX6_declared, .instanceMethod yX6_declared, .selects "SurpriseTax$State" yX6_declared yX6_declared, .code yX6_declared cX6_declared 2 (some .int), .methodLink "SurpriseTax" 148 yX6_heard, .instanceMethod yX6_heard, .selects "SurpriseTax$State" yX6_heard yX6_heard, .code yX6_heard cX6_heard 2 (some .int), .methodLink "SurpriseTaxLaw" 40 yX8_declare, .instanceMethod yX8_declare, .selects "SurpriseTax" yX8_declare yX8_declare, .code yX8_declare cX8_declare 3 (some .int), .methodLink "SurpriseTax" 154 yX0_remember, .instanceMethod yX0_remember, .selects "SurpriseTax$Acts" yX0_remember yX0_remember, .code yX0_remember cX0_remember 2 none, .methodLink "SurpriseTax$Acts" 24 yX6_saveTo, .instanceMethod yX6_saveTo, .selects "SurpriseTax$State" yX6_saveTo yX6_saveTo, .code yX6_saveTo cX6_saveTo 3 none, .methodLink "SurpriseTax$State" 21 arraycopyName, .static arraycopyName, .native arraycopyName, .methodLink "SurpriseTax$Acts" 28 Lib.Math.min.name, .methodLink "SurpriseTax" 158 yX6_pay, .instanceMethod yX6_pay, .selects "SurpriseTax$State" yX6_pay yX6_pay, .code yX6_pay cX6_pay 3 none, .methodLink "SurpriseTax" 162 yX6_setDeclared, .methodLink "SurpriseTaxLaw" 44 yX8_tellOn, .instanceMethod yX8_tellOn, .selects "SurpriseTax" yX8_tellOn yX8_tellOn, .code yX8_tellOn cX8_tellOn 4 (some .int), .methodLink "SurpriseTax" 165 yX3_hasRoad, .instanceMethod yX3_hasRoad, .selects "SurpriseTax$Realm" yX3_hasRoad yX3_hasRoad, .code yX3_hasRoad cX3_hasRoad 3 (some .boolean), .methodLink "SurpriseTax" 169 yX6_isOpen, .instanceMethod yX6_isOpen, .selects "SurpriseTax$State" yX6_isOpen yX6_isOpen, .code yX6_isOpen cX6_isOpen 2 (some .boolean), .methodLink "SurpriseTax$State" 27 yX6_declared, .methodLink "SurpriseTax$State" 31 yX6_heard, .methodLink "SurpriseTax" 172 yX6_setHeard, .methodLink "SurpriseTaxLaw" 48 yX8_event]
def zT_8 : List Cond := [.instanceMethod yX8_event, .selects "SurpriseTax" yX8_event yX8_event, .code yX8_event cX8_event 2 (some .int), .methodLink "SurpriseTax" 175 yX3_come, .instanceMethod yX3_come, .selects "SurpriseTax$Realm" yX3_come yX3_come, .code yX3_come cX3_come 6 (some .int), .methodLink "SurpriseTax$Realm" 63 yX3_taxOf, .instanceMethod yX3_taxOf, .selects "SurpriseTax$Realm" yX3_taxOf yX3_taxOf, .code yX3_taxOf cX3_taxOf 4 (some .int), .methodLink "SurpriseTax$Realm" 59 yX6_surprise, .instanceMethod yX6_surprise, .selects "SurpriseTax$State" yX6_surprise yX6_surprise, .code yX6_surprise cX6_surprise 6 (some .int), .methodLink "SurpriseTax$State" 41 Lib.Math.max.name, .methodLink "SurpriseTax$Realm" 67 yX6_pay, .methodLink "SurpriseTax$Realm" 71 yX6_learn, .instanceMethod yX6_learn, .selects "SurpriseTax$State" yX6_learn yX6_learn, .code yX6_learn cX6_learn 5 none, .methodLink "SurpriseTax$State" 47 yX6_expected, .methodLink "SurpriseTax$State" 50 yX6_setExpected, .methodLink "SurpriseTax$Realm" 74 yX6_beginDay, .instanceMethod yX6_beginDay, .selects "SurpriseTax$State" yX6_beginDay yX6_beginDay, .code yX6_beginDay cX6_beginDay 1 none, .methodLink "SurpriseTaxLaw" 52 yX8_undo, .instanceMethod yX8_undo, .selects "SurpriseTax" yX8_undo yX8_undo, .code yX8_undo cX8_undo 1 (some .int), .methodLink "SurpriseTax" 179 yX0_takeBack, .instanceMethod yX0_takeBack, .selects "SurpriseTax$Acts" yX0_takeBack yX0_takeBack, .code yX0_takeBack cX0_takeBack 2 none, .methodLink "SurpriseTax$Acts" 34 yX6_loadFrom, .instanceMethod yX6_loadFrom, .selects "SurpriseTax$State" yX6_loadFrom yX6_loadFrom, .code yX6_loadFrom cX6_loadFrom 3 none, .methodLink "SurpriseTaxLaw" 56 yX8_tax, .instanceMethod yX8_tax, .selects "SurpriseTax" yX8_tax yX8_tax, .code yX8_tax cX8_tax 3 (some .int), .methodLink "SurpriseTax" 182 yX3_taxOf, .methodLink "SurpriseTaxLaw" 60 yX8_mean, .instanceMethod yX8_mean, .selects "SurpriseTax" yX8_mean yX8_mean, .code yX8_mean cX8_mean 3 (some .int)]
def zT_9 : List Cond := [.methodLink "SurpriseTax" 186 yX3_meanTenfold, .instanceMethod yX3_meanTenfold, .selects "SurpriseTax$Realm" yX3_meanTenfold yX3_meanTenfold, .code yX3_meanTenfold cX3_meanTenfold 5 (some .int), .methodLink "SurpriseTax" 189 yX8_inLeastTerms, .static yX8_inLeastTerms, .code yX8_inLeastTerms cX8_inLeastTerms 4 (some .int), .methodLink "SurpriseTax" 286 yX8_commonDivisor, .static yX8_commonDivisor, .code yX8_commonDivisor cX8_commonDivisor 6 (some .int), .methodLink "SurpriseTaxLaw" 65 yX8_counsel, .instanceMethod yX8_counsel, .selects "SurpriseTax" yX8_counsel yX8_counsel, .code yX8_counsel cX8_counsel 2 (some .int), .methodLink "SurpriseTax" 193 yX1_bestToDeclare, .instanceMethod yX1_bestToDeclare, .selects "SurpriseTax$Advice" yX1_bestToDeclare yX1_bestToDeclare, .code yX1_bestToDeclare cX1_bestToDeclare 4 (some .int), .methodLink "SurpriseTax$Advice" 25 yX6_copyFrom, .instanceMethod yX6_copyFrom, .selects "SurpriseTax$State" yX6_copyFrom yX6_copyFrom, .code yX6_copyFrom cX6_copyFrom 2 none, .methodLink "SurpriseTax$Advice" 29 yX1_choose, .instanceMethod yX1_choose, .code yX1_choose cX1_choose 5 none, .methodLink "SurpriseTax$Advice" 47 yX3_meanTenfold, .methodLink "SurpriseTax$Advice" 58 yX6_declared, .methodLink "SurpriseTax$Advice" 62 yX6_setDeclared, .methodLink "SurpriseTaxLaw" 69 yX8_least, .instanceMethod yX8_least, .selects "SurpriseTax" yX8_least yX8_least, .code yX8_least cX8_least 4 (some .int), .methodLink "SurpriseTax" 197 yX1_leastTenfold, .instanceMethod yX1_leastTenfold, .selects "SurpriseTax$Advice" yX1_leastTenfold yX1_leastTenfold, .code yX1_leastTenfold cX1_leastTenfold 11 (some .int), .static yX8_power, .code yX8_power cX8_power 4 (some .int), .methodLink "SurpriseTax$Advice" 37 yX1_playRow, .instanceMethod yX1_playRow, .code yX1_playRow cX1_playRow 7 (some .int), .static yX8_kindAt, .code yX8_kindAt cX8_kindAt 3 (some .int), .methodLink "SurpriseTax$Advice" 55 yX3_come, .methodLink "SurpriseTax" 201 yX8_power, .methodLink "SurpriseTaxLaw" 74 yX8_joke, .instanceMethod yX8_joke, .selects "SurpriseTax" yX8_joke yX8_joke]
def zT_10 : List Cond := [.code yX8_joke cX8_joke 3 (some .int), .methodLink "SurpriseTax" 204 yX2_seekJoke, .instanceMethod yX2_seekJoke, .selects "SurpriseTax$Foresight" yX2_seekJoke yX2_seekJoke, .code yX2_seekJoke cX2_seekJoke 9 (some .int), .methodLink "SurpriseTax$Foresight" 22 yX6_copyFrom, .methodLink "SurpriseTax$Foresight" 43 yX2_paidByOthers, .instanceMethod yX2_paidByOthers, .code yX2_paidByOthers cX2_paidByOthers 8 (some .int), .methodLink "SurpriseTax$Foresight" 51 yX3_taxOf, .methodLink "SurpriseTax$Foresight" 26 yX3_come, .methodLink "SurpriseTaxLaw" 78 yX8_jokeAt, .instanceMethod yX8_jokeAt, .selects "SurpriseTax" yX8_jokeAt yX8_jokeAt, .code yX8_jokeAt cX8_jokeAt 4 (some .int), .methodLink "SurpriseTax" 207 yX2_jokeEvent, .instanceMethod yX2_jokeEvent, .selects "SurpriseTax$Foresight" yX2_jokeEvent yX2_jokeEvent, .code yX2_jokeEvent cX2_jokeEvent 3 (some .int), .methodLink "SurpriseTaxLaw" 83 yX8_broke, .instanceMethod yX8_broke, .selects "SurpriseTax" yX8_broke yX8_broke, .code yX8_broke cX8_broke 2 (some .int), .methodLink "SurpriseTax" 210 yX2_eventsUntilDebt, .instanceMethod yX2_eventsUntilDebt, .selects "SurpriseTax$Foresight" yX2_eventsUntilDebt yX2_eventsUntilDebt, .code yX2_eventsUntilDebt cX2_eventsUntilDebt 5 (some .int), .methodLink "SurpriseTax$Foresight" 55 yX3_debtors, .methodLink "SurpriseTaxLaw" 87 yX8_reform, .instanceMethod yX8_reform, .selects "SurpriseTax" yX8_reform yX8_reform, .code yX8_reform cX8_reform 2 (some .int), .methodLink "SurpriseTax" 213 yX2_nearestLaw, .instanceMethod yX2_nearestLaw, .selects "SurpriseTax$Foresight" yX2_nearestLaw yX2_nearestLaw, .code yX2_nearestLaw cX2_nearestLaw 9 (some .int), .methodLink "SurpriseTax$Foresight" 62 Lib.Math.abs.name, .static Lib.Math.abs.name, .code Lib.Math.abs.name Lib.Math.abs.code 1 (some .int), .methodLink "SurpriseTax$Foresight" 70 yX3_allCanPay, .instanceMethod yX3_allCanPay, .selects "SurpriseTax$Realm" yX3_allCanPay yX3_allCanPay, .code yX3_allCanPay cX3_allCanPay 7 (some .boolean), .methodLink "SurpriseTaxLaw" 91 yX8_roll, .instanceMethod yX8_roll, .selects "SurpriseTax" yX8_roll yX8_roll, .code yX8_roll cX8_roll 3 (some .int), .methodLink "SurpriseTax" 216 yX4_add]
def zT_11 : List Cond := [.instanceMethod yX4_add, .selects "SurpriseTax$Rolls" yX4_add yX4_add, .code yX4_add cX4_add 3 none, .methodLink "SurpriseTaxLaw" 95 yX8_unroll, .instanceMethod yX8_unroll, .selects "SurpriseTax" yX8_unroll yX8_unroll, .code yX8_unroll cX8_unroll 2 (some .int), .methodLink "SurpriseTax" 218 yX4_clear, .instanceMethod yX4_clear, .selects "SurpriseTax$Rolls" yX4_clear yX4_clear, .code yX4_clear cX4_clear 1 none, .methodLink "SurpriseTaxLaw" 99 yX8_tales, .instanceMethod yX8_tales, .selects "SurpriseTax" yX8_tales yX8_tales, .code yX8_tales cX8_tales 2 (some .int), .methodLink "SurpriseTax" 219 yX4_readTales, .instanceMethod yX4_readTales, .selects "SurpriseTax$Rolls" yX4_readTales yX4_readTales, .code yX4_readTales cX4_readTales 6 none, .methodLink "SurpriseTax$Rolls" 36 yX6_isOpen, .methodLink "SurpriseTax$Rolls" 42 yX4_fits, .instanceMethod yX4_fits, .code yX4_fits cX4_fits 8 (some .boolean), .methodLink "SurpriseTax$Rolls" 50 yX3_has, .methodLink "SurpriseTax$Rolls" 53 yX3_taxOf, .methodLink "SurpriseTax$Rolls" 46 yX4_addTale, .instanceMethod yX4_addTale, .code yX4_addTale cX4_addTale 3 none, .methodLink "SurpriseTax" 223 yX4_fitting, .instanceMethod yX4_fitting, .selects "SurpriseTax$Rolls" yX4_fitting yX4_fitting, .code yX4_fitting cX4_fitting 1 (some .int), .methodLink "SurpriseTax" 226 yX4_kinds, .instanceMethod yX4_kinds, .selects "SurpriseTax$Rolls" yX4_kinds yX4_kinds, .code yX4_kinds cX4_kinds 1 (some .int), .methodLink "SurpriseTax" 229 yX4_sure, .instanceMethod yX4_sure, .selects "SurpriseTax$Rolls" yX4_sure yX4_sure, .code yX4_sure cX4_sure 1 (some .int), .methodLink "SurpriseTaxLaw" 103 yX8_school, .instanceMethod yX8_school, .selects "SurpriseTax" yX8_school yX8_school, .code yX8_school cX8_school 5 (some .int), .methodLink "SurpriseTax" 232 yX8_isRow, .static yX8_isRow, .code yX8_isRow cX8_isRow 3 (some .boolean), .methodLink "SurpriseTax" 282 yX8_figureAt]
def zT_12 : List Cond := [.static yX8_figureAt, .code yX8_figureAt cX8_figureAt 5 (some .int), .methodLink "SurpriseTax" 235 yX2_surprisesIn, .instanceMethod yX2_surprisesIn, .selects "SurpriseTax$Foresight" yX2_surprisesIn yX2_surprisesIn, .code yX2_surprisesIn cX2_surprisesIn 10 (some .int), .methodLink "SurpriseTax$Foresight" 74 yX6_forgetNews, .methodLink "SurpriseTax$Foresight" 80 yX6_surprise, .methodLink "SurpriseTax$Foresight" 83 yX6_learn, .methodLink "SurpriseTax$Foresight" 87 yX6_expectOnly, .instanceMethod yX6_expectOnly, .selects "SurpriseTax$State" yX6_expectOnly yX6_expectOnly, .code yX6_expectOnly cX6_expectOnly 4 none, .methodLink "SurpriseTaxLaw" 108 yX8_braced, .instanceMethod yX8_braced, .selects "SurpriseTax" yX8_braced yX8_braced, .code yX8_braced cX8_braced 6 (some .int), .methodLink "SurpriseTax" 239 yX3_everybody, .methodLink "SurpriseTax" 242 yX3_isBraced, .instanceMethod yX3_isBraced, .selects "SurpriseTax$Realm" yX3_isBraced yX3_isBraced, .code yX3_isBraced cX3_isBraced 4 (some .boolean), .methodLink "SurpriseTax$Realm" 49 yJ6_bitCount_0f7a4, .static yJ6_bitCount_0f7a4, .code yJ6_bitCount_0f7a4 cJ6_bitCount_0f7a4 1 (some .int), .constant "java/lang/Integer" 265 1431655765, .constant "java/lang/Integer" 266 858993459, .constant "java/lang/Integer" 267 252645135, .methodLink "SurpriseTaxLaw" 112 yX8_fair, .instanceMethod yX8_fair, .selects "SurpriseTax" yX8_fair yX8_fair, .code yX8_fair cX8_fair 4 (some .int), .methodLink "SurpriseTax" 245 yX1_fairPrize, .instanceMethod yX1_fairPrize, .selects "SurpriseTax$Advice" yX1_fairPrize yX1_fairPrize, .code yX1_fairPrize cX1_fairPrize 8 (some .int), .methodLink "SurpriseTaxLaw" 116 yX8_courier, .instanceMethod yX8_courier, .selects "SurpriseTax" yX8_courier yX8_courier, .code yX8_courier cX8_courier 2 (some .int), .methodLink "SurpriseTax" 249 yX1_worthOfNews, .instanceMethod yX1_worthOfNews, .selects "SurpriseTax$Advice" yX1_worthOfNews yX1_worthOfNews, .code yX1_worthOfNews cX1_worthOfNews 4 (some .int), .methodLink "SurpriseTaxLaw" 122 yX8_seed, .instanceMethod yX8_seed, .selects "SurpriseTax" yX8_seed yX8_seed, .code yX8_seed cX8_seed 5 (some .long)]
def zT_13 : List Cond := [.methodLink "SurpriseTaxLaw" 127 yX8_week, .instanceMethod yX8_week, .selects "SurpriseTax" yX8_week yX8_week, .code yX8_week cX8_week 3 (some .int), .methodLink "SurpriseTax" 252 yX2_begin, .instanceMethod yX2_begin, .selects "SurpriseTax$Foresight" yX2_begin yX2_begin, .code yX2_begin cX2_begin 2 none, .constantLong "SurpriseTax" 255 6364136223846793005, .constantLong "SurpriseTax" 257 1442695040888963407, .methodLink "SurpriseTax" 259 yX3_drawnBy, .instanceMethod yX3_drawnBy, .selects "SurpriseTax$Realm" yX3_drawnBy yX3_drawnBy, .code yX3_drawnBy cX3_drawnBy 6 (some .int), .constantLong "SurpriseTax$Realm" 77 10, .methodLink "SurpriseTax" 263 yX2_play, .instanceMethod yX2_play, .selects "SurpriseTax$Foresight" yX2_play yX2_play, .code yX2_play cX2_play 3 none, .methodLink "SurpriseTax" 267 yX2_coinsOfAll, .instanceMethod yX2_coinsOfAll, .selects "SurpriseTax$Foresight" yX2_coinsOfAll yX2_coinsOfAll, .code yX2_coinsOfAll cX2_coinsOfAll 4 (some .int), .methodLink "SurpriseTax$Foresight" 35 yX6_coins, .constant "SurpriseTax" 271 1000000, .methodLink "SurpriseTaxLaw" 131 yX8_keep, .instanceMethod yX8_keep, .selects "SurpriseTax" yX8_keep yX8_keep, .code yX8_keep cX8_keep 2 (some .int), .methodLink "SurpriseTax" 272 yX5_put, .instanceMethod yX5_put, .selects "SurpriseTax$Slots" yX5_put yX5_put, .code yX5_put cX5_put 3 none, .methodLink "SurpriseTax$Slots" 21 yX6_saveTo, .methodLink "SurpriseTaxLaw" 135 yX8_again, .instanceMethod yX8_again, .selects "SurpriseTax" yX8_again yX8_again, .code yX8_again cX8_again 2 (some .int), .methodLink "SurpriseTax" 276 yX5_isKept, .instanceMethod yX5_isKept, .selects "SurpriseTax$Slots" yX5_isKept yX5_isKept, .code yX5_isKept cX5_isKept 2 (some .boolean), .methodLink "SurpriseTax" 279 yX5_giveBack, .instanceMethod yX5_giveBack, .selects "SurpriseTax$Slots" yX5_giveBack yX5_giveBack, .code yX5_giveBack cX5_giveBack 3 none, .methodLink "SurpriseTax$Slots" 25 yX6_loadFrom, .classLink "SurpriseTaxLaw" 10 "SurpriseTaxModel"]
def zT_14 : List Cond := [.instantiable "SurpriseTaxModel" 34, .methodLink "SurpriseTaxLaw" 12 yX9_init, .instanceMethod yX9_init, .code yX9_init cX9_init 2 none, .methodLink "SurpriseTaxModel" 1 objectInit, .fieldLink "SurpriseTaxModel" 62 "SurpriseTaxModel" "thrown" "I", .fieldLink "SurpriseTaxModel" 7 "SurpriseTaxModel" "text" "[I", .fieldLink "SurpriseTaxModel" 77 "SurpriseTaxModel" "textSize" "I", .fieldLink "SurpriseTaxModel" 80 "SurpriseTaxModel" "place" "I", .fieldLink "SurpriseTaxModel" 125 "SurpriseTaxModel" "rate" "I", .fieldLink "SurpriseTaxModel" 128 "SurpriseTaxModel" "free" "I", .fieldLink "SurpriseTaxModel" 131 "SurpriseTaxModel" "price" "I", .fieldLink "SurpriseTaxModel" 13 "SurpriseTaxModel" "odds" "[I", .fieldLink "SurpriseTaxModel" 66 "SurpriseTaxModel" "people" "I", .fieldLink "SurpriseTaxModel" 16 "SurpriseTaxModel" "nerve" "[I", .fieldLink "SurpriseTaxModel" 19 "SurpriseTaxModel" "road" "[I", .fieldLink "SurpriseTaxModel" 134 "SurpriseTaxModel" "roads" "I", .fieldLink "SurpriseTaxModel" 109 "SurpriseTaxModel" "readRate" "I", .fieldLink "SurpriseTaxModel" 112 "SurpriseTaxModel" "readFree" "I", .fieldLink "SurpriseTaxModel" 115 "SurpriseTaxModel" "readPrice" "I", .fieldLink "SurpriseTaxModel" 22 "SurpriseTaxModel" "readOdds" "[I", .fieldLink "SurpriseTaxModel" 87 "SurpriseTaxModel" "readPeople" "I", .fieldLink "SurpriseTaxModel" 25 "SurpriseTaxModel" "readNerve" "[I", .fieldLink "SurpriseTaxModel" 28 "SurpriseTaxModel" "readRoad" "[I", .fieldLink "SurpriseTaxModel" 98 "SurpriseTaxModel" "readRoads" "I", .fieldLink "SurpriseTaxModel" 31 "SurpriseTaxModel" "readPage" "[I", .fieldLink "SurpriseTaxModel" 34 "SurpriseTaxModel" "page" "[I", .fieldLink "SurpriseTaxModel" 37 "SurpriseTaxModel" "book" "[I", .fieldLink "SurpriseTaxModel" 137 "SurpriseTaxModel" "acts" "I", .fieldLink "SurpriseTaxModel" 40 "SurpriseTaxModel" "kept" "[I", .fieldLink "SurpriseTaxModel" 43 "SurpriseTaxModel" "isKept" "[Z", .fieldLink "SurpriseTaxModel" 144 "SurpriseTaxModel" "rolls" "I", .fieldLink "SurpriseTaxModel" 47 "SurpriseTaxModel" "rollWho" "[I", .fieldLink "SurpriseTaxModel" 50 "SurpriseTaxModel" "rollPaid" "[I", .fieldLink "SurpriseTaxModel" 226 "SurpriseTaxModel" "seed" "J", .fieldLink "SurpriseTaxModel" 53 "SurpriseTaxModel" "tried" "[I", .fieldLink "SurpriseTaxModel" 56 "SurpriseTaxModel" "worth" "[I", .fieldLink "SurpriseTaxModel" 59 "SurpriseTaxModel" "next" "[I", .fieldLink "SurpriseTaxModel" 204 "SurpriseTaxModel" "jokeRow" "I", .lays "SurpriseTaxModel" "SurpriseTaxModel" "thrown" "I", .laysFinal "SurpriseTaxModel" "SurpriseTaxModel" "text" "[I", .lays "SurpriseTaxModel" "SurpriseTaxModel" "textSize" "I", .lays "SurpriseTaxModel" "SurpriseTaxModel" "place" "I", .lays "SurpriseTaxModel" "SurpriseTaxModel" "rate" "I", .lays "SurpriseTaxModel" "SurpriseTaxModel" "free" "I", .lays "SurpriseTaxModel" "SurpriseTaxModel" "price" "I", .laysFinal "SurpriseTaxModel" "SurpriseTaxModel" "odds" "[I", .lays "SurpriseTaxModel" "SurpriseTaxModel" "people" "I"]
def zT_15 : List Cond := [.laysFinal "SurpriseTaxModel" "SurpriseTaxModel" "nerve" "[I", .laysFinal "SurpriseTaxModel" "SurpriseTaxModel" "road" "[I", .lays "SurpriseTaxModel" "SurpriseTaxModel" "roads" "I", .lays "SurpriseTaxModel" "SurpriseTaxModel" "readRate" "I", .lays "SurpriseTaxModel" "SurpriseTaxModel" "readFree" "I", .lays "SurpriseTaxModel" "SurpriseTaxModel" "readPrice" "I", .laysFinal "SurpriseTaxModel" "SurpriseTaxModel" "readOdds" "[I", .lays "SurpriseTaxModel" "SurpriseTaxModel" "readPeople" "I", .laysFinal "SurpriseTaxModel" "SurpriseTaxModel" "readNerve" "[I", .laysFinal "SurpriseTaxModel" "SurpriseTaxModel" "readRoad" "[I", .lays "SurpriseTaxModel" "SurpriseTaxModel" "readRoads" "I", .laysFinal "SurpriseTaxModel" "SurpriseTaxModel" "readPage" "[I", .laysFinal "SurpriseTaxModel" "SurpriseTaxModel" "page" "[I", .laysFinal "SurpriseTaxModel" "SurpriseTaxModel" "book" "[I", .lays "SurpriseTaxModel" "SurpriseTaxModel" "acts" "I", .laysFinal "SurpriseTaxModel" "SurpriseTaxModel" "kept" "[I", .laysFinal "SurpriseTaxModel" "SurpriseTaxModel" "isKept" "[Z", .lays "SurpriseTaxModel" "SurpriseTaxModel" "rolls" "I", .laysFinal "SurpriseTaxModel" "SurpriseTaxModel" "rollWho" "[I", .laysFinal "SurpriseTaxModel" "SurpriseTaxModel" "rollPaid" "[I", .lays "SurpriseTaxModel" "SurpriseTaxModel" "seed" "J", .laysFinal "SurpriseTaxModel" "SurpriseTaxModel" "tried" "[I", .laysFinal "SurpriseTaxModel" "SurpriseTaxModel" "worth" "[I", .laysFinal "SurpriseTaxModel" "SurpriseTaxModel" "next" "[I", .lays "SurpriseTaxModel" "SurpriseTaxModel" "jokeRow" "I", .methodLink "SurpriseTaxLaw" 17 yX9_write, .instanceMethod yX9_write, .selects "SurpriseTaxModel" yX9_write yX9_write, .code yX9_write cX9_write 2 (some .int), .constantLong "SurpriseTaxModel" 75 255, .methodLink "SurpriseTaxModel" 69 yX9_in, .static yX9_in, .code yX9_in cX9_in 6 (some .boolean), .methodLink "SurpriseTaxLaw" 22 yX9_wipe, .instanceMethod yX9_wipe, .selects "SurpriseTaxModel" yX9_wipe yX9_wipe, .code yX9_wipe cX9_wipe 2 (some .int), .methodLink "SurpriseTaxLaw" 26 yX9_fault, .instanceMethod yX9_fault, .selects "SurpriseTaxModel" yX9_fault yX9_fault, .code yX9_fault cX9_fault 1 (some .int), .methodLink "SurpriseTaxModel" 121 yX9_readRealm, .instanceMethod yX9_readRealm, .code yX9_readRealm cX9_readRealm 1 (some .int), .methodLink "SurpriseTaxModel" 83 yX9_figure, .instanceMethod yX9_figure, .code yX9_figure cX9_figure 3 (some .int), .methodLink "SurpriseTaxModel" 94 yX9_readTen]
def zT_16 : List Cond := [.instanceMethod yX9_readTen, .code yX9_readTen cX9_readTen 8 (some .boolean), .methodLink "SurpriseTaxModel" 118 yX9_readPart, .instanceMethod yX9_readPart, .code yX9_readPart cX9_readPart 4 (some .boolean), .methodLink "SurpriseTaxModel" 101 yX9_hasOpen, .instanceMethod yX9_hasOpen, .code yX9_hasOpen cX9_hasOpen 3 (some .boolean), .methodLink "SurpriseTaxModel" 90 yX9_openOf, .instanceMethod yX9_openOf, .code yX9_openOf cX9_openOf 2 (some .int), .methodLink "SurpriseTaxModel" 105 yX9_has, .static yX9_has, .code yX9_has cX9_has 2 (some .boolean), .methodLink "SurpriseTaxLaw" 30 yX9_realm, .instanceMethod yX9_realm, .selects "SurpriseTaxModel" yX9_realm yX9_realm, .code yX9_realm cX9_realm 2 (some .int), .methodLink "SurpriseTaxLaw" 34 yX9_about, .instanceMethod yX9_about, .selects "SurpriseTaxModel" yX9_about yX9_about, .code yX9_about cX9_about 2 (some .int), .methodLink "SurpriseTaxModel" 140 yX9_debtOf, .instanceMethod yX9_debtOf, .code yX9_debtOf cX9_debtOf 4 (some .int), .methodLink "SurpriseTaxLaw" 39 yX9_person, .instanceMethod yX9_person, .selects "SurpriseTaxModel" yX9_person yX9_person, .code yX9_person cX9_person 3 (some .int), .methodLink "SurpriseTaxModel" 147 yX9_noOne, .instanceMethod yX9_noOne, .code yX9_noOne cX9_noOne 2 (some .boolean), .constantLong "SurpriseTaxModel" 73 3, .constant "SurpriseTaxModel" 151 100000, .methodLink "SurpriseTaxLaw" 43 yX9_declare, .instanceMethod yX9_declare, .selects "SurpriseTaxModel" yX9_declare yX9_declare, .code yX9_declare cX9_declare 3 (some .int), .methodLink "SurpriseTaxModel" 164 yX9_noKind, .static yX9_noKind, .code yX9_noKind cX9_noKind 1 (some .boolean), .methodLink "SurpriseTaxModel" 167 yX9_note, .instanceMethod yX9_note, .code yX9_note cX9_note 2 none, .methodLink "SurpriseTaxLaw" 47 yX9_tellOn, .instanceMethod yX9_tellOn, .selects "SurpriseTaxModel" yX9_tellOn yX9_tellOn, .code yX9_tellOn cX9_tellOn 4 (some .int)]
def zT_17 : List Cond := [.methodLink "SurpriseTaxLaw" 51 yX9_event, .instanceMethod yX9_event, .selects "SurpriseTaxModel" yX9_event yX9_event, .code yX9_event cX9_event 2 (some .int), .methodLink "SurpriseTaxModel" 170 yX9_goEvent, .instanceMethod yX9_goEvent, .code yX9_goEvent cX9_goEvent 6 (some .int), .methodLink "SurpriseTaxModel" 156 yX9_taxOf, .instanceMethod yX9_taxOf, .code yX9_taxOf cX9_taxOf 5 (some .int), .methodLink "SurpriseTaxModel" 152 yX9_surprise, .static yX9_surprise, .code yX9_surprise cX9_surprise 6 (some .int), .methodLink "SurpriseTaxModel" 160 yX9_learn, .static yX9_learn, .code yX9_learn cX9_learn 5 none, .methodLink "SurpriseTaxLaw" 55 yX9_undo, .instanceMethod yX9_undo, .selects "SurpriseTaxModel" yX9_undo yX9_undo, .code yX9_undo cX9_undo 2 (some .int), .methodLink "SurpriseTaxLaw" 59 yX9_tax, .instanceMethod yX9_tax, .selects "SurpriseTaxModel" yX9_tax yX9_tax, .code yX9_tax cX9_tax 3 (some .int), .methodLink "SurpriseTaxLaw" 64 yX9_mean, .instanceMethod yX9_mean, .selects "SurpriseTaxModel" yX9_mean yX9_mean, .code yX9_mean cX9_mean 3 (some .int), .methodLink "SurpriseTaxModel" 177 yX9_tenMean, .instanceMethod yX9_tenMean, .code yX9_tenMean cX9_tenMean 6 (some .int), .methodLink "SurpriseTaxModel" 180 yX9_fraction, .static yX9_fraction, .code yX9_fraction cX9_fraction 4 (some .int), .methodLink "SurpriseTaxModel" 174 yX9_divisor, .static yX9_divisor, .code yX9_divisor cX9_divisor 5 (some .int), .methodLink "SurpriseTaxLaw" 68 yX9_counsel, .instanceMethod yX9_counsel, .selects "SurpriseTaxModel" yX9_counsel yX9_counsel, .code yX9_counsel cX9_counsel 2 (some .int), .methodLink "SurpriseTaxModel" 184 yX9_counselOf, .instanceMethod yX9_counselOf, .code yX9_counselOf cX9_counselOf 6 (some .int), .methodLink "SurpriseTaxLaw" 73 yX9_least, .instanceMethod yX9_least, .selects "SurpriseTaxModel" yX9_least yX9_least, .code yX9_least cX9_least 6 (some .int)]
def zT_18 : List Cond := [.methodLink "SurpriseTaxModel" 187 yX9_four, .static yX9_four, .code yX9_four cX9_four 1 (some .int), .methodLink "SurpriseTaxModel" 193 yX9_layBehind, .instanceMethod yX9_layBehind, .code yX9_layBehind cX9_layBehind 5 none, .methodLink "SurpriseTaxModel" 197 yX9_dayOf, .instanceMethod yX9_dayOf, .code yX9_dayOf cX9_dayOf 12 (some .int), .methodLink "SurpriseTaxModel" 190 yX9_ten, .static yX9_ten, .code yX9_ten cX9_ten 3 (some .int), .methodLink "SurpriseTaxLaw" 77 yX9_joke, .instanceMethod yX9_joke, .selects "SurpriseTaxModel" yX9_joke yX9_joke, .code yX9_joke cX9_joke 3 (some .int), .constantLong "SurpriseTaxModel" 207 4, .methodLink "SurpriseTaxModel" 209 yX9_findJoke, .instanceMethod yX9_findJoke, .code yX9_findJoke cX9_findJoke 9 (some .int), .methodLink "SurpriseTaxModel" 201 yX9_begin, .instanceMethod yX9_begin, .code yX9_begin cX9_begin 2 none, .methodLink "SurpriseTaxLaw" 82 yX9_jokeAt, .instanceMethod yX9_jokeAt, .selects "SurpriseTaxModel" yX9_jokeAt yX9_jokeAt, .code yX9_jokeAt cX9_jokeAt 4 (some .int), .methodLink "SurpriseTaxLaw" 86 yX9_broke, .instanceMethod yX9_broke, .selects "SurpriseTaxModel" yX9_broke yX9_broke, .code yX9_broke cX9_broke 3 (some .int), .methodLink "SurpriseTaxLaw" 90 yX9_reform, .instanceMethod yX9_reform, .selects "SurpriseTaxModel" yX9_reform yX9_reform, .code yX9_reform cX9_reform 8 (some .int), .methodLink "SurpriseTaxModel" 212 yX9_apart, .static yX9_apart, .code yX9_apart cX9_apart 2 (some .int), .methodLink "SurpriseTaxLaw" 94 yX9_roll, .instanceMethod yX9_roll, .selects "SurpriseTaxModel" yX9_roll yX9_roll, .code yX9_roll cX9_roll 3 (some .int), .constantLong "SurpriseTaxModel" 215 99, .methodLink "SurpriseTaxLaw" 98 yX9_unroll, .instanceMethod yX9_unroll, .selects "SurpriseTaxModel" yX9_unroll yX9_unroll, .code yX9_unroll cX9_unroll 2 (some .int), .methodLink "SurpriseTaxLaw" 102 yX9_tales]
def zT_19 : List Cond := [.instanceMethod yX9_tales, .selects "SurpriseTaxModel" yX9_tales yX9_tales, .code yX9_tales cX9_tales 12 (some .int), .constantLong "SurpriseTaxModel" 217 2, .methodLink "SurpriseTaxLaw" 107 yX9_school, .instanceMethod yX9_school, .selects "SurpriseTaxModel" yX9_school yX9_school, .code yX9_school cX9_school 9 (some .int), .constantLong "SurpriseTaxModel" 219 8, .methodLink "SurpriseTaxLaw" 111 yX9_braced, .instanceMethod yX9_braced, .selects "SurpriseTaxModel" yX9_braced yX9_braced, .code yX9_braced cX9_braced 8 (some .int), .methodLink "SurpriseTaxModel" 221 yX9_many, .static yX9_many, .code yX9_many cX9_many 3 (some .int), .methodLink "SurpriseTaxLaw" 115 yX9_fair, .instanceMethod yX9_fair, .selects "SurpriseTaxModel" yX9_fair yX9_fair, .code yX9_fair cX9_fair 4 (some .int), .constantLong "SurpriseTaxModel" 224 9, .methodLink "SurpriseTaxLaw" 119 yX9_courier, .instanceMethod yX9_courier, .selects "SurpriseTaxModel" yX9_courier yX9_courier, .code yX9_courier cX9_courier 3 (some .int), .methodLink "SurpriseTaxLaw" 126 yX9_seed, .instanceMethod yX9_seed, .selects "SurpriseTaxModel" yX9_seed yX9_seed, .code yX9_seed cX9_seed 5 (some .long), .methodLink "SurpriseTaxLaw" 130 yX9_week, .instanceMethod yX9_week, .selects "SurpriseTaxModel" yX9_week yX9_week, .code yX9_week cX9_week 5 (some .int), .constantLong "SurpriseTaxModel" 230 30, .constantLong "SurpriseTaxModel" 232 6364136223846793005, .constantLong "SurpriseTaxModel" 234 1442695040888963407, .constantLong "SurpriseTaxModel" 236 10, .constant "SurpriseTaxModel" 238 1000000, .methodLink "SurpriseTaxLaw" 134 yX9_keep, .instanceMethod yX9_keep, .selects "SurpriseTaxModel" yX9_keep yX9_keep, .code yX9_keep cX9_keep 3 (some .int), .methodLink "SurpriseTaxLaw" 138 yX9_again, .instanceMethod yX9_again, .selects "SurpriseTaxModel" yX9_again yX9_again, .code yX9_again cX9_again 3 (some .int), .constantLong "SurpriseTaxLaw" 120 4294967295]
def zT : List Cond := zT_0 ++ (zT_1 ++ (zT_2 ++ (zT_3 ++ (zT_4 ++ (zT_5 ++ (zT_6 ++ (zT_7 ++ (zT_8 ++ (zT_9 ++ (zT_10 ++ (zT_11 ++ (zT_12 ++ (zT_13 ++ (zT_14 ++ (zT_15 ++ (zT_16 ++ (zT_17 ++ (zT_18 ++ (zT_19)))))))))))))))))))
def zN : List Cond := [.methodLinkNest "SurpriseTax" 9 yX7_init "SurpriseTax", .methodLinkNest "SurpriseTax" 18 yX3_init "SurpriseTax", .fieldLinkNest "SurpriseTax" 75 "SurpriseTax$Realm" "odds" "[I" "SurpriseTax", .fieldLinkNest "SurpriseTax$Advice" 41 "SurpriseTax$Realm" "odds" "[I" "SurpriseTax", .fieldLinkNest "SurpriseTax$Text" 66 "SurpriseTax$Realm" "odds" "[I" "SurpriseTax", .fieldLinkNest "SurpriseTax" 142 "SurpriseTax$Realm" "nerve" "[I" "SurpriseTax", .fieldLinkNest "SurpriseTax$Text" 90 "SurpriseTax$Realm" "nerve" "[I" "SurpriseTax", .fieldLinkNest "SurpriseTax" 151 "SurpriseTax$Realm" "roads" "[I" "SurpriseTax", .fieldLinkNest "SurpriseTax$Text" 54 "SurpriseTax$Realm" "rate" "I" "SurpriseTax", .fieldLinkNest "SurpriseTax" 100 "SurpriseTax$Realm" "rate" "I" "SurpriseTax", .fieldLinkNest "SurpriseTax$Foresight" 59 "SurpriseTax$Realm" "rate" "I" "SurpriseTax", .fieldLinkNest "SurpriseTax$Text" 57 "SurpriseTax$Realm" "free" "I" "SurpriseTax", .fieldLinkNest "SurpriseTax" 103 "SurpriseTax$Realm" "free" "I" "SurpriseTax", .fieldLinkNest "SurpriseTax$Foresight" 67 "SurpriseTax$Realm" "free" "I" "SurpriseTax", .fieldLinkNest "SurpriseTax$Text" 60 "SurpriseTax$Realm" "price" "I" "SurpriseTax", .fieldLinkNest "SurpriseTax" 106 "SurpriseTax$Realm" "price" "I" "SurpriseTax", .fieldLinkNest "SurpriseTax$Advice" 66 "SurpriseTax$Realm" "price" "I" "SurpriseTax", .fieldLinkNest "SurpriseTax$Foresight" 32 "SurpriseTax$Realm" "people" "I" "SurpriseTax", .fieldLinkNest "SurpriseTax" 96 "SurpriseTax$Realm" "people" "I" "SurpriseTax", .fieldLinkNest "SurpriseTax$Text" 69 "SurpriseTax$Realm" "people" "I" "SurpriseTax", .fieldLinkNest "SurpriseTax$Rolls" 31 "SurpriseTax$Realm" "people" "I" "SurpriseTax", .fieldLinkNest "SurpriseTax" 119 "SurpriseTax$Realm" "roadCount" "I" "SurpriseTax", .methodLinkNest "SurpriseTax" 38 yX0_init "SurpriseTax", .methodLinkNest "SurpriseTax" 45 yX5_init "SurpriseTax", .methodLinkNest "SurpriseTax" 52 yX4_init "SurpriseTax", .methodLinkNest "SurpriseTax" 59 yX1_init "SurpriseTax", .methodLinkNest "SurpriseTax" 66 yX2_init "SurpriseTax", .methodLinkNest "SurpriseTax$Advice" 33 yX8_power "SurpriseTax", .methodLinkNest "SurpriseTax$Advice" 51 yX8_kindAt "SurpriseTax", .methodLinkNest "SurpriseTax$Foresight" 39 yX8_power "SurpriseTax", .methodLinkNest "SurpriseTax$Foresight" 47 yX8_kindAt "SurpriseTax", .methodLinkNest "SurpriseTax$Foresight" 77 yX8_figureAt "SurpriseTax"]
set_option maxRecDepth 100000 in
theorem zT_in_0 : ∀ w ∈ zT_0, w ∈ lw_tbl := fun w hw => z_pick (is := [0, 1, 2, 3, 4, 5, 6, 7, 8, 9, 10, 11, 12, 13, 14, 15, 16, 17, 18, 19, 20, 21, 22, 23, 24, 25, 26, 27, 28, 29, 30, 31, 32, 33, 34, 35, 36, 37, 38, 39, 40, 41, 42, 43, 44, 45, 46, 47]) (by decide +kernel) hw
set_option maxRecDepth 100000 in
theorem zT_in_1 : ∀ w ∈ zT_1, w ∈ lw_tbl := fun w hw => z_pick (is := [48, 49, 50, 51, 52, 54, 55, 56, 57, 58, 59, 60, 61, 62, 64, 66, 68, 70, 73, 74, 75, 77, 78, 79, 80, 84, 87, 89, 93, 97, 101, 106, 108, 110, 112, 114, 116, 118, 120, 122, 125, 126, 127, 128, 129, 130, 131, 132]) (by decide +kernel) hw
set_option maxRecDepth 100000 in
theorem zT_in_2 : ∀ w ∈ zT_2, w ∈ lw_tbl := fun w hw => z_pick (is := [133, 134, 135, 136, 137, 138, 139, 140, 141, 142, 143, 144, 145, 146, 147, 148, 151, 152, 154, 155, 156, 157, 158, 159, 160, 162, 164, 167, 168, 170, 171, 172, 173, 174, 175, 177, 180, 181, 182, 184, 185, 186, 187, 188, 189, 190, 191, 192]) (by decide +kernel) hw
set_option maxRecDepth 100000 in
theorem zT_in_3 : ∀ w ∈ zT_3, w ∈ lw_tbl := fun w hw => z_pick (is := [193, 195, 197, 199, 201, 203, 206, 207, 209, 210, 211, 212, 213, 214, 215, 216, 217, 219, 221, 224, 225, 227, 228, 229, 230, 231, 232, 233, 234, 236, 239, 240, 241, 242, 243, 244, 245, 246, 247, 248, 249, 250, 252, 254, 256, 258, 260, 262]) (by decide +kernel) hw
set_option maxRecDepth 100000 in
theorem zT_in_4 : ∀ w ∈ zT_4, w ∈ lw_tbl := fun w hw => z_pick (is := [264, 266, 268, 270, 273, 274, 275, 276, 277, 278, 279, 280, 281, 282, 283, 284, 285, 286, 287, 288, 289, 290, 291, 292, 293, 294, 295, 296, 297, 298, 299, 300, 301, 302, 303, 304, 305, 306, 308, 309, 310, 312, 313, 314, 316, 317, 318, 320]) (by decide +kernel) hw
set_option maxRecDepth 100000 in
theorem zT_in_5 : ∀ w ∈ zT_5, w ∈ lw_tbl := fun w hw => z_pick (is := [321, 322, 323, 324, 325, 326, 327, 328, 330, 331, 332, 334, 335, 336, 337, 338, 339, 340, 341, 342, 343, 344, 345, 346, 347, 348, 349, 350, 351, 352, 353, 354, 355, 356, 357, 358, 359, 360, 362, 363, 364, 365, 366, 367, 368, 369, 370, 371]) (by decide +kernel) hw
set_option maxRecDepth 100000 in
theorem zT_in_6 : ∀ w ∈ zT_6, w ∈ lw_tbl := fun w hw => z_pick (is := [372, 373, 374, 375, 376, 377, 378, 379, 380, 381, 382, 383, 384, 385, 386, 387, 388, 389, 390, 391, 392, 393, 394, 395, 396, 397, 398, 399, 400, 401, 402, 403, 404, 405, 406, 407, 408, 409, 410, 411, 412, 413, 414, 415, 416, 417, 418, 419]) (by decide +kernel) hw
set_option maxRecDepth 100000 in
theorem zT_in_7 : ∀ w ∈ zT_7, w ∈ lw_tbl := fun w hw => z_pick (is := [420, 421, 422, 423, 424, 425, 426, 427, 428, 429, 430, 431, 432, 433, 434, 435, 436, 437, 438, 439, 440, 441, 442, 443, 444, 445, 446, 447, 448, 449, 450, 451, 452, 453, 454, 455, 456, 457, 458, 459, 460, 461, 462, 463, 464, 465, 466, 467]) (by decide +kernel) hw
set_option maxRecDepth 100000 in
theorem zT_in_8 : ∀ w ∈ zT_8, w ∈ lw_tbl := fun w hw => z_pick (is := [468, 469, 470, 471, 472, 473, 474, 475, 476, 477, 478, 479, 480, 481, 482, 483, 484, 485, 486, 487, 488, 489, 490, 491, 492, 493, 494, 495, 496, 497, 498, 499, 500, 501, 502, 503, 504, 505, 506, 507, 508, 509, 510, 511, 512, 513, 514, 515]) (by decide +kernel) hw
set_option maxRecDepth 100000 in
theorem zT_in_9 : ∀ w ∈ zT_9, w ∈ lw_tbl := fun w hw => z_pick (is := [516, 517, 518, 519, 520, 521, 522, 523, 524, 525, 526, 527, 528, 529, 530, 531, 532, 533, 534, 535, 536, 537, 538, 540, 541, 542, 543, 544, 545, 546, 547, 548, 549, 550, 551, 552, 554, 555, 556, 558, 559, 561, 562, 563, 564, 565, 566, 567]) (by decide +kernel) hw
set_option maxRecDepth 100000 in
theorem zT_in_10 : ∀ w ∈ zT_10, w ∈ lw_tbl := fun w hw => z_pick (is := [568, 569, 570, 571, 572, 574, 575, 577, 578, 580, 581, 582, 583, 584, 585, 586, 587, 588, 589, 590, 591, 592, 593, 594, 595, 596, 597, 598, 599, 600, 601, 602, 603, 604, 605, 606, 607, 608, 609, 610, 611, 612, 613, 614, 615, 616, 617, 618]) (by decide +kernel) hw
set_option maxRecDepth 100000 in
theorem zT_in_11 : ∀ w ∈ zT_11, w ∈ lw_tbl := fun w hw => z_pick (is := [619, 620, 621, 622, 623, 624, 625, 626, 627, 628, 629, 630, 631, 632, 633, 634, 635, 636, 637, 638, 639, 641, 642, 643, 644, 645, 647, 648, 649, 650, 651, 652, 653, 654, 655, 656, 657, 658, 659, 660, 661, 662, 663, 664, 665, 666, 667, 668]) (by decide +kernel) hw
set_option maxRecDepth 100000 in
theorem zT_in_12 : ∀ w ∈ zT_12, w ∈ lw_tbl := fun w hw => z_pick (is := [669, 670, 671, 672, 673, 674, 675, 677, 678, 679, 680, 681, 682, 683, 684, 685, 686, 687, 688, 689, 690, 691, 692, 693, 694, 695, 696, 697, 698, 699, 700, 701, 702, 703, 704, 705, 706, 707, 708, 709, 710, 711, 712, 713, 714, 715, 716, 717]) (by decide +kernel) hw
set_option maxRecDepth 100000 in
theorem zT_in_13 : ∀ w ∈ zT_13, w ∈ lw_tbl := fun w hw => z_pick (is := [718, 719, 720, 721, 722, 723, 724, 725, 726, 727, 728, 729, 730, 731, 732, 733, 734, 735, 736, 737, 738, 739, 740, 741, 742, 743, 744, 745, 746, 747, 748, 749, 750, 751, 752, 753, 754, 755, 756, 757, 758, 759, 760, 761, 762, 763, 764, 765]) (by decide +kernel) hw
set_option maxRecDepth 100000 in
theorem zT_in_14 : ∀ w ∈ zT_14, w ∈ lw_tbl := fun w hw => z_pick (is := [766, 767, 768, 769, 770, 771, 772, 773, 774, 775, 776, 777, 778, 779, 780, 781, 782, 783, 784, 785, 786, 787, 788, 789, 790, 791, 792, 793, 794, 795, 796, 797, 798, 799, 800, 801, 802, 803, 804, 805, 807, 809, 811, 813, 815, 817, 819, 821]) (by decide +kernel) hw
set_option maxRecDepth 100000 in
theorem zT_in_15 : ∀ w ∈ zT_15, w ∈ lw_tbl := fun w hw => z_pick (is := [823, 825, 827, 829, 831, 833, 835, 837, 839, 841, 843, 845, 847, 849, 851, 853, 855, 857, 859, 861, 863, 865, 867, 869, 871, 874, 875, 876, 877, 878, 879, 880, 881, 882, 883, 884, 885, 886, 887, 888, 889, 890, 892, 893, 894, 896, 897, 898]) (by decide +kernel) hw
set_option maxRecDepth 100000 in
theorem zT_in_16 : ∀ w ∈ zT_16, w ∈ lw_tbl := fun w hw => z_pick (is := [900, 901, 902, 904, 905, 906, 908, 909, 910, 912, 913, 914, 915, 916, 917, 918, 919, 920, 921, 922, 923, 924, 925, 927, 928, 929, 930, 931, 932, 933, 935, 936, 937, 938, 939, 940, 941, 942, 943, 944, 945, 946, 948, 949, 950, 951, 952, 953]) (by decide +kernel) hw
set_option maxRecDepth 100000 in
theorem zT_in_17 : ∀ w ∈ zT_17, w ∈ lw_tbl := fun w hw => z_pick (is := [954, 955, 956, 957, 958, 960, 961, 962, 964, 965, 966, 967, 968, 969, 970, 971, 972, 973, 974, 975, 976, 977, 978, 979, 980, 981, 982, 983, 984, 986, 987, 988, 989, 990, 991, 992, 993, 994, 995, 996, 997, 998, 1000, 1001, 1002, 1003, 1004, 1005]) (by decide +kernel) hw
set_option maxRecDepth 100000 in
theorem zT_in_18 : ∀ w ∈ zT_18, w ∈ lw_tbl := fun w hw => z_pick (is := [1006, 1007, 1008, 1009, 1011, 1012, 1013, 1015, 1016, 1017, 1018, 1019, 1020, 1021, 1022, 1023, 1024, 1025, 1027, 1028, 1029, 1031, 1032, 1033, 1034, 1035, 1036, 1037, 1038, 1039, 1040, 1041, 1042, 1043, 1044, 1045, 1046, 1047, 1048, 1049, 1050, 1051, 1052, 1053, 1054, 1055, 1056, 1057]) (by decide +kernel) hw
set_option maxRecDepth 100000 in
theorem zT_in_19 : ∀ w ∈ zT_19, w ∈ lw_tbl := fun w hw => z_pick (is := [1058, 1059, 1060, 1061, 1062, 1063, 1064, 1065, 1066, 1067, 1068, 1069, 1070, 1071, 1072, 1073, 1074, 1075, 1076, 1077, 1078, 1079, 1080, 1081, 1082, 1083, 1084, 1085, 1086, 1087, 1088, 1089, 1090, 1091, 1092, 1093, 1094, 1095, 1096, 1097, 1098, 1099, 1100, 1101, 1102, 1103, 1104]) (by decide +kernel) hw
theorem zT_in : ∀ w ∈ zT, w ∈ lw_tbl := (List.forall_mem_append.mpr ⟨zT_in_0, (List.forall_mem_append.mpr ⟨zT_in_1, (List.forall_mem_append.mpr ⟨zT_in_2, (List.forall_mem_append.mpr ⟨zT_in_3, (List.forall_mem_append.mpr ⟨zT_in_4, (List.forall_mem_append.mpr ⟨zT_in_5, (List.forall_mem_append.mpr ⟨zT_in_6, (List.forall_mem_append.mpr ⟨zT_in_7, (List.forall_mem_append.mpr ⟨zT_in_8, (List.forall_mem_append.mpr ⟨zT_in_9, (List.forall_mem_append.mpr ⟨zT_in_10, (List.forall_mem_append.mpr ⟨zT_in_11, (List.forall_mem_append.mpr ⟨zT_in_12, (List.forall_mem_append.mpr ⟨zT_in_13, (List.forall_mem_append.mpr ⟨zT_in_14, (List.forall_mem_append.mpr ⟨zT_in_15, (List.forall_mem_append.mpr ⟨zT_in_16, (List.forall_mem_append.mpr ⟨zT_in_17, (List.forall_mem_append.mpr ⟨zT_in_18, zT_in_19⟩)⟩)⟩)⟩)⟩)⟩)⟩)⟩)⟩)⟩)⟩)⟩)⟩)⟩)⟩)⟩)⟩)⟩)⟩)
set_option maxRecDepth 100000 in
theorem zN_in : ∀ w ∈ zN, w ∈ lw_tbl := fun w hw => z_pick (is := [53, 76, 81, 82, 83, 85, 86, 88, 90, 91, 92, 94, 95, 96, 98, 99, 100, 102, 103, 104, 105, 107, 153, 169, 183, 208, 226, 553, 560, 573, 579, 676]) (by decide +kernel) hw
set_option maxRecDepth 100000 in
theorem zT_good : zT.all goodWord = true := by decide +kernel
set_option maxRecDepth 100000 in
theorem zin0 : ∀ w ∈ u_ws RX0 TX0 3, w ∈ zT := fun w hw => z_pick (is := [120, 121, 122]) (by decide +kernel) hw
set_option maxRecDepth 100000 in
theorem zin1 : ∀ w ∈ u_ws RX1 TX1 3, w ∈ zT := fun w hw => z_pick (is := [160, 161, 162]) (by decide +kernel) hw
set_option maxRecDepth 100000 in
theorem zin2 : ∀ w ∈ u_ws RX2 TX2 2, w ∈ zT := fun w hw => z_pick (is := [172, 173]) (by decide +kernel) hw
set_option maxRecDepth 100000 in
theorem zin3 : ∀ w ∈ u_ws RX3 TX3 8, w ∈ zT := fun w hw => z_pick (is := [80, 81, 82, 83, 84, 85, 86, 87]) (by decide +kernel) hw
set_option maxRecDepth 100000 in
theorem zin4 : ∀ w ∈ u_ws RX4 TX4 6, w ∈ zT := fun w hw => z_pick (is := [144, 145, 146, 147, 148, 149]) (by decide +kernel) hw
set_option maxRecDepth 100000 in
theorem zin5 : ∀ w ∈ u_ws RX5 TX5 2, w ∈ zT := fun w hw => z_pick (is := [130, 131]) (by decide +kernel) hw
set_option maxRecDepth 100000 in
theorem zin6 : ∀ w ∈ u_ws RX6 TX6 1, w ∈ zT := fun w hw => z_pick (is := [111]) (by decide +kernel) hw
set_option maxRecDepth 100000 in
theorem zin7 : ∀ w ∈ u_ws RX7 TX7 5, w ∈ zT := fun w hw => z_pick (is := [61, 62, 63, 64, 65]) (by decide +kernel) hw
set_option maxRecDepth 100000 in
theorem zin8 : ∀ w ∈ u_ws RX8 TX8 11, w ∈ zT := fun w hw => z_pick (is := [185, 186, 187, 188, 189, 190, 191, 192, 193, 194, 195]) (by decide +kernel) hw
set_option maxRecDepth 100000 in
theorem zin9 : ∀ w ∈ u_ws RX9 TX9 34, w ∈ zT := fun w hw => z_pick (is := [711, 712, 713, 714, 715, 716, 717, 718, 719, 720, 721, 722, 723, 724, 725, 726, 727, 728, 729, 730, 731, 732, 733, 734, 735, 736, 737, 738, 739, 740, 741, 742, 743, 744]) (by decide +kernel) hw
set_option maxRecDepth 100000 in
theorem zm0 : (Cond.selects "SurpriseTax$Text" yX7_readLaw yX7_readLaw : Cond) ∈ zT := List.mem_of_getElem? (i := 0) (by decide +kernel)
set_option maxRecDepth 100000 in
theorem zm1 : (Cond.selects "SurpriseTax$Text" yX7_comes yX7_comes : Cond) ∈ zT := List.mem_of_getElem? (i := 1) (by decide +kernel)
set_option maxRecDepth 100000 in
theorem zm2 : (Cond.selects "SurpriseTax$Text" yX7_figure yX7_figure : Cond) ∈ zT := List.mem_of_getElem? (i := 2) (by decide +kernel)
set_option maxRecDepth 100000 in
theorem zm3 : (Cond.selects "SurpriseTax$Text" yX7_readTenths yX7_readTenths : Cond) ∈ zT := List.mem_of_getElem? (i := 3) (by decide +kernel)
set_option maxRecDepth 100000 in
theorem zm4 : (Cond.selects "SurpriseTax$Text" yX7_readPart yX7_readPart : Cond) ∈ zT := List.mem_of_getElem? (i := 4) (by decide +kernel)
set_option maxRecDepth 100000 in
theorem zm5 : (Cond.selects "SurpriseTax$Text" yX7_readPerson yX7_readPerson : Cond) ∈ zT := List.mem_of_getElem? (i := 5) (by decide +kernel)
set_option maxRecDepth 100000 in
theorem zm6 : (Cond.selects "SurpriseTax$Text" yX7_readRoad yX7_readRoad : Cond) ∈ zT := List.mem_of_getElem? (i := 6) (by decide +kernel)
set_option maxRecDepth 100000 in
theorem zm7 : (Cond.selects "SurpriseTax$Advice" yX1_choose yX1_choose : Cond) ∈ zT := List.mem_of_getElem? (i := 7) (by decide +kernel)
set_option maxRecDepth 100000 in
theorem zm8 : (Cond.selects "SurpriseTax$Advice" yX1_playRow yX1_playRow : Cond) ∈ zT := List.mem_of_getElem? (i := 8) (by decide +kernel)
set_option maxRecDepth 100000 in
theorem zm9 : (Cond.selects "SurpriseTax$Foresight" yX2_paidByOthers yX2_paidByOthers : Cond) ∈ zT := List.mem_of_getElem? (i := 9) (by decide +kernel)
set_option maxRecDepth 100000 in
theorem zm10 : (Cond.selects "SurpriseTax$Rolls" yX4_fits yX4_fits : Cond) ∈ zT := List.mem_of_getElem? (i := 10) (by decide +kernel)
set_option maxRecDepth 100000 in
theorem zm11 : (Cond.selects "SurpriseTax$Rolls" yX4_addTale yX4_addTale : Cond) ∈ zT := List.mem_of_getElem? (i := 11) (by decide +kernel)
set_option maxRecDepth 100000 in
theorem zm12 : (Cond.selects "SurpriseTaxModel" yX9_readRealm yX9_readRealm : Cond) ∈ zT := List.mem_of_getElem? (i := 12) (by decide +kernel)
set_option maxRecDepth 100000 in
theorem zm13 : (Cond.selects "SurpriseTaxModel" yX9_figure yX9_figure : Cond) ∈ zT := List.mem_of_getElem? (i := 13) (by decide +kernel)
set_option maxRecDepth 100000 in
theorem zm14 : (Cond.selects "SurpriseTaxModel" yX9_readTen yX9_readTen : Cond) ∈ zT := List.mem_of_getElem? (i := 14) (by decide +kernel)
set_option maxRecDepth 100000 in
theorem zm15 : (Cond.selects "SurpriseTaxModel" yX9_readPart yX9_readPart : Cond) ∈ zT := List.mem_of_getElem? (i := 15) (by decide +kernel)
set_option maxRecDepth 100000 in
theorem zm16 : (Cond.selects "SurpriseTaxModel" yX9_hasOpen yX9_hasOpen : Cond) ∈ zT := List.mem_of_getElem? (i := 16) (by decide +kernel)
set_option maxRecDepth 100000 in
theorem zm17 : (Cond.selects "SurpriseTaxModel" yX9_openOf yX9_openOf : Cond) ∈ zT := List.mem_of_getElem? (i := 17) (by decide +kernel)
set_option maxRecDepth 100000 in
theorem zm18 : (Cond.selects "SurpriseTaxModel" yX9_debtOf yX9_debtOf : Cond) ∈ zT := List.mem_of_getElem? (i := 18) (by decide +kernel)
set_option maxRecDepth 100000 in
theorem zm19 : (Cond.selects "SurpriseTaxModel" yX9_noOne yX9_noOne : Cond) ∈ zT := List.mem_of_getElem? (i := 19) (by decide +kernel)
set_option maxRecDepth 100000 in
theorem zm20 : (Cond.selects "SurpriseTaxModel" yX9_note yX9_note : Cond) ∈ zT := List.mem_of_getElem? (i := 20) (by decide +kernel)
set_option maxRecDepth 100000 in
theorem zm21 : (Cond.selects "SurpriseTaxModel" yX9_goEvent yX9_goEvent : Cond) ∈ zT := List.mem_of_getElem? (i := 21) (by decide +kernel)
set_option maxRecDepth 100000 in
theorem zm22 : (Cond.selects "SurpriseTaxModel" yX9_taxOf yX9_taxOf : Cond) ∈ zT := List.mem_of_getElem? (i := 22) (by decide +kernel)
set_option maxRecDepth 100000 in
theorem zm23 : (Cond.selects "SurpriseTaxModel" yX9_tenMean yX9_tenMean : Cond) ∈ zT := List.mem_of_getElem? (i := 23) (by decide +kernel)
set_option maxRecDepth 100000 in
theorem zm24 : (Cond.selects "SurpriseTaxModel" yX9_counselOf yX9_counselOf : Cond) ∈ zT := List.mem_of_getElem? (i := 24) (by decide +kernel)
set_option maxRecDepth 100000 in
theorem zm25 : (Cond.selects "SurpriseTaxModel" yX9_layBehind yX9_layBehind : Cond) ∈ zT := List.mem_of_getElem? (i := 25) (by decide +kernel)
set_option maxRecDepth 100000 in
theorem zm26 : (Cond.selects "SurpriseTaxModel" yX9_dayOf yX9_dayOf : Cond) ∈ zT := List.mem_of_getElem? (i := 26) (by decide +kernel)
set_option maxRecDepth 100000 in
theorem zm27 : (Cond.selects "SurpriseTaxModel" yX9_findJoke yX9_findJoke : Cond) ∈ zT := List.mem_of_getElem? (i := 27) (by decide +kernel)
set_option maxRecDepth 100000 in
theorem zm28 : (Cond.selects "SurpriseTaxModel" yX9_begin yX9_begin : Cond) ∈ zT := List.mem_of_getElem? (i := 28) (by decide +kernel)
set_option maxRecDepth 100000 in
theorem zm29 : (Cond.initialized "SurpriseTaxLaw" : Cond) ∈ zT := List.mem_of_getElem? (i := 29) (by decide +kernel)
set_option maxRecDepth 100000 in
theorem zm30 : (Cond.initialized "SurpriseTax" : Cond) ∈ zT := List.mem_of_getElem? (i := 30) (by decide +kernel)
set_option maxRecDepth 100000 in
theorem zm31 : (Cond.initialized "SurpriseTax$Text" : Cond) ∈ zT := List.mem_of_getElem? (i := 31) (by decide +kernel)
set_option maxRecDepth 100000 in
theorem zm32 : (Cond.initialized "SurpriseTax$Realm" : Cond) ∈ zT := List.mem_of_getElem? (i := 32) (by decide +kernel)
set_option maxRecDepth 100000 in
theorem zm33 : (Cond.initialized "SurpriseTax$State" : Cond) ∈ zT := List.mem_of_getElem? (i := 33) (by decide +kernel)
set_option maxRecDepth 100000 in
theorem zm34 : (Cond.initialized "SurpriseTax$Acts" : Cond) ∈ zT := List.mem_of_getElem? (i := 34) (by decide +kernel)
set_option maxRecDepth 100000 in
theorem zm35 : (Cond.initialized "SurpriseTax$Slots" : Cond) ∈ zT := List.mem_of_getElem? (i := 35) (by decide +kernel)
set_option maxRecDepth 100000 in
theorem zm36 : (Cond.initialized "SurpriseTax$Rolls" : Cond) ∈ zT := List.mem_of_getElem? (i := 36) (by decide +kernel)
set_option maxRecDepth 100000 in
theorem zm37 : (Cond.initialized "SurpriseTax$Advice" : Cond) ∈ zT := List.mem_of_getElem? (i := 37) (by decide +kernel)
set_option maxRecDepth 100000 in
theorem zm38 : (Cond.initialized "SurpriseTax$Foresight" : Cond) ∈ zT := List.mem_of_getElem? (i := 38) (by decide +kernel)
set_option maxRecDepth 100000 in
theorem zm39 : (Cond.initialized "SurpriseTaxModel" : Cond) ∈ zT := List.mem_of_getElem? (i := 39) (by decide +kernel)
set_option maxRecDepth 100000 in
theorem zm40 : (Cond.initialized "java/lang/Math" : Cond) ∈ zT := List.mem_of_getElem? (i := 40) (by decide +kernel)
set_option maxRecDepth 100000 in
theorem zm41 : (Cond.initialized "java/lang/System" : Cond) ∈ zT := List.mem_of_getElem? (i := 41) (by decide +kernel)
set_option maxRecDepth 100000 in
theorem zm42 : (Cond.initialized "java/lang/Integer" : Cond) ∈ zT := List.mem_of_getElem? (i := 42) (by decide +kernel)
set_option maxRecDepth 100000 in
theorem zm43 : (Cond.classLink "SurpriseTaxLaw" 7 "SurpriseTax" : Cond) ∈ zT := List.mem_of_getElem? (i := 43) (by decide +kernel)
set_option maxRecDepth 100000 in
theorem zm44 : (Cond.instantiable "SurpriseTax" 11 : Cond) ∈ zT := List.mem_of_getElem? (i := 44) (by decide +kernel)
set_option maxRecDepth 100000 in
theorem zm45 : (Cond.methodLink "SurpriseTaxLaw" 9 yX8_init : Cond) ∈ zT := List.mem_of_getElem? (i := 45) (by decide +kernel)
set_option maxRecDepth 100000 in
theorem zm46 : (Cond.instanceMethod yX8_init : Cond) ∈ zT := List.mem_of_getElem? (i := 46) (by decide +kernel)
set_option maxRecDepth 100000 in
theorem zm47 : (Cond.code yX8_init cX8_init 2 none : Cond) ∈ zT := List.mem_of_getElem? (i := 47) (by decide +kernel)
set_option maxRecDepth 100000 in
theorem zm48 : (Cond.methodLink "SurpriseTax" 1 objectInit : Cond) ∈ zT := List.mem_of_getElem? (i := 48) (by decide +kernel)
set_option maxRecDepth 100000 in
theorem zm49 : (Cond.instanceMethod objectInit : Cond) ∈ zT := List.mem_of_getElem? (i := 49) (by decide +kernel)
set_option maxRecDepth 100000 in
theorem zm50 : (Cond.code objectInit ⟨#[0xb1]⟩ 1 none : Cond) ∈ zT := List.mem_of_getElem? (i := 50) (by decide +kernel)
set_option maxRecDepth 100000 in
theorem zm51 : (Cond.classLink "SurpriseTax" 7 "SurpriseTax$Text" : Cond) ∈ zT := List.mem_of_getElem? (i := 51) (by decide +kernel)
set_option maxRecDepth 100000 in
theorem zm52 : (Cond.instantiable "SurpriseTax$Text" 5 : Cond) ∈ zT := List.mem_of_getElem? (i := 52) (by decide +kernel)
set_option maxRecDepth 100000 in
theorem zm53 : (Cond.instanceMethod yX7_init : Cond) ∈ zT := List.mem_of_getElem? (i := 53) (by decide +kernel)
set_option maxRecDepth 100000 in
theorem zm54 : (Cond.code yX7_init cX7_init 1 none : Cond) ∈ zT := List.mem_of_getElem? (i := 54) (by decide +kernel)
set_option maxRecDepth 100000 in
theorem zm55 : (Cond.methodLink "SurpriseTax$Text" 3 objectInit : Cond) ∈ zT := List.mem_of_getElem? (i := 55) (by decide +kernel)
set_option maxRecDepth 100000 in
theorem zm56 : (Cond.fieldLink "SurpriseTax$Text" 9 "SurpriseTax$Text" "bytes" "[I" : Cond) ∈ zT := List.mem_of_getElem? (i := 56) (by decide +kernel)
set_option maxRecDepth 100000 in
theorem zm57 : (Cond.fieldLink "SurpriseTax$Text" 15 "SurpriseTax$Text" "tenths" "[I" : Cond) ∈ zT := List.mem_of_getElem? (i := 57) (by decide +kernel)
set_option maxRecDepth 100000 in
theorem zm58 : (Cond.fieldLink "SurpriseTax$Text" 18 "SurpriseTax$Text" "length" "I" : Cond) ∈ zT := List.mem_of_getElem? (i := 58) (by decide +kernel)
set_option maxRecDepth 100000 in
theorem zm59 : (Cond.fieldLink "SurpriseTax$Text" 22 "SurpriseTax$Text" "at" "I" : Cond) ∈ zT := List.mem_of_getElem? (i := 59) (by decide +kernel)
set_option maxRecDepth 100000 in
theorem zm60 : (Cond.fieldLink "SurpriseTax$Text" 25 "SurpriseTax$Text" "fault" "I" : Cond) ∈ zT := List.mem_of_getElem? (i := 60) (by decide +kernel)
set_option maxRecDepth 100000 in
theorem zm61 : (Cond.laysFinal "SurpriseTax$Text" "SurpriseTax$Text" "bytes" "[I" : Cond) ∈ zT := List.mem_of_getElem? (i := 61) (by decide +kernel)
set_option maxRecDepth 100000 in
theorem zm62 : (Cond.laysFinal "SurpriseTax$Text" "SurpriseTax$Text" "tenths" "[I" : Cond) ∈ zT := List.mem_of_getElem? (i := 62) (by decide +kernel)
set_option maxRecDepth 100000 in
theorem zm63 : (Cond.lays "SurpriseTax$Text" "SurpriseTax$Text" "length" "I" : Cond) ∈ zT := List.mem_of_getElem? (i := 63) (by decide +kernel)
set_option maxRecDepth 100000 in
theorem zm64 : (Cond.lays "SurpriseTax$Text" "SurpriseTax$Text" "at" "I" : Cond) ∈ zT := List.mem_of_getElem? (i := 64) (by decide +kernel)
set_option maxRecDepth 100000 in
theorem zm65 : (Cond.lays "SurpriseTax$Text" "SurpriseTax$Text" "fault" "I" : Cond) ∈ zT := List.mem_of_getElem? (i := 65) (by decide +kernel)
set_option maxRecDepth 100000 in
theorem zm66 : (Cond.arrayClass .int : Cond) ∈ zT := List.mem_of_getElem? (i := 66) (by decide +kernel)
set_option maxRecDepth 100000 in
theorem zm67 : (Cond.classLink "SurpriseTax" 16 "SurpriseTax$Realm" : Cond) ∈ zT := List.mem_of_getElem? (i := 67) (by decide +kernel)
set_option maxRecDepth 100000 in
theorem zm68 : (Cond.instantiable "SurpriseTax$Realm" 8 : Cond) ∈ zT := List.mem_of_getElem? (i := 68) (by decide +kernel)
set_option maxRecDepth 100000 in
theorem zm69 : (Cond.instanceMethod yX3_init : Cond) ∈ zT := List.mem_of_getElem? (i := 69) (by decide +kernel)
set_option maxRecDepth 100000 in
theorem zm70 : (Cond.code yX3_init cX3_init 1 none : Cond) ∈ zT := List.mem_of_getElem? (i := 70) (by decide +kernel)
set_option maxRecDepth 100000 in
theorem zm71 : (Cond.methodLink "SurpriseTax$Realm" 3 objectInit : Cond) ∈ zT := List.mem_of_getElem? (i := 71) (by decide +kernel)
set_option maxRecDepth 100000 in
theorem zm72 : (Cond.fieldLink "SurpriseTax$Realm" 9 "SurpriseTax$Realm" "odds" "[I" : Cond) ∈ zT := List.mem_of_getElem? (i := 72) (by decide +kernel)
set_option maxRecDepth 100000 in
theorem zm73 : (Cond.fieldLink "SurpriseTax$Realm" 15 "SurpriseTax$Realm" "nerve" "[I" : Cond) ∈ zT := List.mem_of_getElem? (i := 73) (by decide +kernel)
set_option maxRecDepth 100000 in
theorem zm74 : (Cond.fieldLink "SurpriseTax$Realm" 18 "SurpriseTax$Realm" "roads" "[I" : Cond) ∈ zT := List.mem_of_getElem? (i := 74) (by decide +kernel)
set_option maxRecDepth 100000 in
theorem zm75 : (Cond.fieldLink "SurpriseTax$Realm" 21 "SurpriseTax$Realm" "rate" "I" : Cond) ∈ zT := List.mem_of_getElem? (i := 75) (by decide +kernel)
set_option maxRecDepth 100000 in
theorem zm76 : (Cond.fieldLink "SurpriseTax$Realm" 25 "SurpriseTax$Realm" "free" "I" : Cond) ∈ zT := List.mem_of_getElem? (i := 76) (by decide +kernel)
set_option maxRecDepth 100000 in
theorem zm77 : (Cond.fieldLink "SurpriseTax$Realm" 28 "SurpriseTax$Realm" "price" "I" : Cond) ∈ zT := List.mem_of_getElem? (i := 77) (by decide +kernel)
set_option maxRecDepth 100000 in
theorem zm78 : (Cond.fieldLink "SurpriseTax$Realm" 31 "SurpriseTax$Realm" "people" "I" : Cond) ∈ zT := List.mem_of_getElem? (i := 78) (by decide +kernel)
set_option maxRecDepth 100000 in
theorem zm79 : (Cond.fieldLink "SurpriseTax$Realm" 34 "SurpriseTax$Realm" "roadCount" "I" : Cond) ∈ zT := List.mem_of_getElem? (i := 79) (by decide +kernel)
set_option maxRecDepth 100000 in
theorem zm80 : (Cond.laysFinal "SurpriseTax$Realm" "SurpriseTax$Realm" "odds" "[I" : Cond) ∈ zT := List.mem_of_getElem? (i := 80) (by decide +kernel)
set_option maxRecDepth 100000 in
theorem zm81 : (Cond.laysFinal "SurpriseTax$Realm" "SurpriseTax$Realm" "nerve" "[I" : Cond) ∈ zT := List.mem_of_getElem? (i := 81) (by decide +kernel)
set_option maxRecDepth 100000 in
theorem zm82 : (Cond.laysFinal "SurpriseTax$Realm" "SurpriseTax$Realm" "roads" "[I" : Cond) ∈ zT := List.mem_of_getElem? (i := 82) (by decide +kernel)
set_option maxRecDepth 100000 in
theorem zm83 : (Cond.lays "SurpriseTax$Realm" "SurpriseTax$Realm" "rate" "I" : Cond) ∈ zT := List.mem_of_getElem? (i := 83) (by decide +kernel)
set_option maxRecDepth 100000 in
theorem zm84 : (Cond.lays "SurpriseTax$Realm" "SurpriseTax$Realm" "free" "I" : Cond) ∈ zT := List.mem_of_getElem? (i := 84) (by decide +kernel)
set_option maxRecDepth 100000 in
theorem zm85 : (Cond.lays "SurpriseTax$Realm" "SurpriseTax$Realm" "price" "I" : Cond) ∈ zT := List.mem_of_getElem? (i := 85) (by decide +kernel)
set_option maxRecDepth 100000 in
theorem zm86 : (Cond.lays "SurpriseTax$Realm" "SurpriseTax$Realm" "people" "I" : Cond) ∈ zT := List.mem_of_getElem? (i := 86) (by decide +kernel)
set_option maxRecDepth 100000 in
theorem zm87 : (Cond.lays "SurpriseTax$Realm" "SurpriseTax$Realm" "roadCount" "I" : Cond) ∈ zT := List.mem_of_getElem? (i := 87) (by decide +kernel)
set_option maxRecDepth 100000 in
theorem zm88 : (Cond.classLink "SurpriseTax" 23 "SurpriseTax$State" : Cond) ∈ zT := List.mem_of_getElem? (i := 88) (by decide +kernel)
set_option maxRecDepth 100000 in
theorem zm89 : (Cond.instantiable "SurpriseTax$State" 1 : Cond) ∈ zT := List.mem_of_getElem? (i := 89) (by decide +kernel)
set_option maxRecDepth 100000 in
theorem zm90 : (Cond.methodLink "SurpriseTax" 25 yX6_init : Cond) ∈ zT := List.mem_of_getElem? (i := 90) (by decide +kernel)
set_option maxRecDepth 100000 in
theorem zm91 : (Cond.instanceMethod yX6_init : Cond) ∈ zT := List.mem_of_getElem? (i := 91) (by decide +kernel)
set_option maxRecDepth 100000 in
theorem zm92 : (Cond.code yX6_init cX6_init 1 none : Cond) ∈ zT := List.mem_of_getElem? (i := 92) (by decide +kernel)
set_option maxRecDepth 100000 in
theorem zm93 : (Cond.methodLink "SurpriseTax$State" 5 objectInit : Cond) ∈ zT := List.mem_of_getElem? (i := 93) (by decide +kernel)
set_option maxRecDepth 100000 in
theorem zm94 : (Cond.methodLink "SurpriseTax$State" 15 yX6_clear : Cond) ∈ zT := List.mem_of_getElem? (i := 94) (by decide +kernel)
set_option maxRecDepth 100000 in
theorem zm95 : (Cond.instanceMethod yX6_clear : Cond) ∈ zT := List.mem_of_getElem? (i := 95) (by decide +kernel)
set_option maxRecDepth 100000 in
theorem zm96 : (Cond.selects "SurpriseTax$State" yX6_clear yX6_clear : Cond) ∈ zT := List.mem_of_getElem? (i := 96) (by decide +kernel)
set_option maxRecDepth 100000 in
theorem zm97 : (Cond.code yX6_clear cX6_clear 2 none : Cond) ∈ zT := List.mem_of_getElem? (i := 97) (by decide +kernel)
set_option maxRecDepth 100000 in
theorem zm98 : (Cond.methodLink "SurpriseTax$State" 18 yX6_forgetNews : Cond) ∈ zT := List.mem_of_getElem? (i := 98) (by decide +kernel)
set_option maxRecDepth 100000 in
theorem zm99 : (Cond.instanceMethod yX6_forgetNews : Cond) ∈ zT := List.mem_of_getElem? (i := 99) (by decide +kernel)
set_option maxRecDepth 100000 in
theorem zm100 : (Cond.selects "SurpriseTax$State" yX6_forgetNews yX6_forgetNews : Cond) ∈ zT := List.mem_of_getElem? (i := 100) (by decide +kernel)
set_option maxRecDepth 100000 in
theorem zm101 : (Cond.code yX6_forgetNews cX6_forgetNews 2 none : Cond) ∈ zT := List.mem_of_getElem? (i := 101) (by decide +kernel)
set_option maxRecDepth 100000 in
theorem zm102 : (Cond.methodLink "SurpriseTax$State" 34 yX6_setDeclared : Cond) ∈ zT := List.mem_of_getElem? (i := 102) (by decide +kernel)
set_option maxRecDepth 100000 in
theorem zm103 : (Cond.instanceMethod yX6_setDeclared : Cond) ∈ zT := List.mem_of_getElem? (i := 103) (by decide +kernel)
set_option maxRecDepth 100000 in
theorem zm104 : (Cond.selects "SurpriseTax$State" yX6_setDeclared yX6_setDeclared : Cond) ∈ zT := List.mem_of_getElem? (i := 104) (by decide +kernel)
set_option maxRecDepth 100000 in
theorem zm105 : (Cond.code yX6_setDeclared cX6_setDeclared 3 none : Cond) ∈ zT := List.mem_of_getElem? (i := 105) (by decide +kernel)
set_option maxRecDepth 100000 in
theorem zm106 : (Cond.methodLink "SurpriseTax$State" 38 yX6_setHeard : Cond) ∈ zT := List.mem_of_getElem? (i := 106) (by decide +kernel)
set_option maxRecDepth 100000 in
theorem zm107 : (Cond.instanceMethod yX6_setHeard : Cond) ∈ zT := List.mem_of_getElem? (i := 107) (by decide +kernel)
set_option maxRecDepth 100000 in
theorem zm108 : (Cond.selects "SurpriseTax$State" yX6_setHeard yX6_setHeard : Cond) ∈ zT := List.mem_of_getElem? (i := 108) (by decide +kernel)
set_option maxRecDepth 100000 in
theorem zm109 : (Cond.code yX6_setHeard cX6_setHeard 3 none : Cond) ∈ zT := List.mem_of_getElem? (i := 109) (by decide +kernel)
set_option maxRecDepth 100000 in
theorem zm110 : (Cond.fieldLink "SurpriseTax$State" 11 "SurpriseTax$State" "cells" "[I" : Cond) ∈ zT := List.mem_of_getElem? (i := 110) (by decide +kernel)
set_option maxRecDepth 100000 in
theorem zm111 : (Cond.laysFinal "SurpriseTax$State" "SurpriseTax$State" "cells" "[I" : Cond) ∈ zT := List.mem_of_getElem? (i := 111) (by decide +kernel)
set_option maxRecDepth 100000 in
theorem zm112 : (Cond.classLink "SurpriseTax" 36 "SurpriseTax$Acts" : Cond) ∈ zT := List.mem_of_getElem? (i := 112) (by decide +kernel)
set_option maxRecDepth 100000 in
theorem zm113 : (Cond.instantiable "SurpriseTax$Acts" 3 : Cond) ∈ zT := List.mem_of_getElem? (i := 113) (by decide +kernel)
set_option maxRecDepth 100000 in
theorem zm114 : (Cond.instanceMethod yX0_init : Cond) ∈ zT := List.mem_of_getElem? (i := 114) (by decide +kernel)
set_option maxRecDepth 100000 in
theorem zm115 : (Cond.code yX0_init cX0_init 1 none : Cond) ∈ zT := List.mem_of_getElem? (i := 115) (by decide +kernel)
set_option maxRecDepth 100000 in
theorem zm116 : (Cond.methodLink "SurpriseTax$Acts" 3 objectInit : Cond) ∈ zT := List.mem_of_getElem? (i := 116) (by decide +kernel)
set_option maxRecDepth 100000 in
theorem zm117 : (Cond.fieldLink "SurpriseTax$Acts" 11 "SurpriseTax$Acts" "store" "[I" : Cond) ∈ zT := List.mem_of_getElem? (i := 117) (by decide +kernel)
set_option maxRecDepth 100000 in
theorem zm118 : (Cond.fieldLink "SurpriseTax$Acts" 17 "SurpriseTax$Acts" "count" "I" : Cond) ∈ zT := List.mem_of_getElem? (i := 118) (by decide +kernel)
set_option maxRecDepth 100000 in
theorem zm119 : (Cond.fieldLink "SurpriseTax$Acts" 21 "SurpriseTax$Acts" "next" "I" : Cond) ∈ zT := List.mem_of_getElem? (i := 119) (by decide +kernel)
set_option maxRecDepth 100000 in
theorem zm120 : (Cond.laysFinal "SurpriseTax$Acts" "SurpriseTax$Acts" "store" "[I" : Cond) ∈ zT := List.mem_of_getElem? (i := 120) (by decide +kernel)
set_option maxRecDepth 100000 in
theorem zm121 : (Cond.lays "SurpriseTax$Acts" "SurpriseTax$Acts" "count" "I" : Cond) ∈ zT := List.mem_of_getElem? (i := 121) (by decide +kernel)
set_option maxRecDepth 100000 in
theorem zm122 : (Cond.lays "SurpriseTax$Acts" "SurpriseTax$Acts" "next" "I" : Cond) ∈ zT := List.mem_of_getElem? (i := 122) (by decide +kernel)
set_option maxRecDepth 100000 in
theorem zm123 : (Cond.classLink "SurpriseTax" 43 "SurpriseTax$Slots" : Cond) ∈ zT := List.mem_of_getElem? (i := 123) (by decide +kernel)
set_option maxRecDepth 100000 in
theorem zm124 : (Cond.instantiable "SurpriseTax$Slots" 2 : Cond) ∈ zT := List.mem_of_getElem? (i := 124) (by decide +kernel)
set_option maxRecDepth 100000 in
theorem zm125 : (Cond.instanceMethod yX5_init : Cond) ∈ zT := List.mem_of_getElem? (i := 125) (by decide +kernel)
set_option maxRecDepth 100000 in
theorem zm126 : (Cond.code yX5_init cX5_init 1 none : Cond) ∈ zT := List.mem_of_getElem? (i := 126) (by decide +kernel)
set_option maxRecDepth 100000 in
theorem zm127 : (Cond.methodLink "SurpriseTax$Slots" 3 objectInit : Cond) ∈ zT := List.mem_of_getElem? (i := 127) (by decide +kernel)
set_option maxRecDepth 100000 in
theorem zm128 : (Cond.fieldLink "SurpriseTax$Slots" 11 "SurpriseTax$Slots" "store" "[I" : Cond) ∈ zT := List.mem_of_getElem? (i := 128) (by decide +kernel)
set_option maxRecDepth 100000 in
theorem zm129 : (Cond.fieldLink "SurpriseTax$Slots" 17 "SurpriseTax$Slots" "kept" "[Z" : Cond) ∈ zT := List.mem_of_getElem? (i := 129) (by decide +kernel)
set_option maxRecDepth 100000 in
theorem zm130 : (Cond.laysFinal "SurpriseTax$Slots" "SurpriseTax$Slots" "store" "[I" : Cond) ∈ zT := List.mem_of_getElem? (i := 130) (by decide +kernel)
set_option maxRecDepth 100000 in
theorem zm131 : (Cond.laysFinal "SurpriseTax$Slots" "SurpriseTax$Slots" "kept" "[Z" : Cond) ∈ zT := List.mem_of_getElem? (i := 131) (by decide +kernel)
set_option maxRecDepth 100000 in
theorem zm132 : (Cond.arrayClass .boolean : Cond) ∈ zT := List.mem_of_getElem? (i := 132) (by decide +kernel)
set_option maxRecDepth 100000 in
theorem zm133 : (Cond.classLink "SurpriseTax" 50 "SurpriseTax$Rolls" : Cond) ∈ zT := List.mem_of_getElem? (i := 133) (by decide +kernel)
set_option maxRecDepth 100000 in
theorem zm134 : (Cond.instantiable "SurpriseTax$Rolls" 6 : Cond) ∈ zT := List.mem_of_getElem? (i := 134) (by decide +kernel)
set_option maxRecDepth 100000 in
theorem zm135 : (Cond.instanceMethod yX4_init : Cond) ∈ zT := List.mem_of_getElem? (i := 135) (by decide +kernel)
set_option maxRecDepth 100000 in
theorem zm136 : (Cond.code yX4_init cX4_init 1 none : Cond) ∈ zT := List.mem_of_getElem? (i := 136) (by decide +kernel)
set_option maxRecDepth 100000 in
theorem zm137 : (Cond.methodLink "SurpriseTax$Rolls" 3 objectInit : Cond) ∈ zT := List.mem_of_getElem? (i := 137) (by decide +kernel)
set_option maxRecDepth 100000 in
theorem zm138 : (Cond.fieldLink "SurpriseTax$Rolls" 9 "SurpriseTax$Rolls" "person" "[I" : Cond) ∈ zT := List.mem_of_getElem? (i := 138) (by decide +kernel)
set_option maxRecDepth 100000 in
theorem zm139 : (Cond.fieldLink "SurpriseTax$Rolls" 15 "SurpriseTax$Rolls" "paid" "[I" : Cond) ∈ zT := List.mem_of_getElem? (i := 139) (by decide +kernel)
set_option maxRecDepth 100000 in
theorem zm140 : (Cond.fieldLink "SurpriseTax$Rolls" 18 "SurpriseTax$Rolls" "count" "I" : Cond) ∈ zT := List.mem_of_getElem? (i := 140) (by decide +kernel)
set_option maxRecDepth 100000 in
theorem zm141 : (Cond.fieldLink "SurpriseTax$Rolls" 22 "SurpriseTax$Rolls" "fitting" "I" : Cond) ∈ zT := List.mem_of_getElem? (i := 141) (by decide +kernel)
set_option maxRecDepth 100000 in
theorem zm142 : (Cond.fieldLink "SurpriseTax$Rolls" 25 "SurpriseTax$Rolls" "kinds" "I" : Cond) ∈ zT := List.mem_of_getElem? (i := 142) (by decide +kernel)
set_option maxRecDepth 100000 in
theorem zm143 : (Cond.fieldLink "SurpriseTax$Rolls" 28 "SurpriseTax$Rolls" "sure" "I" : Cond) ∈ zT := List.mem_of_getElem? (i := 143) (by decide +kernel)
set_option maxRecDepth 100000 in
theorem zm144 : (Cond.laysFinal "SurpriseTax$Rolls" "SurpriseTax$Rolls" "person" "[I" : Cond) ∈ zT := List.mem_of_getElem? (i := 144) (by decide +kernel)
set_option maxRecDepth 100000 in
theorem zm145 : (Cond.laysFinal "SurpriseTax$Rolls" "SurpriseTax$Rolls" "paid" "[I" : Cond) ∈ zT := List.mem_of_getElem? (i := 145) (by decide +kernel)
set_option maxRecDepth 100000 in
theorem zm146 : (Cond.lays "SurpriseTax$Rolls" "SurpriseTax$Rolls" "count" "I" : Cond) ∈ zT := List.mem_of_getElem? (i := 146) (by decide +kernel)
set_option maxRecDepth 100000 in
theorem zm147 : (Cond.lays "SurpriseTax$Rolls" "SurpriseTax$Rolls" "fitting" "I" : Cond) ∈ zT := List.mem_of_getElem? (i := 147) (by decide +kernel)
set_option maxRecDepth 100000 in
theorem zm148 : (Cond.lays "SurpriseTax$Rolls" "SurpriseTax$Rolls" "kinds" "I" : Cond) ∈ zT := List.mem_of_getElem? (i := 148) (by decide +kernel)
set_option maxRecDepth 100000 in
theorem zm149 : (Cond.lays "SurpriseTax$Rolls" "SurpriseTax$Rolls" "sure" "I" : Cond) ∈ zT := List.mem_of_getElem? (i := 149) (by decide +kernel)
set_option maxRecDepth 100000 in
theorem zm150 : (Cond.classLink "SurpriseTax" 57 "SurpriseTax$Advice" : Cond) ∈ zT := List.mem_of_getElem? (i := 150) (by decide +kernel)
set_option maxRecDepth 100000 in
theorem zm151 : (Cond.instantiable "SurpriseTax$Advice" 3 : Cond) ∈ zT := List.mem_of_getElem? (i := 151) (by decide +kernel)
set_option maxRecDepth 100000 in
theorem zm152 : (Cond.instanceMethod yX1_init : Cond) ∈ zT := List.mem_of_getElem? (i := 152) (by decide +kernel)
set_option maxRecDepth 100000 in
theorem zm153 : (Cond.code yX1_init cX1_init 1 none : Cond) ∈ zT := List.mem_of_getElem? (i := 153) (by decide +kernel)
set_option maxRecDepth 100000 in
theorem zm154 : (Cond.methodLink "SurpriseTax$Advice" 3 objectInit : Cond) ∈ zT := List.mem_of_getElem? (i := 154) (by decide +kernel)
set_option maxRecDepth 100000 in
theorem zm155 : (Cond.classLink "SurpriseTax$Advice" 9 "SurpriseTax$State" : Cond) ∈ zT := List.mem_of_getElem? (i := 155) (by decide +kernel)
set_option maxRecDepth 100000 in
theorem zm156 : (Cond.methodLink "SurpriseTax$Advice" 11 yX6_init : Cond) ∈ zT := List.mem_of_getElem? (i := 156) (by decide +kernel)
set_option maxRecDepth 100000 in
theorem zm157 : (Cond.fieldLink "SurpriseTax$Advice" 12 "SurpriseTax$Advice" "trial" "LSurpriseTax$State;" : Cond) ∈ zT := List.mem_of_getElem? (i := 157) (by decide +kernel)
set_option maxRecDepth 100000 in
theorem zm158 : (Cond.fieldLink "SurpriseTax$Advice" 18 "SurpriseTax$Advice" "choice" "I" : Cond) ∈ zT := List.mem_of_getElem? (i := 158) (by decide +kernel)
set_option maxRecDepth 100000 in
theorem zm159 : (Cond.fieldLink "SurpriseTax$Advice" 22 "SurpriseTax$Advice" "tenfold" "I" : Cond) ∈ zT := List.mem_of_getElem? (i := 159) (by decide +kernel)
set_option maxRecDepth 100000 in
theorem zm160 : (Cond.laysFinal "SurpriseTax$Advice" "SurpriseTax$Advice" "trial" "LSurpriseTax$State;" : Cond) ∈ zT := List.mem_of_getElem? (i := 160) (by decide +kernel)
set_option maxRecDepth 100000 in
theorem zm161 : (Cond.lays "SurpriseTax$Advice" "SurpriseTax$Advice" "choice" "I" : Cond) ∈ zT := List.mem_of_getElem? (i := 161) (by decide +kernel)
set_option maxRecDepth 100000 in
theorem zm162 : (Cond.lays "SurpriseTax$Advice" "SurpriseTax$Advice" "tenfold" "I" : Cond) ∈ zT := List.mem_of_getElem? (i := 162) (by decide +kernel)
set_option maxRecDepth 100000 in
theorem zm163 : (Cond.classLink "SurpriseTax" 64 "SurpriseTax$Foresight" : Cond) ∈ zT := List.mem_of_getElem? (i := 163) (by decide +kernel)
set_option maxRecDepth 100000 in
theorem zm164 : (Cond.instantiable "SurpriseTax$Foresight" 2 : Cond) ∈ zT := List.mem_of_getElem? (i := 164) (by decide +kernel)
set_option maxRecDepth 100000 in
theorem zm165 : (Cond.instanceMethod yX2_init : Cond) ∈ zT := List.mem_of_getElem? (i := 165) (by decide +kernel)
set_option maxRecDepth 100000 in
theorem zm166 : (Cond.code yX2_init cX2_init 1 none : Cond) ∈ zT := List.mem_of_getElem? (i := 166) (by decide +kernel)
set_option maxRecDepth 100000 in
theorem zm167 : (Cond.methodLink "SurpriseTax$Foresight" 3 objectInit : Cond) ∈ zT := List.mem_of_getElem? (i := 167) (by decide +kernel)
set_option maxRecDepth 100000 in
theorem zm168 : (Cond.classLink "SurpriseTax$Foresight" 9 "SurpriseTax$State" : Cond) ∈ zT := List.mem_of_getElem? (i := 168) (by decide +kernel)
set_option maxRecDepth 100000 in
theorem zm169 : (Cond.methodLink "SurpriseTax$Foresight" 11 yX6_init : Cond) ∈ zT := List.mem_of_getElem? (i := 169) (by decide +kernel)
set_option maxRecDepth 100000 in
theorem zm170 : (Cond.fieldLink "SurpriseTax$Foresight" 12 "SurpriseTax$Foresight" "ahead" "LSurpriseTax$State;" : Cond) ∈ zT := List.mem_of_getElem? (i := 170) (by decide +kernel)
set_option maxRecDepth 100000 in
theorem zm171 : (Cond.fieldLink "SurpriseTax$Foresight" 18 "SurpriseTax$Foresight" "jokeRow" "I" : Cond) ∈ zT := List.mem_of_getElem? (i := 171) (by decide +kernel)
set_option maxRecDepth 100000 in
theorem zm172 : (Cond.laysFinal "SurpriseTax$Foresight" "SurpriseTax$Foresight" "ahead" "LSurpriseTax$State;" : Cond) ∈ zT := List.mem_of_getElem? (i := 172) (by decide +kernel)
set_option maxRecDepth 100000 in
theorem zm173 : (Cond.lays "SurpriseTax$Foresight" "SurpriseTax$Foresight" "jokeRow" "I" : Cond) ∈ zT := List.mem_of_getElem? (i := 173) (by decide +kernel)
set_option maxRecDepth 100000 in
theorem zm174 : (Cond.fieldLink "SurpriseTax" 10 "SurpriseTax" "text" "LSurpriseTax$Text;" : Cond) ∈ zT := List.mem_of_getElem? (i := 174) (by decide +kernel)
set_option maxRecDepth 100000 in
theorem zm175 : (Cond.fieldLink "SurpriseTax" 19 "SurpriseTax" "realm" "LSurpriseTax$Realm;" : Cond) ∈ zT := List.mem_of_getElem? (i := 175) (by decide +kernel)
set_option maxRecDepth 100000 in
theorem zm176 : (Cond.fieldLink "SurpriseTax" 26 "SurpriseTax" "now" "LSurpriseTax$State;" : Cond) ∈ zT := List.mem_of_getElem? (i := 176) (by decide +kernel)
set_option maxRecDepth 100000 in
theorem zm177 : (Cond.fieldLink "SurpriseTax" 30 "SurpriseTax" "draftRealm" "LSurpriseTax$Realm;" : Cond) ∈ zT := List.mem_of_getElem? (i := 177) (by decide +kernel)
set_option maxRecDepth 100000 in
theorem zm178 : (Cond.fieldLink "SurpriseTax" 33 "SurpriseTax" "draftState" "LSurpriseTax$State;" : Cond) ∈ zT := List.mem_of_getElem? (i := 178) (by decide +kernel)
set_option maxRecDepth 100000 in
theorem zm179 : (Cond.fieldLink "SurpriseTax" 39 "SurpriseTax" "acts" "LSurpriseTax$Acts;" : Cond) ∈ zT := List.mem_of_getElem? (i := 179) (by decide +kernel)
set_option maxRecDepth 100000 in
theorem zm180 : (Cond.fieldLink "SurpriseTax" 46 "SurpriseTax" "slots" "LSurpriseTax$Slots;" : Cond) ∈ zT := List.mem_of_getElem? (i := 180) (by decide +kernel)
set_option maxRecDepth 100000 in
theorem zm181 : (Cond.fieldLink "SurpriseTax" 53 "SurpriseTax" "rolls" "LSurpriseTax$Rolls;" : Cond) ∈ zT := List.mem_of_getElem? (i := 181) (by decide +kernel)
set_option maxRecDepth 100000 in
theorem zm182 : (Cond.fieldLink "SurpriseTax" 60 "SurpriseTax" "advice" "LSurpriseTax$Advice;" : Cond) ∈ zT := List.mem_of_getElem? (i := 182) (by decide +kernel)
set_option maxRecDepth 100000 in
theorem zm183 : (Cond.fieldLink "SurpriseTax" 67 "SurpriseTax" "foresight" "LSurpriseTax$Foresight;" : Cond) ∈ zT := List.mem_of_getElem? (i := 183) (by decide +kernel)
set_option maxRecDepth 100000 in
theorem zm184 : (Cond.fieldLink "SurpriseTax" 71 "SurpriseTax" "seed" "J" : Cond) ∈ zT := List.mem_of_getElem? (i := 184) (by decide +kernel)
set_option maxRecDepth 100000 in
theorem zm185 : (Cond.laysFinal "SurpriseTax" "SurpriseTax" "text" "LSurpriseTax$Text;" : Cond) ∈ zT := List.mem_of_getElem? (i := 185) (by decide +kernel)
set_option maxRecDepth 100000 in
theorem zm186 : (Cond.laysFinal "SurpriseTax" "SurpriseTax" "realm" "LSurpriseTax$Realm;" : Cond) ∈ zT := List.mem_of_getElem? (i := 186) (by decide +kernel)
set_option maxRecDepth 100000 in
theorem zm187 : (Cond.laysFinal "SurpriseTax" "SurpriseTax" "now" "LSurpriseTax$State;" : Cond) ∈ zT := List.mem_of_getElem? (i := 187) (by decide +kernel)
set_option maxRecDepth 100000 in
theorem zm188 : (Cond.laysFinal "SurpriseTax" "SurpriseTax" "draftRealm" "LSurpriseTax$Realm;" : Cond) ∈ zT := List.mem_of_getElem? (i := 188) (by decide +kernel)
set_option maxRecDepth 100000 in
theorem zm189 : (Cond.laysFinal "SurpriseTax" "SurpriseTax" "draftState" "LSurpriseTax$State;" : Cond) ∈ zT := List.mem_of_getElem? (i := 189) (by decide +kernel)
set_option maxRecDepth 100000 in
theorem zm190 : (Cond.laysFinal "SurpriseTax" "SurpriseTax" "acts" "LSurpriseTax$Acts;" : Cond) ∈ zT := List.mem_of_getElem? (i := 190) (by decide +kernel)
set_option maxRecDepth 100000 in
theorem zm191 : (Cond.laysFinal "SurpriseTax" "SurpriseTax" "slots" "LSurpriseTax$Slots;" : Cond) ∈ zT := List.mem_of_getElem? (i := 191) (by decide +kernel)
set_option maxRecDepth 100000 in
theorem zm192 : (Cond.laysFinal "SurpriseTax" "SurpriseTax" "rolls" "LSurpriseTax$Rolls;" : Cond) ∈ zT := List.mem_of_getElem? (i := 192) (by decide +kernel)
set_option maxRecDepth 100000 in
theorem zm193 : (Cond.laysFinal "SurpriseTax" "SurpriseTax" "advice" "LSurpriseTax$Advice;" : Cond) ∈ zT := List.mem_of_getElem? (i := 193) (by decide +kernel)
set_option maxRecDepth 100000 in
theorem zm194 : (Cond.laysFinal "SurpriseTax" "SurpriseTax" "foresight" "LSurpriseTax$Foresight;" : Cond) ∈ zT := List.mem_of_getElem? (i := 194) (by decide +kernel)
set_option maxRecDepth 100000 in
theorem zm195 : (Cond.lays "SurpriseTax" "SurpriseTax" "seed" "J" : Cond) ∈ zT := List.mem_of_getElem? (i := 195) (by decide +kernel)
set_option maxRecDepth 100000 in
theorem zm196 : (Cond.methodLink "SurpriseTaxLaw" 13 yX8_write : Cond) ∈ zT := List.mem_of_getElem? (i := 196) (by decide +kernel)
set_option maxRecDepth 100000 in
theorem zm197 : (Cond.instanceMethod yX8_write : Cond) ∈ zT := List.mem_of_getElem? (i := 197) (by decide +kernel)
set_option maxRecDepth 100000 in
theorem zm198 : (Cond.selects "SurpriseTax" yX8_write yX8_write : Cond) ∈ zT := List.mem_of_getElem? (i := 198) (by decide +kernel)
set_option maxRecDepth 100000 in
theorem zm199 : (Cond.code yX8_write cX8_write 2 (some .int) : Cond) ∈ zT := List.mem_of_getElem? (i := 199) (by decide +kernel)
set_option maxRecDepth 100000 in
theorem zm200 : (Cond.methodLink "SurpriseTax" 79 yX7_length : Cond) ∈ zT := List.mem_of_getElem? (i := 200) (by decide +kernel)
set_option maxRecDepth 100000 in
theorem zm201 : (Cond.instanceMethod yX7_length : Cond) ∈ zT := List.mem_of_getElem? (i := 201) (by decide +kernel)
set_option maxRecDepth 100000 in
theorem zm202 : (Cond.selects "SurpriseTax$Text" yX7_length yX7_length : Cond) ∈ zT := List.mem_of_getElem? (i := 202) (by decide +kernel)
set_option maxRecDepth 100000 in
theorem zm203 : (Cond.code yX7_length cX7_length 1 (some .int) : Cond) ∈ zT := List.mem_of_getElem? (i := 203) (by decide +kernel)
set_option maxRecDepth 100000 in
theorem zm204 : (Cond.methodLink "SurpriseTax" 83 yX7_add : Cond) ∈ zT := List.mem_of_getElem? (i := 204) (by decide +kernel)
set_option maxRecDepth 100000 in
theorem zm205 : (Cond.instanceMethod yX7_add : Cond) ∈ zT := List.mem_of_getElem? (i := 205) (by decide +kernel)
set_option maxRecDepth 100000 in
theorem zm206 : (Cond.selects "SurpriseTax$Text" yX7_add yX7_add : Cond) ∈ zT := List.mem_of_getElem? (i := 206) (by decide +kernel)
set_option maxRecDepth 100000 in
theorem zm207 : (Cond.code yX7_add cX7_add 2 none : Cond) ∈ zT := List.mem_of_getElem? (i := 207) (by decide +kernel)
set_option maxRecDepth 100000 in
theorem zm208 : (Cond.methodLink "SurpriseTaxLaw" 18 yX8_wipe : Cond) ∈ zT := List.mem_of_getElem? (i := 208) (by decide +kernel)
set_option maxRecDepth 100000 in
theorem zm209 : (Cond.instanceMethod yX8_wipe : Cond) ∈ zT := List.mem_of_getElem? (i := 209) (by decide +kernel)
set_option maxRecDepth 100000 in
theorem zm210 : (Cond.selects "SurpriseTax" yX8_wipe yX8_wipe : Cond) ∈ zT := List.mem_of_getElem? (i := 210) (by decide +kernel)
set_option maxRecDepth 100000 in
theorem zm211 : (Cond.code yX8_wipe cX8_wipe 2 (some .int) : Cond) ∈ zT := List.mem_of_getElem? (i := 211) (by decide +kernel)
set_option maxRecDepth 100000 in
theorem zm212 : (Cond.methodLink "SurpriseTax" 87 yX7_clear : Cond) ∈ zT := List.mem_of_getElem? (i := 212) (by decide +kernel)
set_option maxRecDepth 100000 in
theorem zm213 : (Cond.instanceMethod yX7_clear : Cond) ∈ zT := List.mem_of_getElem? (i := 213) (by decide +kernel)
set_option maxRecDepth 100000 in
theorem zm214 : (Cond.selects "SurpriseTax$Text" yX7_clear yX7_clear : Cond) ∈ zT := List.mem_of_getElem? (i := 214) (by decide +kernel)
set_option maxRecDepth 100000 in
theorem zm215 : (Cond.code yX7_clear cX7_clear 1 none : Cond) ∈ zT := List.mem_of_getElem? (i := 215) (by decide +kernel)
set_option maxRecDepth 100000 in
theorem zm216 : (Cond.methodLink "SurpriseTaxLaw" 23 yX8_fault : Cond) ∈ zT := List.mem_of_getElem? (i := 216) (by decide +kernel)
set_option maxRecDepth 100000 in
theorem zm217 : (Cond.instanceMethod yX8_fault : Cond) ∈ zT := List.mem_of_getElem? (i := 217) (by decide +kernel)
set_option maxRecDepth 100000 in
theorem zm218 : (Cond.selects "SurpriseTax" yX8_fault yX8_fault : Cond) ∈ zT := List.mem_of_getElem? (i := 218) (by decide +kernel)
set_option maxRecDepth 100000 in
theorem zm219 : (Cond.code yX8_fault cX8_fault 1 (some .int) : Cond) ∈ zT := List.mem_of_getElem? (i := 219) (by decide +kernel)
set_option maxRecDepth 100000 in
theorem zm220 : (Cond.methodLink "SurpriseTax" 90 yX7_read : Cond) ∈ zT := List.mem_of_getElem? (i := 220) (by decide +kernel)
set_option maxRecDepth 100000 in
theorem zm221 : (Cond.instanceMethod yX7_read : Cond) ∈ zT := List.mem_of_getElem? (i := 221) (by decide +kernel)
set_option maxRecDepth 100000 in
theorem zm222 : (Cond.selects "SurpriseTax$Text" yX7_read yX7_read : Cond) ∈ zT := List.mem_of_getElem? (i := 222) (by decide +kernel)
set_option maxRecDepth 100000 in
theorem zm223 : (Cond.code yX7_read cX7_read 4 (some .int) : Cond) ∈ zT := List.mem_of_getElem? (i := 223) (by decide +kernel)
set_option maxRecDepth 100000 in
theorem zm224 : (Cond.methodLink "SurpriseTax$Text" 28 yX3_sendAllAway : Cond) ∈ zT := List.mem_of_getElem? (i := 224) (by decide +kernel)
set_option maxRecDepth 100000 in
theorem zm225 : (Cond.instanceMethod yX3_sendAllAway : Cond) ∈ zT := List.mem_of_getElem? (i := 225) (by decide +kernel)
set_option maxRecDepth 100000 in
theorem zm226 : (Cond.selects "SurpriseTax$Realm" yX3_sendAllAway yX3_sendAllAway : Cond) ∈ zT := List.mem_of_getElem? (i := 226) (by decide +kernel)
set_option maxRecDepth 100000 in
theorem zm227 : (Cond.code yX3_sendAllAway cX3_sendAllAway 2 none : Cond) ∈ zT := List.mem_of_getElem? (i := 227) (by decide +kernel)
set_option maxRecDepth 100000 in
theorem zm228 : (Cond.methodLink "SurpriseTax$Text" 33 yX6_clear : Cond) ∈ zT := List.mem_of_getElem? (i := 228) (by decide +kernel)
set_option maxRecDepth 100000 in
theorem zm229 : (Cond.methodLink "SurpriseTax$Text" 38 yX7_readLaw : Cond) ∈ zT := List.mem_of_getElem? (i := 229) (by decide +kernel)
set_option maxRecDepth 100000 in
theorem zm230 : (Cond.instanceMethod yX7_readLaw : Cond) ∈ zT := List.mem_of_getElem? (i := 230) (by decide +kernel)
set_option maxRecDepth 100000 in
theorem zm231 : (Cond.code yX7_readLaw cX7_readLaw 3 none : Cond) ∈ zT := List.mem_of_getElem? (i := 231) (by decide +kernel)
set_option maxRecDepth 100000 in
theorem zm232 : (Cond.methodLink "SurpriseTax$Text" 46 yX7_comes : Cond) ∈ zT := List.mem_of_getElem? (i := 232) (by decide +kernel)
set_option maxRecDepth 100000 in
theorem zm233 : (Cond.instanceMethod yX7_comes : Cond) ∈ zT := List.mem_of_getElem? (i := 233) (by decide +kernel)
set_option maxRecDepth 100000 in
theorem zm234 : (Cond.code yX7_comes cX7_comes 2 (some .boolean) : Cond) ∈ zT := List.mem_of_getElem? (i := 234) (by decide +kernel)
set_option maxRecDepth 100000 in
theorem zm235 : (Cond.methodLink "SurpriseTax$Text" 50 yX7_figure : Cond) ∈ zT := List.mem_of_getElem? (i := 235) (by decide +kernel)
set_option maxRecDepth 100000 in
theorem zm236 : (Cond.instanceMethod yX7_figure : Cond) ∈ zT := List.mem_of_getElem? (i := 236) (by decide +kernel)
set_option maxRecDepth 100000 in
theorem zm237 : (Cond.code yX7_figure cX7_figure 3 (some .int) : Cond) ∈ zT := List.mem_of_getElem? (i := 237) (by decide +kernel)
set_option maxRecDepth 100000 in
theorem zm238 : (Cond.methodLink "SurpriseTax$Text" 63 yX7_readTenths : Cond) ∈ zT := List.mem_of_getElem? (i := 238) (by decide +kernel)
set_option maxRecDepth 100000 in
theorem zm239 : (Cond.instanceMethod yX7_readTenths : Cond) ∈ zT := List.mem_of_getElem? (i := 239) (by decide +kernel)
set_option maxRecDepth 100000 in
theorem zm240 : (Cond.code yX7_readTenths cX7_readTenths 5 none : Cond) ∈ zT := List.mem_of_getElem? (i := 240) (by decide +kernel)
set_option maxRecDepth 100000 in
theorem zm241 : (Cond.methodLink "SurpriseTax$Text" 99 Lib.Math.max.name : Cond) ∈ zT := List.mem_of_getElem? (i := 241) (by decide +kernel)
set_option maxRecDepth 100000 in
theorem zm242 : (Cond.static Lib.Math.max.name : Cond) ∈ zT := List.mem_of_getElem? (i := 242) (by decide +kernel)
set_option maxRecDepth 100000 in
theorem zm243 : (Cond.code Lib.Math.max.name Lib.Math.max.code 2 (some .int) : Cond) ∈ zT := List.mem_of_getElem? (i := 243) (by decide +kernel)
set_option maxRecDepth 100000 in
theorem zm244 : (Cond.methodLink "SurpriseTax$Text" 105 Lib.Math.min.name : Cond) ∈ zT := List.mem_of_getElem? (i := 244) (by decide +kernel)
set_option maxRecDepth 100000 in
theorem zm245 : (Cond.static Lib.Math.min.name : Cond) ∈ zT := List.mem_of_getElem? (i := 245) (by decide +kernel)
set_option maxRecDepth 100000 in
theorem zm246 : (Cond.code Lib.Math.min.name Lib.Math.min.code 2 (some .int) : Cond) ∈ zT := List.mem_of_getElem? (i := 246) (by decide +kernel)
set_option maxRecDepth 100000 in
theorem zm247 : (Cond.methodLink "SurpriseTax$Text" 42 yX7_readPart : Cond) ∈ zT := List.mem_of_getElem? (i := 247) (by decide +kernel)
set_option maxRecDepth 100000 in
theorem zm248 : (Cond.instanceMethod yX7_readPart : Cond) ∈ zT := List.mem_of_getElem? (i := 248) (by decide +kernel)
set_option maxRecDepth 100000 in
theorem zm249 : (Cond.code yX7_readPart cX7_readPart 3 none : Cond) ∈ zT := List.mem_of_getElem? (i := 249) (by decide +kernel)
set_option maxRecDepth 100000 in
theorem zm250 : (Cond.methodLink "SurpriseTax$Text" 72 yX7_readPerson : Cond) ∈ zT := List.mem_of_getElem? (i := 250) (by decide +kernel)
set_option maxRecDepth 100000 in
theorem zm251 : (Cond.instanceMethod yX7_readPerson : Cond) ∈ zT := List.mem_of_getElem? (i := 251) (by decide +kernel)
set_option maxRecDepth 100000 in
theorem zm252 : (Cond.code yX7_readPerson cX7_readPerson 5 none : Cond) ∈ zT := List.mem_of_getElem? (i := 252) (by decide +kernel)
set_option maxRecDepth 100000 in
theorem zm253 : (Cond.methodLink "SurpriseTax$Text" 82 yX6_setExpected : Cond) ∈ zT := List.mem_of_getElem? (i := 253) (by decide +kernel)
set_option maxRecDepth 100000 in
theorem zm254 : (Cond.instanceMethod yX6_setExpected : Cond) ∈ zT := List.mem_of_getElem? (i := 254) (by decide +kernel)
set_option maxRecDepth 100000 in
theorem zm255 : (Cond.selects "SurpriseTax$State" yX6_setExpected yX6_setExpected : Cond) ∈ zT := List.mem_of_getElem? (i := 255) (by decide +kernel)
set_option maxRecDepth 100000 in
theorem zm256 : (Cond.code yX6_setExpected cX6_setExpected 4 none : Cond) ∈ zT := List.mem_of_getElem? (i := 256) (by decide +kernel)
set_option maxRecDepth 100000 in
theorem zm257 : (Cond.methodLink "SurpriseTax$Text" 86 yX6_setCoins : Cond) ∈ zT := List.mem_of_getElem? (i := 257) (by decide +kernel)
set_option maxRecDepth 100000 in
theorem zm258 : (Cond.instanceMethod yX6_setCoins : Cond) ∈ zT := List.mem_of_getElem? (i := 258) (by decide +kernel)
set_option maxRecDepth 100000 in
theorem zm259 : (Cond.selects "SurpriseTax$State" yX6_setCoins yX6_setCoins : Cond) ∈ zT := List.mem_of_getElem? (i := 259) (by decide +kernel)
set_option maxRecDepth 100000 in
theorem zm260 : (Cond.code yX6_setCoins cX6_setCoins 3 none : Cond) ∈ zT := List.mem_of_getElem? (i := 260) (by decide +kernel)
set_option maxRecDepth 100000 in
theorem zm261 : (Cond.methodLink "SurpriseTax$Text" 75 yX3_roadStarts : Cond) ∈ zT := List.mem_of_getElem? (i := 261) (by decide +kernel)
set_option maxRecDepth 100000 in
theorem zm262 : (Cond.instanceMethod yX3_roadStarts : Cond) ∈ zT := List.mem_of_getElem? (i := 262) (by decide +kernel)
set_option maxRecDepth 100000 in
theorem zm263 : (Cond.selects "SurpriseTax$Realm" yX3_roadStarts yX3_roadStarts : Cond) ∈ zT := List.mem_of_getElem? (i := 263) (by decide +kernel)
set_option maxRecDepth 100000 in
theorem zm264 : (Cond.code yX3_roadStarts cX3_roadStarts 3 (some .int) : Cond) ∈ zT := List.mem_of_getElem? (i := 264) (by decide +kernel)
set_option maxRecDepth 100000 in
theorem zm265 : (Cond.methodLink "SurpriseTax$Realm" 37 yX3_roadEnds : Cond) ∈ zT := List.mem_of_getElem? (i := 265) (by decide +kernel)
set_option maxRecDepth 100000 in
theorem zm266 : (Cond.instanceMethod yX3_roadEnds : Cond) ∈ zT := List.mem_of_getElem? (i := 266) (by decide +kernel)
set_option maxRecDepth 100000 in
theorem zm267 : (Cond.selects "SurpriseTax$Realm" yX3_roadEnds yX3_roadEnds : Cond) ∈ zT := List.mem_of_getElem? (i := 267) (by decide +kernel)
set_option maxRecDepth 100000 in
theorem zm268 : (Cond.code yX3_roadEnds cX3_roadEnds 2 (some .int) : Cond) ∈ zT := List.mem_of_getElem? (i := 268) (by decide +kernel)
set_option maxRecDepth 100000 in
theorem zm269 : (Cond.methodLink "SurpriseTax$Realm" 41 yX3_has : Cond) ∈ zT := List.mem_of_getElem? (i := 269) (by decide +kernel)
set_option maxRecDepth 100000 in
theorem zm270 : (Cond.instanceMethod yX3_has : Cond) ∈ zT := List.mem_of_getElem? (i := 270) (by decide +kernel)
set_option maxRecDepth 100000 in
theorem zm271 : (Cond.selects "SurpriseTax$Realm" yX3_has yX3_has : Cond) ∈ zT := List.mem_of_getElem? (i := 271) (by decide +kernel)
set_option maxRecDepth 100000 in
theorem zm272 : (Cond.code yX3_has cX3_has 2 (some .boolean) : Cond) ∈ zT := List.mem_of_getElem? (i := 272) (by decide +kernel)
set_option maxRecDepth 100000 in
theorem zm273 : (Cond.methodLink "SurpriseTax$Realm" 45 yX3_everybody : Cond) ∈ zT := List.mem_of_getElem? (i := 273) (by decide +kernel)
set_option maxRecDepth 100000 in
theorem zm274 : (Cond.instanceMethod yX3_everybody : Cond) ∈ zT := List.mem_of_getElem? (i := 274) (by decide +kernel)
set_option maxRecDepth 100000 in
theorem zm275 : (Cond.selects "SurpriseTax$Realm" yX3_everybody yX3_everybody : Cond) ∈ zT := List.mem_of_getElem? (i := 275) (by decide +kernel)
set_option maxRecDepth 100000 in
theorem zm276 : (Cond.code yX3_everybody cX3_everybody 1 (some .int) : Cond) ∈ zT := List.mem_of_getElem? (i := 276) (by decide +kernel)
set_option maxRecDepth 100000 in
theorem zm277 : (Cond.methodLink "SurpriseTax$Text" 79 yX7_readRoad : Cond) ∈ zT := List.mem_of_getElem? (i := 277) (by decide +kernel)
set_option maxRecDepth 100000 in
theorem zm278 : (Cond.instanceMethod yX7_readRoad : Cond) ∈ zT := List.mem_of_getElem? (i := 278) (by decide +kernel)
set_option maxRecDepth 100000 in
theorem zm279 : (Cond.code yX7_readRoad cX7_readRoad 4 none : Cond) ∈ zT := List.mem_of_getElem? (i := 279) (by decide +kernel)
set_option maxRecDepth 100000 in
theorem zm280 : (Cond.methodLink "SurpriseTax$Text" 93 yX3_roadEnds : Cond) ∈ zT := List.mem_of_getElem? (i := 280) (by decide +kernel)
set_option maxRecDepth 100000 in
theorem zm281 : (Cond.methodLink "SurpriseTax$Text" 96 yX3_addRoad : Cond) ∈ zT := List.mem_of_getElem? (i := 281) (by decide +kernel)
set_option maxRecDepth 100000 in
theorem zm282 : (Cond.instanceMethod yX3_addRoad : Cond) ∈ zT := List.mem_of_getElem? (i := 282) (by decide +kernel)
set_option maxRecDepth 100000 in
theorem zm283 : (Cond.selects "SurpriseTax$Realm" yX3_addRoad yX3_addRoad : Cond) ∈ zT := List.mem_of_getElem? (i := 283) (by decide +kernel)
set_option maxRecDepth 100000 in
theorem zm284 : (Cond.code yX3_addRoad cX3_addRoad 3 none : Cond) ∈ zT := List.mem_of_getElem? (i := 284) (by decide +kernel)
set_option maxRecDepth 100000 in
theorem zm285 : (Cond.methodLink "SurpriseTaxLaw" 27 yX8_realm : Cond) ∈ zT := List.mem_of_getElem? (i := 285) (by decide +kernel)
set_option maxRecDepth 100000 in
theorem zm286 : (Cond.instanceMethod yX8_realm : Cond) ∈ zT := List.mem_of_getElem? (i := 286) (by decide +kernel)
set_option maxRecDepth 100000 in
theorem zm287 : (Cond.selects "SurpriseTax" yX8_realm yX8_realm : Cond) ∈ zT := List.mem_of_getElem? (i := 287) (by decide +kernel)
set_option maxRecDepth 100000 in
theorem zm288 : (Cond.code yX8_realm cX8_realm 1 (some .int) : Cond) ∈ zT := List.mem_of_getElem? (i := 288) (by decide +kernel)
set_option maxRecDepth 100000 in
theorem zm289 : (Cond.methodLink "SurpriseTax" 94 yX0_clear : Cond) ∈ zT := List.mem_of_getElem? (i := 289) (by decide +kernel)
set_option maxRecDepth 100000 in
theorem zm290 : (Cond.instanceMethod yX0_clear : Cond) ∈ zT := List.mem_of_getElem? (i := 290) (by decide +kernel)
set_option maxRecDepth 100000 in
theorem zm291 : (Cond.selects "SurpriseTax$Acts" yX0_clear yX0_clear : Cond) ∈ zT := List.mem_of_getElem? (i := 291) (by decide +kernel)
set_option maxRecDepth 100000 in
theorem zm292 : (Cond.code yX0_clear cX0_clear 1 none : Cond) ∈ zT := List.mem_of_getElem? (i := 292) (by decide +kernel)
set_option maxRecDepth 100000 in
theorem zm293 : (Cond.methodLink "SurpriseTax" 95 yX5_clear : Cond) ∈ zT := List.mem_of_getElem? (i := 293) (by decide +kernel)
set_option maxRecDepth 100000 in
theorem zm294 : (Cond.instanceMethod yX5_clear : Cond) ∈ zT := List.mem_of_getElem? (i := 294) (by decide +kernel)
set_option maxRecDepth 100000 in
theorem zm295 : (Cond.selects "SurpriseTax$Slots" yX5_clear yX5_clear : Cond) ∈ zT := List.mem_of_getElem? (i := 295) (by decide +kernel)
set_option maxRecDepth 100000 in
theorem zm296 : (Cond.code yX5_clear cX5_clear 2 none : Cond) ∈ zT := List.mem_of_getElem? (i := 296) (by decide +kernel)
set_option maxRecDepth 100000 in
theorem zm297 : (Cond.methodLink "SurpriseTaxLaw" 31 yX8_about : Cond) ∈ zT := List.mem_of_getElem? (i := 297) (by decide +kernel)
set_option maxRecDepth 100000 in
theorem zm298 : (Cond.instanceMethod yX8_about : Cond) ∈ zT := List.mem_of_getElem? (i := 298) (by decide +kernel)
set_option maxRecDepth 100000 in
theorem zm299 : (Cond.selects "SurpriseTax" yX8_about yX8_about : Cond) ∈ zT := List.mem_of_getElem? (i := 299) (by decide +kernel)
set_option maxRecDepth 100000 in
theorem zm300 : (Cond.code yX8_about cX8_about 2 (some .int) : Cond) ∈ zT := List.mem_of_getElem? (i := 300) (by decide +kernel)
set_option maxRecDepth 100000 in
theorem zm301 : (Cond.methodLink "SurpriseTax" 109 yX3_oddsAsFigures : Cond) ∈ zT := List.mem_of_getElem? (i := 301) (by decide +kernel)
set_option maxRecDepth 100000 in
theorem zm302 : (Cond.instanceMethod yX3_oddsAsFigures : Cond) ∈ zT := List.mem_of_getElem? (i := 302) (by decide +kernel)
set_option maxRecDepth 100000 in
theorem zm303 : (Cond.selects "SurpriseTax$Realm" yX3_oddsAsFigures yX3_oddsAsFigures : Cond) ∈ zT := List.mem_of_getElem? (i := 303) (by decide +kernel)
set_option maxRecDepth 100000 in
theorem zm304 : (Cond.code yX3_oddsAsFigures cX3_oddsAsFigures 3 (some .int) : Cond) ∈ zT := List.mem_of_getElem? (i := 304) (by decide +kernel)
set_option maxRecDepth 100000 in
theorem zm305 : (Cond.methodLink "SurpriseTax" 112 yX6_day : Cond) ∈ zT := List.mem_of_getElem? (i := 305) (by decide +kernel)
set_option maxRecDepth 100000 in
theorem zm306 : (Cond.instanceMethod yX6_day : Cond) ∈ zT := List.mem_of_getElem? (i := 306) (by decide +kernel)
set_option maxRecDepth 100000 in
theorem zm307 : (Cond.selects "SurpriseTax$State" yX6_day yX6_day : Cond) ∈ zT := List.mem_of_getElem? (i := 307) (by decide +kernel)
set_option maxRecDepth 100000 in
theorem zm308 : (Cond.code yX6_day cX6_day 1 (some .int) : Cond) ∈ zT := List.mem_of_getElem? (i := 308) (by decide +kernel)
set_option maxRecDepth 100000 in
theorem zm309 : (Cond.methodLink "SurpriseTax" 115 yX3_debtors : Cond) ∈ zT := List.mem_of_getElem? (i := 309) (by decide +kernel)
set_option maxRecDepth 100000 in
theorem zm310 : (Cond.instanceMethod yX3_debtors : Cond) ∈ zT := List.mem_of_getElem? (i := 310) (by decide +kernel)
set_option maxRecDepth 100000 in
theorem zm311 : (Cond.selects "SurpriseTax$Realm" yX3_debtors yX3_debtors : Cond) ∈ zT := List.mem_of_getElem? (i := 311) (by decide +kernel)
set_option maxRecDepth 100000 in
theorem zm312 : (Cond.code yX3_debtors cX3_debtors 4 (some .int) : Cond) ∈ zT := List.mem_of_getElem? (i := 312) (by decide +kernel)
set_option maxRecDepth 100000 in
theorem zm313 : (Cond.methodLink "SurpriseTax$Realm" 54 yX6_coins : Cond) ∈ zT := List.mem_of_getElem? (i := 313) (by decide +kernel)
set_option maxRecDepth 100000 in
theorem zm314 : (Cond.instanceMethod yX6_coins : Cond) ∈ zT := List.mem_of_getElem? (i := 314) (by decide +kernel)
set_option maxRecDepth 100000 in
theorem zm315 : (Cond.selects "SurpriseTax$State" yX6_coins yX6_coins : Cond) ∈ zT := List.mem_of_getElem? (i := 315) (by decide +kernel)
set_option maxRecDepth 100000 in
theorem zm316 : (Cond.code yX6_coins cX6_coins 2 (some .int) : Cond) ∈ zT := List.mem_of_getElem? (i := 316) (by decide +kernel)
set_option maxRecDepth 100000 in
theorem zm317 : (Cond.methodLink "SurpriseTax" 122 yX0_count : Cond) ∈ zT := List.mem_of_getElem? (i := 317) (by decide +kernel)
set_option maxRecDepth 100000 in
theorem zm318 : (Cond.instanceMethod yX0_count : Cond) ∈ zT := List.mem_of_getElem? (i := 318) (by decide +kernel)
set_option maxRecDepth 100000 in
theorem zm319 : (Cond.selects "SurpriseTax$Acts" yX0_count yX0_count : Cond) ∈ zT := List.mem_of_getElem? (i := 319) (by decide +kernel)
set_option maxRecDepth 100000 in
theorem zm320 : (Cond.code yX0_count cX0_count 1 (some .int) : Cond) ∈ zT := List.mem_of_getElem? (i := 320) (by decide +kernel)
set_option maxRecDepth 100000 in
theorem zm321 : (Cond.methodLink "SurpriseTax" 125 yX4_count : Cond) ∈ zT := List.mem_of_getElem? (i := 321) (by decide +kernel)
set_option maxRecDepth 100000 in
theorem zm322 : (Cond.instanceMethod yX4_count : Cond) ∈ zT := List.mem_of_getElem? (i := 322) (by decide +kernel)
set_option maxRecDepth 100000 in
theorem zm323 : (Cond.selects "SurpriseTax$Rolls" yX4_count yX4_count : Cond) ∈ zT := List.mem_of_getElem? (i := 323) (by decide +kernel)
set_option maxRecDepth 100000 in
theorem zm324 : (Cond.code yX4_count cX4_count 1 (some .int) : Cond) ∈ zT := List.mem_of_getElem? (i := 324) (by decide +kernel)
set_option maxRecDepth 100000 in
theorem zm325 : (Cond.methodLink "SurpriseTaxLaw" 35 yX8_person : Cond) ∈ zT := List.mem_of_getElem? (i := 325) (by decide +kernel)
set_option maxRecDepth 100000 in
theorem zm326 : (Cond.instanceMethod yX8_person : Cond) ∈ zT := List.mem_of_getElem? (i := 326) (by decide +kernel)
set_option maxRecDepth 100000 in
theorem zm327 : (Cond.selects "SurpriseTax" yX8_person yX8_person : Cond) ∈ zT := List.mem_of_getElem? (i := 327) (by decide +kernel)
set_option maxRecDepth 100000 in
theorem zm328 : (Cond.code yX8_person cX8_person 3 (some .int) : Cond) ∈ zT := List.mem_of_getElem? (i := 328) (by decide +kernel)
set_option maxRecDepth 100000 in
theorem zm329 : (Cond.methodLink "SurpriseTax" 126 yX3_has : Cond) ∈ zT := List.mem_of_getElem? (i := 329) (by decide +kernel)
set_option maxRecDepth 100000 in
theorem zm330 : (Cond.methodLink "SurpriseTax" 130 yX8_isKind : Cond) ∈ zT := List.mem_of_getElem? (i := 330) (by decide +kernel)
set_option maxRecDepth 100000 in
theorem zm331 : (Cond.static yX8_isKind : Cond) ∈ zT := List.mem_of_getElem? (i := 331) (by decide +kernel)
set_option maxRecDepth 100000 in
theorem zm332 : (Cond.code yX8_isKind cX8_isKind 1 (some .boolean) : Cond) ∈ zT := List.mem_of_getElem? (i := 332) (by decide +kernel)
set_option maxRecDepth 100000 in
theorem zm333 : (Cond.methodLink "SurpriseTax" 133 yX6_expected : Cond) ∈ zT := List.mem_of_getElem? (i := 333) (by decide +kernel)
set_option maxRecDepth 100000 in
theorem zm334 : (Cond.instanceMethod yX6_expected : Cond) ∈ zT := List.mem_of_getElem? (i := 334) (by decide +kernel)
set_option maxRecDepth 100000 in
theorem zm335 : (Cond.selects "SurpriseTax$State" yX6_expected yX6_expected : Cond) ∈ zT := List.mem_of_getElem? (i := 335) (by decide +kernel)
set_option maxRecDepth 100000 in
theorem zm336 : (Cond.code yX6_expected cX6_expected 3 (some .int) : Cond) ∈ zT := List.mem_of_getElem? (i := 336) (by decide +kernel)
set_option maxRecDepth 100000 in
theorem zm337 : (Cond.methodLink "SurpriseTax" 137 yX6_coins : Cond) ∈ zT := List.mem_of_getElem? (i := 337) (by decide +kernel)
set_option maxRecDepth 100000 in
theorem zm338 : (Cond.constant "SurpriseTax" 141 100000 : Cond) ∈ zT := List.mem_of_getElem? (i := 338) (by decide +kernel)
set_option maxRecDepth 100000 in
theorem zm339 : (Cond.methodLink "SurpriseTax" 145 yX6_declared : Cond) ∈ zT := List.mem_of_getElem? (i := 339) (by decide +kernel)
set_option maxRecDepth 100000 in
theorem zm340 : (Cond.instanceMethod yX6_declared : Cond) ∈ zT := List.mem_of_getElem? (i := 340) (by decide +kernel)
set_option maxRecDepth 100000 in
theorem zm341 : (Cond.selects "SurpriseTax$State" yX6_declared yX6_declared : Cond) ∈ zT := List.mem_of_getElem? (i := 341) (by decide +kernel)
set_option maxRecDepth 100000 in
theorem zm342 : (Cond.code yX6_declared cX6_declared 2 (some .int) : Cond) ∈ zT := List.mem_of_getElem? (i := 342) (by decide +kernel)
set_option maxRecDepth 100000 in
theorem zm343 : (Cond.methodLink "SurpriseTax" 148 yX6_heard : Cond) ∈ zT := List.mem_of_getElem? (i := 343) (by decide +kernel)
set_option maxRecDepth 100000 in
theorem zm344 : (Cond.instanceMethod yX6_heard : Cond) ∈ zT := List.mem_of_getElem? (i := 344) (by decide +kernel)
set_option maxRecDepth 100000 in
theorem zm345 : (Cond.selects "SurpriseTax$State" yX6_heard yX6_heard : Cond) ∈ zT := List.mem_of_getElem? (i := 345) (by decide +kernel)
set_option maxRecDepth 100000 in
theorem zm346 : (Cond.code yX6_heard cX6_heard 2 (some .int) : Cond) ∈ zT := List.mem_of_getElem? (i := 346) (by decide +kernel)
set_option maxRecDepth 100000 in
theorem zm347 : (Cond.methodLink "SurpriseTaxLaw" 40 yX8_declare : Cond) ∈ zT := List.mem_of_getElem? (i := 347) (by decide +kernel)
set_option maxRecDepth 100000 in
theorem zm348 : (Cond.instanceMethod yX8_declare : Cond) ∈ zT := List.mem_of_getElem? (i := 348) (by decide +kernel)
set_option maxRecDepth 100000 in
theorem zm349 : (Cond.selects "SurpriseTax" yX8_declare yX8_declare : Cond) ∈ zT := List.mem_of_getElem? (i := 349) (by decide +kernel)
set_option maxRecDepth 100000 in
theorem zm350 : (Cond.code yX8_declare cX8_declare 3 (some .int) : Cond) ∈ zT := List.mem_of_getElem? (i := 350) (by decide +kernel)
set_option maxRecDepth 100000 in
theorem zm351 : (Cond.methodLink "SurpriseTax" 154 yX0_remember : Cond) ∈ zT := List.mem_of_getElem? (i := 351) (by decide +kernel)
set_option maxRecDepth 100000 in
theorem zm352 : (Cond.instanceMethod yX0_remember : Cond) ∈ zT := List.mem_of_getElem? (i := 352) (by decide +kernel)
set_option maxRecDepth 100000 in
theorem zm353 : (Cond.selects "SurpriseTax$Acts" yX0_remember yX0_remember : Cond) ∈ zT := List.mem_of_getElem? (i := 353) (by decide +kernel)
set_option maxRecDepth 100000 in
theorem zm354 : (Cond.code yX0_remember cX0_remember 2 none : Cond) ∈ zT := List.mem_of_getElem? (i := 354) (by decide +kernel)
set_option maxRecDepth 100000 in
theorem zm355 : (Cond.methodLink "SurpriseTax$Acts" 24 yX6_saveTo : Cond) ∈ zT := List.mem_of_getElem? (i := 355) (by decide +kernel)
set_option maxRecDepth 100000 in
theorem zm356 : (Cond.instanceMethod yX6_saveTo : Cond) ∈ zT := List.mem_of_getElem? (i := 356) (by decide +kernel)
set_option maxRecDepth 100000 in
theorem zm357 : (Cond.selects "SurpriseTax$State" yX6_saveTo yX6_saveTo : Cond) ∈ zT := List.mem_of_getElem? (i := 357) (by decide +kernel)
set_option maxRecDepth 100000 in
theorem zm358 : (Cond.code yX6_saveTo cX6_saveTo 3 none : Cond) ∈ zT := List.mem_of_getElem? (i := 358) (by decide +kernel)
set_option maxRecDepth 100000 in
theorem zm359 : (Cond.methodLink "SurpriseTax$State" 21 arraycopyName : Cond) ∈ zT := List.mem_of_getElem? (i := 359) (by decide +kernel)
set_option maxRecDepth 100000 in
theorem zm360 : (Cond.static arraycopyName : Cond) ∈ zT := List.mem_of_getElem? (i := 360) (by decide +kernel)
set_option maxRecDepth 100000 in
theorem zm361 : (Cond.native arraycopyName : Cond) ∈ zT := List.mem_of_getElem? (i := 361) (by decide +kernel)
set_option maxRecDepth 100000 in
theorem zm362 : (Cond.methodLink "SurpriseTax$Acts" 28 Lib.Math.min.name : Cond) ∈ zT := List.mem_of_getElem? (i := 362) (by decide +kernel)
set_option maxRecDepth 100000 in
theorem zm363 : (Cond.methodLink "SurpriseTax" 158 yX6_pay : Cond) ∈ zT := List.mem_of_getElem? (i := 363) (by decide +kernel)
set_option maxRecDepth 100000 in
theorem zm364 : (Cond.instanceMethod yX6_pay : Cond) ∈ zT := List.mem_of_getElem? (i := 364) (by decide +kernel)
set_option maxRecDepth 100000 in
theorem zm365 : (Cond.selects "SurpriseTax$State" yX6_pay yX6_pay : Cond) ∈ zT := List.mem_of_getElem? (i := 365) (by decide +kernel)
set_option maxRecDepth 100000 in
theorem zm366 : (Cond.code yX6_pay cX6_pay 3 none : Cond) ∈ zT := List.mem_of_getElem? (i := 366) (by decide +kernel)
set_option maxRecDepth 100000 in
theorem zm367 : (Cond.methodLink "SurpriseTax" 162 yX6_setDeclared : Cond) ∈ zT := List.mem_of_getElem? (i := 367) (by decide +kernel)
set_option maxRecDepth 100000 in
theorem zm368 : (Cond.methodLink "SurpriseTaxLaw" 44 yX8_tellOn : Cond) ∈ zT := List.mem_of_getElem? (i := 368) (by decide +kernel)
set_option maxRecDepth 100000 in
theorem zm369 : (Cond.instanceMethod yX8_tellOn : Cond) ∈ zT := List.mem_of_getElem? (i := 369) (by decide +kernel)
set_option maxRecDepth 100000 in
theorem zm370 : (Cond.selects "SurpriseTax" yX8_tellOn yX8_tellOn : Cond) ∈ zT := List.mem_of_getElem? (i := 370) (by decide +kernel)
set_option maxRecDepth 100000 in
theorem zm371 : (Cond.code yX8_tellOn cX8_tellOn 4 (some .int) : Cond) ∈ zT := List.mem_of_getElem? (i := 371) (by decide +kernel)
set_option maxRecDepth 100000 in
theorem zm372 : (Cond.methodLink "SurpriseTax" 165 yX3_hasRoad : Cond) ∈ zT := List.mem_of_getElem? (i := 372) (by decide +kernel)
set_option maxRecDepth 100000 in
theorem zm373 : (Cond.instanceMethod yX3_hasRoad : Cond) ∈ zT := List.mem_of_getElem? (i := 373) (by decide +kernel)
set_option maxRecDepth 100000 in
theorem zm374 : (Cond.selects "SurpriseTax$Realm" yX3_hasRoad yX3_hasRoad : Cond) ∈ zT := List.mem_of_getElem? (i := 374) (by decide +kernel)
set_option maxRecDepth 100000 in
theorem zm375 : (Cond.code yX3_hasRoad cX3_hasRoad 3 (some .boolean) : Cond) ∈ zT := List.mem_of_getElem? (i := 375) (by decide +kernel)
set_option maxRecDepth 100000 in
theorem zm376 : (Cond.methodLink "SurpriseTax" 169 yX6_isOpen : Cond) ∈ zT := List.mem_of_getElem? (i := 376) (by decide +kernel)
set_option maxRecDepth 100000 in
theorem zm377 : (Cond.instanceMethod yX6_isOpen : Cond) ∈ zT := List.mem_of_getElem? (i := 377) (by decide +kernel)
set_option maxRecDepth 100000 in
theorem zm378 : (Cond.selects "SurpriseTax$State" yX6_isOpen yX6_isOpen : Cond) ∈ zT := List.mem_of_getElem? (i := 378) (by decide +kernel)
set_option maxRecDepth 100000 in
theorem zm379 : (Cond.code yX6_isOpen cX6_isOpen 2 (some .boolean) : Cond) ∈ zT := List.mem_of_getElem? (i := 379) (by decide +kernel)
set_option maxRecDepth 100000 in
theorem zm380 : (Cond.methodLink "SurpriseTax$State" 27 yX6_declared : Cond) ∈ zT := List.mem_of_getElem? (i := 380) (by decide +kernel)
set_option maxRecDepth 100000 in
theorem zm381 : (Cond.methodLink "SurpriseTax$State" 31 yX6_heard : Cond) ∈ zT := List.mem_of_getElem? (i := 381) (by decide +kernel)
set_option maxRecDepth 100000 in
theorem zm382 : (Cond.methodLink "SurpriseTax" 172 yX6_setHeard : Cond) ∈ zT := List.mem_of_getElem? (i := 382) (by decide +kernel)
set_option maxRecDepth 100000 in
theorem zm383 : (Cond.methodLink "SurpriseTaxLaw" 48 yX8_event : Cond) ∈ zT := List.mem_of_getElem? (i := 383) (by decide +kernel)
set_option maxRecDepth 100000 in
theorem zm384 : (Cond.instanceMethod yX8_event : Cond) ∈ zT := List.mem_of_getElem? (i := 384) (by decide +kernel)
set_option maxRecDepth 100000 in
theorem zm385 : (Cond.selects "SurpriseTax" yX8_event yX8_event : Cond) ∈ zT := List.mem_of_getElem? (i := 385) (by decide +kernel)
set_option maxRecDepth 100000 in
theorem zm386 : (Cond.code yX8_event cX8_event 2 (some .int) : Cond) ∈ zT := List.mem_of_getElem? (i := 386) (by decide +kernel)
set_option maxRecDepth 100000 in
theorem zm387 : (Cond.methodLink "SurpriseTax" 175 yX3_come : Cond) ∈ zT := List.mem_of_getElem? (i := 387) (by decide +kernel)
set_option maxRecDepth 100000 in
theorem zm388 : (Cond.instanceMethod yX3_come : Cond) ∈ zT := List.mem_of_getElem? (i := 388) (by decide +kernel)
set_option maxRecDepth 100000 in
theorem zm389 : (Cond.selects "SurpriseTax$Realm" yX3_come yX3_come : Cond) ∈ zT := List.mem_of_getElem? (i := 389) (by decide +kernel)
set_option maxRecDepth 100000 in
theorem zm390 : (Cond.code yX3_come cX3_come 6 (some .int) : Cond) ∈ zT := List.mem_of_getElem? (i := 390) (by decide +kernel)
set_option maxRecDepth 100000 in
theorem zm391 : (Cond.methodLink "SurpriseTax$Realm" 63 yX3_taxOf : Cond) ∈ zT := List.mem_of_getElem? (i := 391) (by decide +kernel)
set_option maxRecDepth 100000 in
theorem zm392 : (Cond.instanceMethod yX3_taxOf : Cond) ∈ zT := List.mem_of_getElem? (i := 392) (by decide +kernel)
set_option maxRecDepth 100000 in
theorem zm393 : (Cond.selects "SurpriseTax$Realm" yX3_taxOf yX3_taxOf : Cond) ∈ zT := List.mem_of_getElem? (i := 393) (by decide +kernel)
set_option maxRecDepth 100000 in
theorem zm394 : (Cond.code yX3_taxOf cX3_taxOf 4 (some .int) : Cond) ∈ zT := List.mem_of_getElem? (i := 394) (by decide +kernel)
set_option maxRecDepth 100000 in
theorem zm395 : (Cond.methodLink "SurpriseTax$Realm" 59 yX6_surprise : Cond) ∈ zT := List.mem_of_getElem? (i := 395) (by decide +kernel)
set_option maxRecDepth 100000 in
theorem zm396 : (Cond.instanceMethod yX6_surprise : Cond) ∈ zT := List.mem_of_getElem? (i := 396) (by decide +kernel)
set_option maxRecDepth 100000 in
theorem zm397 : (Cond.selects "SurpriseTax$State" yX6_surprise yX6_surprise : Cond) ∈ zT := List.mem_of_getElem? (i := 397) (by decide +kernel)
set_option maxRecDepth 100000 in
theorem zm398 : (Cond.code yX6_surprise cX6_surprise 6 (some .int) : Cond) ∈ zT := List.mem_of_getElem? (i := 398) (by decide +kernel)
set_option maxRecDepth 100000 in
theorem zm399 : (Cond.methodLink "SurpriseTax$State" 41 Lib.Math.max.name : Cond) ∈ zT := List.mem_of_getElem? (i := 399) (by decide +kernel)
set_option maxRecDepth 100000 in
theorem zm400 : (Cond.methodLink "SurpriseTax$Realm" 67 yX6_pay : Cond) ∈ zT := List.mem_of_getElem? (i := 400) (by decide +kernel)
set_option maxRecDepth 100000 in
theorem zm401 : (Cond.methodLink "SurpriseTax$Realm" 71 yX6_learn : Cond) ∈ zT := List.mem_of_getElem? (i := 401) (by decide +kernel)
set_option maxRecDepth 100000 in
theorem zm402 : (Cond.instanceMethod yX6_learn : Cond) ∈ zT := List.mem_of_getElem? (i := 402) (by decide +kernel)
set_option maxRecDepth 100000 in
theorem zm403 : (Cond.selects "SurpriseTax$State" yX6_learn yX6_learn : Cond) ∈ zT := List.mem_of_getElem? (i := 403) (by decide +kernel)
set_option maxRecDepth 100000 in
theorem zm404 : (Cond.code yX6_learn cX6_learn 5 none : Cond) ∈ zT := List.mem_of_getElem? (i := 404) (by decide +kernel)
set_option maxRecDepth 100000 in
theorem zm405 : (Cond.methodLink "SurpriseTax$State" 47 yX6_expected : Cond) ∈ zT := List.mem_of_getElem? (i := 405) (by decide +kernel)
set_option maxRecDepth 100000 in
theorem zm406 : (Cond.methodLink "SurpriseTax$State" 50 yX6_setExpected : Cond) ∈ zT := List.mem_of_getElem? (i := 406) (by decide +kernel)
set_option maxRecDepth 100000 in
theorem zm407 : (Cond.methodLink "SurpriseTax$Realm" 74 yX6_beginDay : Cond) ∈ zT := List.mem_of_getElem? (i := 407) (by decide +kernel)
set_option maxRecDepth 100000 in
theorem zm408 : (Cond.instanceMethod yX6_beginDay : Cond) ∈ zT := List.mem_of_getElem? (i := 408) (by decide +kernel)
set_option maxRecDepth 100000 in
theorem zm409 : (Cond.selects "SurpriseTax$State" yX6_beginDay yX6_beginDay : Cond) ∈ zT := List.mem_of_getElem? (i := 409) (by decide +kernel)
set_option maxRecDepth 100000 in
theorem zm410 : (Cond.code yX6_beginDay cX6_beginDay 1 none : Cond) ∈ zT := List.mem_of_getElem? (i := 410) (by decide +kernel)
set_option maxRecDepth 100000 in
theorem zm411 : (Cond.methodLink "SurpriseTaxLaw" 52 yX8_undo : Cond) ∈ zT := List.mem_of_getElem? (i := 411) (by decide +kernel)
set_option maxRecDepth 100000 in
theorem zm412 : (Cond.instanceMethod yX8_undo : Cond) ∈ zT := List.mem_of_getElem? (i := 412) (by decide +kernel)
set_option maxRecDepth 100000 in
theorem zm413 : (Cond.selects "SurpriseTax" yX8_undo yX8_undo : Cond) ∈ zT := List.mem_of_getElem? (i := 413) (by decide +kernel)
set_option maxRecDepth 100000 in
theorem zm414 : (Cond.code yX8_undo cX8_undo 1 (some .int) : Cond) ∈ zT := List.mem_of_getElem? (i := 414) (by decide +kernel)
set_option maxRecDepth 100000 in
theorem zm415 : (Cond.methodLink "SurpriseTax" 179 yX0_takeBack : Cond) ∈ zT := List.mem_of_getElem? (i := 415) (by decide +kernel)
set_option maxRecDepth 100000 in
theorem zm416 : (Cond.instanceMethod yX0_takeBack : Cond) ∈ zT := List.mem_of_getElem? (i := 416) (by decide +kernel)
set_option maxRecDepth 100000 in
theorem zm417 : (Cond.selects "SurpriseTax$Acts" yX0_takeBack yX0_takeBack : Cond) ∈ zT := List.mem_of_getElem? (i := 417) (by decide +kernel)
set_option maxRecDepth 100000 in
theorem zm418 : (Cond.code yX0_takeBack cX0_takeBack 2 none : Cond) ∈ zT := List.mem_of_getElem? (i := 418) (by decide +kernel)
set_option maxRecDepth 100000 in
theorem zm419 : (Cond.methodLink "SurpriseTax$Acts" 34 yX6_loadFrom : Cond) ∈ zT := List.mem_of_getElem? (i := 419) (by decide +kernel)
set_option maxRecDepth 100000 in
theorem zm420 : (Cond.instanceMethod yX6_loadFrom : Cond) ∈ zT := List.mem_of_getElem? (i := 420) (by decide +kernel)
set_option maxRecDepth 100000 in
theorem zm421 : (Cond.selects "SurpriseTax$State" yX6_loadFrom yX6_loadFrom : Cond) ∈ zT := List.mem_of_getElem? (i := 421) (by decide +kernel)
set_option maxRecDepth 100000 in
theorem zm422 : (Cond.code yX6_loadFrom cX6_loadFrom 3 none : Cond) ∈ zT := List.mem_of_getElem? (i := 422) (by decide +kernel)
set_option maxRecDepth 100000 in
theorem zm423 : (Cond.methodLink "SurpriseTaxLaw" 56 yX8_tax : Cond) ∈ zT := List.mem_of_getElem? (i := 423) (by decide +kernel)
set_option maxRecDepth 100000 in
theorem zm424 : (Cond.instanceMethod yX8_tax : Cond) ∈ zT := List.mem_of_getElem? (i := 424) (by decide +kernel)
set_option maxRecDepth 100000 in
theorem zm425 : (Cond.selects "SurpriseTax" yX8_tax yX8_tax : Cond) ∈ zT := List.mem_of_getElem? (i := 425) (by decide +kernel)
set_option maxRecDepth 100000 in
theorem zm426 : (Cond.code yX8_tax cX8_tax 3 (some .int) : Cond) ∈ zT := List.mem_of_getElem? (i := 426) (by decide +kernel)
set_option maxRecDepth 100000 in
theorem zm427 : (Cond.methodLink "SurpriseTax" 182 yX3_taxOf : Cond) ∈ zT := List.mem_of_getElem? (i := 427) (by decide +kernel)
set_option maxRecDepth 100000 in
theorem zm428 : (Cond.methodLink "SurpriseTaxLaw" 60 yX8_mean : Cond) ∈ zT := List.mem_of_getElem? (i := 428) (by decide +kernel)
set_option maxRecDepth 100000 in
theorem zm429 : (Cond.instanceMethod yX8_mean : Cond) ∈ zT := List.mem_of_getElem? (i := 429) (by decide +kernel)
set_option maxRecDepth 100000 in
theorem zm430 : (Cond.selects "SurpriseTax" yX8_mean yX8_mean : Cond) ∈ zT := List.mem_of_getElem? (i := 430) (by decide +kernel)
set_option maxRecDepth 100000 in
theorem zm431 : (Cond.code yX8_mean cX8_mean 3 (some .int) : Cond) ∈ zT := List.mem_of_getElem? (i := 431) (by decide +kernel)
set_option maxRecDepth 100000 in
theorem zm432 : (Cond.methodLink "SurpriseTax" 186 yX3_meanTenfold : Cond) ∈ zT := List.mem_of_getElem? (i := 432) (by decide +kernel)
set_option maxRecDepth 100000 in
theorem zm433 : (Cond.instanceMethod yX3_meanTenfold : Cond) ∈ zT := List.mem_of_getElem? (i := 433) (by decide +kernel)
set_option maxRecDepth 100000 in
theorem zm434 : (Cond.selects "SurpriseTax$Realm" yX3_meanTenfold yX3_meanTenfold : Cond) ∈ zT := List.mem_of_getElem? (i := 434) (by decide +kernel)
set_option maxRecDepth 100000 in
theorem zm435 : (Cond.code yX3_meanTenfold cX3_meanTenfold 5 (some .int) : Cond) ∈ zT := List.mem_of_getElem? (i := 435) (by decide +kernel)
set_option maxRecDepth 100000 in
theorem zm436 : (Cond.methodLink "SurpriseTax" 189 yX8_inLeastTerms : Cond) ∈ zT := List.mem_of_getElem? (i := 436) (by decide +kernel)
set_option maxRecDepth 100000 in
theorem zm437 : (Cond.static yX8_inLeastTerms : Cond) ∈ zT := List.mem_of_getElem? (i := 437) (by decide +kernel)
set_option maxRecDepth 100000 in
theorem zm438 : (Cond.code yX8_inLeastTerms cX8_inLeastTerms 4 (some .int) : Cond) ∈ zT := List.mem_of_getElem? (i := 438) (by decide +kernel)
set_option maxRecDepth 100000 in
theorem zm439 : (Cond.methodLink "SurpriseTax" 286 yX8_commonDivisor : Cond) ∈ zT := List.mem_of_getElem? (i := 439) (by decide +kernel)
set_option maxRecDepth 100000 in
theorem zm440 : (Cond.static yX8_commonDivisor : Cond) ∈ zT := List.mem_of_getElem? (i := 440) (by decide +kernel)
set_option maxRecDepth 100000 in
theorem zm441 : (Cond.code yX8_commonDivisor cX8_commonDivisor 6 (some .int) : Cond) ∈ zT := List.mem_of_getElem? (i := 441) (by decide +kernel)
set_option maxRecDepth 100000 in
theorem zm442 : (Cond.methodLink "SurpriseTaxLaw" 65 yX8_counsel : Cond) ∈ zT := List.mem_of_getElem? (i := 442) (by decide +kernel)
set_option maxRecDepth 100000 in
theorem zm443 : (Cond.instanceMethod yX8_counsel : Cond) ∈ zT := List.mem_of_getElem? (i := 443) (by decide +kernel)
set_option maxRecDepth 100000 in
theorem zm444 : (Cond.selects "SurpriseTax" yX8_counsel yX8_counsel : Cond) ∈ zT := List.mem_of_getElem? (i := 444) (by decide +kernel)
set_option maxRecDepth 100000 in
theorem zm445 : (Cond.code yX8_counsel cX8_counsel 2 (some .int) : Cond) ∈ zT := List.mem_of_getElem? (i := 445) (by decide +kernel)
set_option maxRecDepth 100000 in
theorem zm446 : (Cond.methodLink "SurpriseTax" 193 yX1_bestToDeclare : Cond) ∈ zT := List.mem_of_getElem? (i := 446) (by decide +kernel)
set_option maxRecDepth 100000 in
theorem zm447 : (Cond.instanceMethod yX1_bestToDeclare : Cond) ∈ zT := List.mem_of_getElem? (i := 447) (by decide +kernel)
set_option maxRecDepth 100000 in
theorem zm448 : (Cond.selects "SurpriseTax$Advice" yX1_bestToDeclare yX1_bestToDeclare : Cond) ∈ zT := List.mem_of_getElem? (i := 448) (by decide +kernel)
set_option maxRecDepth 100000 in
theorem zm449 : (Cond.code yX1_bestToDeclare cX1_bestToDeclare 4 (some .int) : Cond) ∈ zT := List.mem_of_getElem? (i := 449) (by decide +kernel)
set_option maxRecDepth 100000 in
theorem zm450 : (Cond.methodLink "SurpriseTax$Advice" 25 yX6_copyFrom : Cond) ∈ zT := List.mem_of_getElem? (i := 450) (by decide +kernel)
set_option maxRecDepth 100000 in
theorem zm451 : (Cond.instanceMethod yX6_copyFrom : Cond) ∈ zT := List.mem_of_getElem? (i := 451) (by decide +kernel)
set_option maxRecDepth 100000 in
theorem zm452 : (Cond.selects "SurpriseTax$State" yX6_copyFrom yX6_copyFrom : Cond) ∈ zT := List.mem_of_getElem? (i := 452) (by decide +kernel)
set_option maxRecDepth 100000 in
theorem zm453 : (Cond.code yX6_copyFrom cX6_copyFrom 2 none : Cond) ∈ zT := List.mem_of_getElem? (i := 453) (by decide +kernel)
set_option maxRecDepth 100000 in
theorem zm454 : (Cond.methodLink "SurpriseTax$Advice" 29 yX1_choose : Cond) ∈ zT := List.mem_of_getElem? (i := 454) (by decide +kernel)
set_option maxRecDepth 100000 in
theorem zm455 : (Cond.instanceMethod yX1_choose : Cond) ∈ zT := List.mem_of_getElem? (i := 455) (by decide +kernel)
set_option maxRecDepth 100000 in
theorem zm456 : (Cond.code yX1_choose cX1_choose 5 none : Cond) ∈ zT := List.mem_of_getElem? (i := 456) (by decide +kernel)
set_option maxRecDepth 100000 in
theorem zm457 : (Cond.methodLink "SurpriseTax$Advice" 47 yX3_meanTenfold : Cond) ∈ zT := List.mem_of_getElem? (i := 457) (by decide +kernel)
set_option maxRecDepth 100000 in
theorem zm458 : (Cond.methodLink "SurpriseTax$Advice" 58 yX6_declared : Cond) ∈ zT := List.mem_of_getElem? (i := 458) (by decide +kernel)
set_option maxRecDepth 100000 in
theorem zm459 : (Cond.methodLink "SurpriseTax$Advice" 62 yX6_setDeclared : Cond) ∈ zT := List.mem_of_getElem? (i := 459) (by decide +kernel)
set_option maxRecDepth 100000 in
theorem zm460 : (Cond.methodLink "SurpriseTaxLaw" 69 yX8_least : Cond) ∈ zT := List.mem_of_getElem? (i := 460) (by decide +kernel)
set_option maxRecDepth 100000 in
theorem zm461 : (Cond.instanceMethod yX8_least : Cond) ∈ zT := List.mem_of_getElem? (i := 461) (by decide +kernel)
set_option maxRecDepth 100000 in
theorem zm462 : (Cond.selects "SurpriseTax" yX8_least yX8_least : Cond) ∈ zT := List.mem_of_getElem? (i := 462) (by decide +kernel)
set_option maxRecDepth 100000 in
theorem zm463 : (Cond.code yX8_least cX8_least 4 (some .int) : Cond) ∈ zT := List.mem_of_getElem? (i := 463) (by decide +kernel)
set_option maxRecDepth 100000 in
theorem zm464 : (Cond.methodLink "SurpriseTax" 197 yX1_leastTenfold : Cond) ∈ zT := List.mem_of_getElem? (i := 464) (by decide +kernel)
set_option maxRecDepth 100000 in
theorem zm465 : (Cond.instanceMethod yX1_leastTenfold : Cond) ∈ zT := List.mem_of_getElem? (i := 465) (by decide +kernel)
set_option maxRecDepth 100000 in
theorem zm466 : (Cond.selects "SurpriseTax$Advice" yX1_leastTenfold yX1_leastTenfold : Cond) ∈ zT := List.mem_of_getElem? (i := 466) (by decide +kernel)
set_option maxRecDepth 100000 in
theorem zm467 : (Cond.code yX1_leastTenfold cX1_leastTenfold 11 (some .int) : Cond) ∈ zT := List.mem_of_getElem? (i := 467) (by decide +kernel)
set_option maxRecDepth 100000 in
theorem zm468 : (Cond.static yX8_power : Cond) ∈ zT := List.mem_of_getElem? (i := 468) (by decide +kernel)
set_option maxRecDepth 100000 in
theorem zm469 : (Cond.code yX8_power cX8_power 4 (some .int) : Cond) ∈ zT := List.mem_of_getElem? (i := 469) (by decide +kernel)
set_option maxRecDepth 100000 in
theorem zm470 : (Cond.methodLink "SurpriseTax$Advice" 37 yX1_playRow : Cond) ∈ zT := List.mem_of_getElem? (i := 470) (by decide +kernel)
set_option maxRecDepth 100000 in
theorem zm471 : (Cond.instanceMethod yX1_playRow : Cond) ∈ zT := List.mem_of_getElem? (i := 471) (by decide +kernel)
set_option maxRecDepth 100000 in
theorem zm472 : (Cond.code yX1_playRow cX1_playRow 7 (some .int) : Cond) ∈ zT := List.mem_of_getElem? (i := 472) (by decide +kernel)
set_option maxRecDepth 100000 in
theorem zm473 : (Cond.static yX8_kindAt : Cond) ∈ zT := List.mem_of_getElem? (i := 473) (by decide +kernel)
set_option maxRecDepth 100000 in
theorem zm474 : (Cond.code yX8_kindAt cX8_kindAt 3 (some .int) : Cond) ∈ zT := List.mem_of_getElem? (i := 474) (by decide +kernel)
set_option maxRecDepth 100000 in
theorem zm475 : (Cond.methodLink "SurpriseTax$Advice" 55 yX3_come : Cond) ∈ zT := List.mem_of_getElem? (i := 475) (by decide +kernel)
set_option maxRecDepth 100000 in
theorem zm476 : (Cond.methodLink "SurpriseTax" 201 yX8_power : Cond) ∈ zT := List.mem_of_getElem? (i := 476) (by decide +kernel)
set_option maxRecDepth 100000 in
theorem zm477 : (Cond.methodLink "SurpriseTaxLaw" 74 yX8_joke : Cond) ∈ zT := List.mem_of_getElem? (i := 477) (by decide +kernel)
set_option maxRecDepth 100000 in
theorem zm478 : (Cond.instanceMethod yX8_joke : Cond) ∈ zT := List.mem_of_getElem? (i := 478) (by decide +kernel)
set_option maxRecDepth 100000 in
theorem zm479 : (Cond.selects "SurpriseTax" yX8_joke yX8_joke : Cond) ∈ zT := List.mem_of_getElem? (i := 479) (by decide +kernel)
set_option maxRecDepth 100000 in
theorem zm480 : (Cond.code yX8_joke cX8_joke 3 (some .int) : Cond) ∈ zT := List.mem_of_getElem? (i := 480) (by decide +kernel)
set_option maxRecDepth 100000 in
theorem zm481 : (Cond.methodLink "SurpriseTax" 204 yX2_seekJoke : Cond) ∈ zT := List.mem_of_getElem? (i := 481) (by decide +kernel)
set_option maxRecDepth 100000 in
theorem zm482 : (Cond.instanceMethod yX2_seekJoke : Cond) ∈ zT := List.mem_of_getElem? (i := 482) (by decide +kernel)
set_option maxRecDepth 100000 in
theorem zm483 : (Cond.selects "SurpriseTax$Foresight" yX2_seekJoke yX2_seekJoke : Cond) ∈ zT := List.mem_of_getElem? (i := 483) (by decide +kernel)
set_option maxRecDepth 100000 in
theorem zm484 : (Cond.code yX2_seekJoke cX2_seekJoke 9 (some .int) : Cond) ∈ zT := List.mem_of_getElem? (i := 484) (by decide +kernel)
set_option maxRecDepth 100000 in
theorem zm485 : (Cond.methodLink "SurpriseTax$Foresight" 22 yX6_copyFrom : Cond) ∈ zT := List.mem_of_getElem? (i := 485) (by decide +kernel)
set_option maxRecDepth 100000 in
theorem zm486 : (Cond.methodLink "SurpriseTax$Foresight" 43 yX2_paidByOthers : Cond) ∈ zT := List.mem_of_getElem? (i := 486) (by decide +kernel)
set_option maxRecDepth 100000 in
theorem zm487 : (Cond.instanceMethod yX2_paidByOthers : Cond) ∈ zT := List.mem_of_getElem? (i := 487) (by decide +kernel)
set_option maxRecDepth 100000 in
theorem zm488 : (Cond.code yX2_paidByOthers cX2_paidByOthers 8 (some .int) : Cond) ∈ zT := List.mem_of_getElem? (i := 488) (by decide +kernel)
set_option maxRecDepth 100000 in
theorem zm489 : (Cond.methodLink "SurpriseTax$Foresight" 51 yX3_taxOf : Cond) ∈ zT := List.mem_of_getElem? (i := 489) (by decide +kernel)
set_option maxRecDepth 100000 in
theorem zm490 : (Cond.methodLink "SurpriseTax$Foresight" 26 yX3_come : Cond) ∈ zT := List.mem_of_getElem? (i := 490) (by decide +kernel)
set_option maxRecDepth 100000 in
theorem zm491 : (Cond.methodLink "SurpriseTaxLaw" 78 yX8_jokeAt : Cond) ∈ zT := List.mem_of_getElem? (i := 491) (by decide +kernel)
set_option maxRecDepth 100000 in
theorem zm492 : (Cond.instanceMethod yX8_jokeAt : Cond) ∈ zT := List.mem_of_getElem? (i := 492) (by decide +kernel)
set_option maxRecDepth 100000 in
theorem zm493 : (Cond.selects "SurpriseTax" yX8_jokeAt yX8_jokeAt : Cond) ∈ zT := List.mem_of_getElem? (i := 493) (by decide +kernel)
set_option maxRecDepth 100000 in
theorem zm494 : (Cond.code yX8_jokeAt cX8_jokeAt 4 (some .int) : Cond) ∈ zT := List.mem_of_getElem? (i := 494) (by decide +kernel)
set_option maxRecDepth 100000 in
theorem zm495 : (Cond.methodLink "SurpriseTax" 207 yX2_jokeEvent : Cond) ∈ zT := List.mem_of_getElem? (i := 495) (by decide +kernel)
set_option maxRecDepth 100000 in
theorem zm496 : (Cond.instanceMethod yX2_jokeEvent : Cond) ∈ zT := List.mem_of_getElem? (i := 496) (by decide +kernel)
set_option maxRecDepth 100000 in
theorem zm497 : (Cond.selects "SurpriseTax$Foresight" yX2_jokeEvent yX2_jokeEvent : Cond) ∈ zT := List.mem_of_getElem? (i := 497) (by decide +kernel)
set_option maxRecDepth 100000 in
theorem zm498 : (Cond.code yX2_jokeEvent cX2_jokeEvent 3 (some .int) : Cond) ∈ zT := List.mem_of_getElem? (i := 498) (by decide +kernel)
set_option maxRecDepth 100000 in
theorem zm499 : (Cond.methodLink "SurpriseTaxLaw" 83 yX8_broke : Cond) ∈ zT := List.mem_of_getElem? (i := 499) (by decide +kernel)
set_option maxRecDepth 100000 in
theorem zm500 : (Cond.instanceMethod yX8_broke : Cond) ∈ zT := List.mem_of_getElem? (i := 500) (by decide +kernel)
set_option maxRecDepth 100000 in
theorem zm501 : (Cond.selects "SurpriseTax" yX8_broke yX8_broke : Cond) ∈ zT := List.mem_of_getElem? (i := 501) (by decide +kernel)
set_option maxRecDepth 100000 in
theorem zm502 : (Cond.code yX8_broke cX8_broke 2 (some .int) : Cond) ∈ zT := List.mem_of_getElem? (i := 502) (by decide +kernel)
set_option maxRecDepth 100000 in
theorem zm503 : (Cond.methodLink "SurpriseTax" 210 yX2_eventsUntilDebt : Cond) ∈ zT := List.mem_of_getElem? (i := 503) (by decide +kernel)
set_option maxRecDepth 100000 in
theorem zm504 : (Cond.instanceMethod yX2_eventsUntilDebt : Cond) ∈ zT := List.mem_of_getElem? (i := 504) (by decide +kernel)
set_option maxRecDepth 100000 in
theorem zm505 : (Cond.selects "SurpriseTax$Foresight" yX2_eventsUntilDebt yX2_eventsUntilDebt : Cond) ∈ zT := List.mem_of_getElem? (i := 505) (by decide +kernel)
set_option maxRecDepth 100000 in
theorem zm506 : (Cond.code yX2_eventsUntilDebt cX2_eventsUntilDebt 5 (some .int) : Cond) ∈ zT := List.mem_of_getElem? (i := 506) (by decide +kernel)
set_option maxRecDepth 100000 in
theorem zm507 : (Cond.methodLink "SurpriseTax$Foresight" 55 yX3_debtors : Cond) ∈ zT := List.mem_of_getElem? (i := 507) (by decide +kernel)
set_option maxRecDepth 100000 in
theorem zm508 : (Cond.methodLink "SurpriseTaxLaw" 87 yX8_reform : Cond) ∈ zT := List.mem_of_getElem? (i := 508) (by decide +kernel)
set_option maxRecDepth 100000 in
theorem zm509 : (Cond.instanceMethod yX8_reform : Cond) ∈ zT := List.mem_of_getElem? (i := 509) (by decide +kernel)
set_option maxRecDepth 100000 in
theorem zm510 : (Cond.selects "SurpriseTax" yX8_reform yX8_reform : Cond) ∈ zT := List.mem_of_getElem? (i := 510) (by decide +kernel)
set_option maxRecDepth 100000 in
theorem zm511 : (Cond.code yX8_reform cX8_reform 2 (some .int) : Cond) ∈ zT := List.mem_of_getElem? (i := 511) (by decide +kernel)
set_option maxRecDepth 100000 in
theorem zm512 : (Cond.methodLink "SurpriseTax" 213 yX2_nearestLaw : Cond) ∈ zT := List.mem_of_getElem? (i := 512) (by decide +kernel)
set_option maxRecDepth 100000 in
theorem zm513 : (Cond.instanceMethod yX2_nearestLaw : Cond) ∈ zT := List.mem_of_getElem? (i := 513) (by decide +kernel)
set_option maxRecDepth 100000 in
theorem zm514 : (Cond.selects "SurpriseTax$Foresight" yX2_nearestLaw yX2_nearestLaw : Cond) ∈ zT := List.mem_of_getElem? (i := 514) (by decide +kernel)
set_option maxRecDepth 100000 in
theorem zm515 : (Cond.code yX2_nearestLaw cX2_nearestLaw 9 (some .int) : Cond) ∈ zT := List.mem_of_getElem? (i := 515) (by decide +kernel)
set_option maxRecDepth 100000 in
theorem zm516 : (Cond.methodLink "SurpriseTax$Foresight" 62 Lib.Math.abs.name : Cond) ∈ zT := List.mem_of_getElem? (i := 516) (by decide +kernel)
set_option maxRecDepth 100000 in
theorem zm517 : (Cond.static Lib.Math.abs.name : Cond) ∈ zT := List.mem_of_getElem? (i := 517) (by decide +kernel)
set_option maxRecDepth 100000 in
theorem zm518 : (Cond.code Lib.Math.abs.name Lib.Math.abs.code 1 (some .int) : Cond) ∈ zT := List.mem_of_getElem? (i := 518) (by decide +kernel)
set_option maxRecDepth 100000 in
theorem zm519 : (Cond.methodLink "SurpriseTax$Foresight" 70 yX3_allCanPay : Cond) ∈ zT := List.mem_of_getElem? (i := 519) (by decide +kernel)
set_option maxRecDepth 100000 in
theorem zm520 : (Cond.instanceMethod yX3_allCanPay : Cond) ∈ zT := List.mem_of_getElem? (i := 520) (by decide +kernel)
set_option maxRecDepth 100000 in
theorem zm521 : (Cond.selects "SurpriseTax$Realm" yX3_allCanPay yX3_allCanPay : Cond) ∈ zT := List.mem_of_getElem? (i := 521) (by decide +kernel)
set_option maxRecDepth 100000 in
theorem zm522 : (Cond.code yX3_allCanPay cX3_allCanPay 7 (some .boolean) : Cond) ∈ zT := List.mem_of_getElem? (i := 522) (by decide +kernel)
set_option maxRecDepth 100000 in
theorem zm523 : (Cond.methodLink "SurpriseTaxLaw" 91 yX8_roll : Cond) ∈ zT := List.mem_of_getElem? (i := 523) (by decide +kernel)
set_option maxRecDepth 100000 in
theorem zm524 : (Cond.instanceMethod yX8_roll : Cond) ∈ zT := List.mem_of_getElem? (i := 524) (by decide +kernel)
set_option maxRecDepth 100000 in
theorem zm525 : (Cond.selects "SurpriseTax" yX8_roll yX8_roll : Cond) ∈ zT := List.mem_of_getElem? (i := 525) (by decide +kernel)
set_option maxRecDepth 100000 in
theorem zm526 : (Cond.code yX8_roll cX8_roll 3 (some .int) : Cond) ∈ zT := List.mem_of_getElem? (i := 526) (by decide +kernel)
set_option maxRecDepth 100000 in
theorem zm527 : (Cond.methodLink "SurpriseTax" 216 yX4_add : Cond) ∈ zT := List.mem_of_getElem? (i := 527) (by decide +kernel)
set_option maxRecDepth 100000 in
theorem zm528 : (Cond.instanceMethod yX4_add : Cond) ∈ zT := List.mem_of_getElem? (i := 528) (by decide +kernel)
set_option maxRecDepth 100000 in
theorem zm529 : (Cond.selects "SurpriseTax$Rolls" yX4_add yX4_add : Cond) ∈ zT := List.mem_of_getElem? (i := 529) (by decide +kernel)
set_option maxRecDepth 100000 in
theorem zm530 : (Cond.code yX4_add cX4_add 3 none : Cond) ∈ zT := List.mem_of_getElem? (i := 530) (by decide +kernel)
set_option maxRecDepth 100000 in
theorem zm531 : (Cond.methodLink "SurpriseTaxLaw" 95 yX8_unroll : Cond) ∈ zT := List.mem_of_getElem? (i := 531) (by decide +kernel)
set_option maxRecDepth 100000 in
theorem zm532 : (Cond.instanceMethod yX8_unroll : Cond) ∈ zT := List.mem_of_getElem? (i := 532) (by decide +kernel)
set_option maxRecDepth 100000 in
theorem zm533 : (Cond.selects "SurpriseTax" yX8_unroll yX8_unroll : Cond) ∈ zT := List.mem_of_getElem? (i := 533) (by decide +kernel)
set_option maxRecDepth 100000 in
theorem zm534 : (Cond.code yX8_unroll cX8_unroll 2 (some .int) : Cond) ∈ zT := List.mem_of_getElem? (i := 534) (by decide +kernel)
set_option maxRecDepth 100000 in
theorem zm535 : (Cond.methodLink "SurpriseTax" 218 yX4_clear : Cond) ∈ zT := List.mem_of_getElem? (i := 535) (by decide +kernel)
set_option maxRecDepth 100000 in
theorem zm536 : (Cond.instanceMethod yX4_clear : Cond) ∈ zT := List.mem_of_getElem? (i := 536) (by decide +kernel)
set_option maxRecDepth 100000 in
theorem zm537 : (Cond.selects "SurpriseTax$Rolls" yX4_clear yX4_clear : Cond) ∈ zT := List.mem_of_getElem? (i := 537) (by decide +kernel)
set_option maxRecDepth 100000 in
theorem zm538 : (Cond.code yX4_clear cX4_clear 1 none : Cond) ∈ zT := List.mem_of_getElem? (i := 538) (by decide +kernel)
set_option maxRecDepth 100000 in
theorem zm539 : (Cond.methodLink "SurpriseTaxLaw" 99 yX8_tales : Cond) ∈ zT := List.mem_of_getElem? (i := 539) (by decide +kernel)
set_option maxRecDepth 100000 in
theorem zm540 : (Cond.instanceMethod yX8_tales : Cond) ∈ zT := List.mem_of_getElem? (i := 540) (by decide +kernel)
set_option maxRecDepth 100000 in
theorem zm541 : (Cond.selects "SurpriseTax" yX8_tales yX8_tales : Cond) ∈ zT := List.mem_of_getElem? (i := 541) (by decide +kernel)
set_option maxRecDepth 100000 in
theorem zm542 : (Cond.code yX8_tales cX8_tales 2 (some .int) : Cond) ∈ zT := List.mem_of_getElem? (i := 542) (by decide +kernel)
set_option maxRecDepth 100000 in
theorem zm543 : (Cond.methodLink "SurpriseTax" 219 yX4_readTales : Cond) ∈ zT := List.mem_of_getElem? (i := 543) (by decide +kernel)
set_option maxRecDepth 100000 in
theorem zm544 : (Cond.instanceMethod yX4_readTales : Cond) ∈ zT := List.mem_of_getElem? (i := 544) (by decide +kernel)
set_option maxRecDepth 100000 in
theorem zm545 : (Cond.selects "SurpriseTax$Rolls" yX4_readTales yX4_readTales : Cond) ∈ zT := List.mem_of_getElem? (i := 545) (by decide +kernel)
set_option maxRecDepth 100000 in
theorem zm546 : (Cond.code yX4_readTales cX4_readTales 6 none : Cond) ∈ zT := List.mem_of_getElem? (i := 546) (by decide +kernel)
set_option maxRecDepth 100000 in
theorem zm547 : (Cond.methodLink "SurpriseTax$Rolls" 36 yX6_isOpen : Cond) ∈ zT := List.mem_of_getElem? (i := 547) (by decide +kernel)
set_option maxRecDepth 100000 in
theorem zm548 : (Cond.methodLink "SurpriseTax$Rolls" 42 yX4_fits : Cond) ∈ zT := List.mem_of_getElem? (i := 548) (by decide +kernel)
set_option maxRecDepth 100000 in
theorem zm549 : (Cond.instanceMethod yX4_fits : Cond) ∈ zT := List.mem_of_getElem? (i := 549) (by decide +kernel)
set_option maxRecDepth 100000 in
theorem zm550 : (Cond.code yX4_fits cX4_fits 8 (some .boolean) : Cond) ∈ zT := List.mem_of_getElem? (i := 550) (by decide +kernel)
set_option maxRecDepth 100000 in
theorem zm551 : (Cond.methodLink "SurpriseTax$Rolls" 50 yX3_has : Cond) ∈ zT := List.mem_of_getElem? (i := 551) (by decide +kernel)
set_option maxRecDepth 100000 in
theorem zm552 : (Cond.methodLink "SurpriseTax$Rolls" 53 yX3_taxOf : Cond) ∈ zT := List.mem_of_getElem? (i := 552) (by decide +kernel)
set_option maxRecDepth 100000 in
theorem zm553 : (Cond.methodLink "SurpriseTax$Rolls" 46 yX4_addTale : Cond) ∈ zT := List.mem_of_getElem? (i := 553) (by decide +kernel)
set_option maxRecDepth 100000 in
theorem zm554 : (Cond.instanceMethod yX4_addTale : Cond) ∈ zT := List.mem_of_getElem? (i := 554) (by decide +kernel)
set_option maxRecDepth 100000 in
theorem zm555 : (Cond.code yX4_addTale cX4_addTale 3 none : Cond) ∈ zT := List.mem_of_getElem? (i := 555) (by decide +kernel)
set_option maxRecDepth 100000 in
theorem zm556 : (Cond.methodLink "SurpriseTax" 223 yX4_fitting : Cond) ∈ zT := List.mem_of_getElem? (i := 556) (by decide +kernel)
set_option maxRecDepth 100000 in
theorem zm557 : (Cond.instanceMethod yX4_fitting : Cond) ∈ zT := List.mem_of_getElem? (i := 557) (by decide +kernel)
set_option maxRecDepth 100000 in
theorem zm558 : (Cond.selects "SurpriseTax$Rolls" yX4_fitting yX4_fitting : Cond) ∈ zT := List.mem_of_getElem? (i := 558) (by decide +kernel)
set_option maxRecDepth 100000 in
theorem zm559 : (Cond.code yX4_fitting cX4_fitting 1 (some .int) : Cond) ∈ zT := List.mem_of_getElem? (i := 559) (by decide +kernel)
set_option maxRecDepth 100000 in
theorem zm560 : (Cond.methodLink "SurpriseTax" 226 yX4_kinds : Cond) ∈ zT := List.mem_of_getElem? (i := 560) (by decide +kernel)
set_option maxRecDepth 100000 in
theorem zm561 : (Cond.instanceMethod yX4_kinds : Cond) ∈ zT := List.mem_of_getElem? (i := 561) (by decide +kernel)
set_option maxRecDepth 100000 in
theorem zm562 : (Cond.selects "SurpriseTax$Rolls" yX4_kinds yX4_kinds : Cond) ∈ zT := List.mem_of_getElem? (i := 562) (by decide +kernel)
set_option maxRecDepth 100000 in
theorem zm563 : (Cond.code yX4_kinds cX4_kinds 1 (some .int) : Cond) ∈ zT := List.mem_of_getElem? (i := 563) (by decide +kernel)
set_option maxRecDepth 100000 in
theorem zm564 : (Cond.methodLink "SurpriseTax" 229 yX4_sure : Cond) ∈ zT := List.mem_of_getElem? (i := 564) (by decide +kernel)
set_option maxRecDepth 100000 in
theorem zm565 : (Cond.instanceMethod yX4_sure : Cond) ∈ zT := List.mem_of_getElem? (i := 565) (by decide +kernel)
set_option maxRecDepth 100000 in
theorem zm566 : (Cond.selects "SurpriseTax$Rolls" yX4_sure yX4_sure : Cond) ∈ zT := List.mem_of_getElem? (i := 566) (by decide +kernel)
set_option maxRecDepth 100000 in
theorem zm567 : (Cond.code yX4_sure cX4_sure 1 (some .int) : Cond) ∈ zT := List.mem_of_getElem? (i := 567) (by decide +kernel)
set_option maxRecDepth 100000 in
theorem zm568 : (Cond.methodLink "SurpriseTaxLaw" 103 yX8_school : Cond) ∈ zT := List.mem_of_getElem? (i := 568) (by decide +kernel)
set_option maxRecDepth 100000 in
theorem zm569 : (Cond.instanceMethod yX8_school : Cond) ∈ zT := List.mem_of_getElem? (i := 569) (by decide +kernel)
set_option maxRecDepth 100000 in
theorem zm570 : (Cond.selects "SurpriseTax" yX8_school yX8_school : Cond) ∈ zT := List.mem_of_getElem? (i := 570) (by decide +kernel)
set_option maxRecDepth 100000 in
theorem zm571 : (Cond.code yX8_school cX8_school 5 (some .int) : Cond) ∈ zT := List.mem_of_getElem? (i := 571) (by decide +kernel)
set_option maxRecDepth 100000 in
theorem zm572 : (Cond.methodLink "SurpriseTax" 232 yX8_isRow : Cond) ∈ zT := List.mem_of_getElem? (i := 572) (by decide +kernel)
set_option maxRecDepth 100000 in
theorem zm573 : (Cond.static yX8_isRow : Cond) ∈ zT := List.mem_of_getElem? (i := 573) (by decide +kernel)
set_option maxRecDepth 100000 in
theorem zm574 : (Cond.code yX8_isRow cX8_isRow 3 (some .boolean) : Cond) ∈ zT := List.mem_of_getElem? (i := 574) (by decide +kernel)
set_option maxRecDepth 100000 in
theorem zm575 : (Cond.methodLink "SurpriseTax" 282 yX8_figureAt : Cond) ∈ zT := List.mem_of_getElem? (i := 575) (by decide +kernel)
set_option maxRecDepth 100000 in
theorem zm576 : (Cond.static yX8_figureAt : Cond) ∈ zT := List.mem_of_getElem? (i := 576) (by decide +kernel)
set_option maxRecDepth 100000 in
theorem zm577 : (Cond.code yX8_figureAt cX8_figureAt 5 (some .int) : Cond) ∈ zT := List.mem_of_getElem? (i := 577) (by decide +kernel)
set_option maxRecDepth 100000 in
theorem zm578 : (Cond.methodLink "SurpriseTax" 235 yX2_surprisesIn : Cond) ∈ zT := List.mem_of_getElem? (i := 578) (by decide +kernel)
set_option maxRecDepth 100000 in
theorem zm579 : (Cond.instanceMethod yX2_surprisesIn : Cond) ∈ zT := List.mem_of_getElem? (i := 579) (by decide +kernel)
set_option maxRecDepth 100000 in
theorem zm580 : (Cond.selects "SurpriseTax$Foresight" yX2_surprisesIn yX2_surprisesIn : Cond) ∈ zT := List.mem_of_getElem? (i := 580) (by decide +kernel)
set_option maxRecDepth 100000 in
theorem zm581 : (Cond.code yX2_surprisesIn cX2_surprisesIn 10 (some .int) : Cond) ∈ zT := List.mem_of_getElem? (i := 581) (by decide +kernel)
set_option maxRecDepth 100000 in
theorem zm582 : (Cond.methodLink "SurpriseTax$Foresight" 74 yX6_forgetNews : Cond) ∈ zT := List.mem_of_getElem? (i := 582) (by decide +kernel)
set_option maxRecDepth 100000 in
theorem zm583 : (Cond.methodLink "SurpriseTax$Foresight" 80 yX6_surprise : Cond) ∈ zT := List.mem_of_getElem? (i := 583) (by decide +kernel)
set_option maxRecDepth 100000 in
theorem zm584 : (Cond.methodLink "SurpriseTax$Foresight" 83 yX6_learn : Cond) ∈ zT := List.mem_of_getElem? (i := 584) (by decide +kernel)
set_option maxRecDepth 100000 in
theorem zm585 : (Cond.methodLink "SurpriseTax$Foresight" 87 yX6_expectOnly : Cond) ∈ zT := List.mem_of_getElem? (i := 585) (by decide +kernel)
set_option maxRecDepth 100000 in
theorem zm586 : (Cond.instanceMethod yX6_expectOnly : Cond) ∈ zT := List.mem_of_getElem? (i := 586) (by decide +kernel)
set_option maxRecDepth 100000 in
theorem zm587 : (Cond.selects "SurpriseTax$State" yX6_expectOnly yX6_expectOnly : Cond) ∈ zT := List.mem_of_getElem? (i := 587) (by decide +kernel)
set_option maxRecDepth 100000 in
theorem zm588 : (Cond.code yX6_expectOnly cX6_expectOnly 4 none : Cond) ∈ zT := List.mem_of_getElem? (i := 588) (by decide +kernel)
set_option maxRecDepth 100000 in
theorem zm589 : (Cond.methodLink "SurpriseTaxLaw" 108 yX8_braced : Cond) ∈ zT := List.mem_of_getElem? (i := 589) (by decide +kernel)
set_option maxRecDepth 100000 in
theorem zm590 : (Cond.instanceMethod yX8_braced : Cond) ∈ zT := List.mem_of_getElem? (i := 590) (by decide +kernel)
set_option maxRecDepth 100000 in
theorem zm591 : (Cond.selects "SurpriseTax" yX8_braced yX8_braced : Cond) ∈ zT := List.mem_of_getElem? (i := 591) (by decide +kernel)
set_option maxRecDepth 100000 in
theorem zm592 : (Cond.code yX8_braced cX8_braced 6 (some .int) : Cond) ∈ zT := List.mem_of_getElem? (i := 592) (by decide +kernel)
set_option maxRecDepth 100000 in
theorem zm593 : (Cond.methodLink "SurpriseTax" 239 yX3_everybody : Cond) ∈ zT := List.mem_of_getElem? (i := 593) (by decide +kernel)
set_option maxRecDepth 100000 in
theorem zm594 : (Cond.methodLink "SurpriseTax" 242 yX3_isBraced : Cond) ∈ zT := List.mem_of_getElem? (i := 594) (by decide +kernel)
set_option maxRecDepth 100000 in
theorem zm595 : (Cond.instanceMethod yX3_isBraced : Cond) ∈ zT := List.mem_of_getElem? (i := 595) (by decide +kernel)
set_option maxRecDepth 100000 in
theorem zm596 : (Cond.selects "SurpriseTax$Realm" yX3_isBraced yX3_isBraced : Cond) ∈ zT := List.mem_of_getElem? (i := 596) (by decide +kernel)
set_option maxRecDepth 100000 in
theorem zm597 : (Cond.code yX3_isBraced cX3_isBraced 4 (some .boolean) : Cond) ∈ zT := List.mem_of_getElem? (i := 597) (by decide +kernel)
set_option maxRecDepth 100000 in
theorem zm598 : (Cond.methodLink "SurpriseTax$Realm" 49 yJ6_bitCount_0f7a4 : Cond) ∈ zT := List.mem_of_getElem? (i := 598) (by decide +kernel)
set_option maxRecDepth 100000 in
theorem zm599 : (Cond.static yJ6_bitCount_0f7a4 : Cond) ∈ zT := List.mem_of_getElem? (i := 599) (by decide +kernel)
set_option maxRecDepth 100000 in
theorem zm600 : (Cond.code yJ6_bitCount_0f7a4 cJ6_bitCount_0f7a4 1 (some .int) : Cond) ∈ zT := List.mem_of_getElem? (i := 600) (by decide +kernel)
set_option maxRecDepth 100000 in
theorem zm601 : (Cond.constant "java/lang/Integer" 265 1431655765 : Cond) ∈ zT := List.mem_of_getElem? (i := 601) (by decide +kernel)
set_option maxRecDepth 100000 in
theorem zm602 : (Cond.constant "java/lang/Integer" 266 858993459 : Cond) ∈ zT := List.mem_of_getElem? (i := 602) (by decide +kernel)
set_option maxRecDepth 100000 in
theorem zm603 : (Cond.constant "java/lang/Integer" 267 252645135 : Cond) ∈ zT := List.mem_of_getElem? (i := 603) (by decide +kernel)
set_option maxRecDepth 100000 in
theorem zm604 : (Cond.methodLink "SurpriseTaxLaw" 112 yX8_fair : Cond) ∈ zT := List.mem_of_getElem? (i := 604) (by decide +kernel)
set_option maxRecDepth 100000 in
theorem zm605 : (Cond.instanceMethod yX8_fair : Cond) ∈ zT := List.mem_of_getElem? (i := 605) (by decide +kernel)
set_option maxRecDepth 100000 in
theorem zm606 : (Cond.selects "SurpriseTax" yX8_fair yX8_fair : Cond) ∈ zT := List.mem_of_getElem? (i := 606) (by decide +kernel)
set_option maxRecDepth 100000 in
theorem zm607 : (Cond.code yX8_fair cX8_fair 4 (some .int) : Cond) ∈ zT := List.mem_of_getElem? (i := 607) (by decide +kernel)
set_option maxRecDepth 100000 in
theorem zm608 : (Cond.methodLink "SurpriseTax" 245 yX1_fairPrize : Cond) ∈ zT := List.mem_of_getElem? (i := 608) (by decide +kernel)
set_option maxRecDepth 100000 in
theorem zm609 : (Cond.instanceMethod yX1_fairPrize : Cond) ∈ zT := List.mem_of_getElem? (i := 609) (by decide +kernel)
set_option maxRecDepth 100000 in
theorem zm610 : (Cond.selects "SurpriseTax$Advice" yX1_fairPrize yX1_fairPrize : Cond) ∈ zT := List.mem_of_getElem? (i := 610) (by decide +kernel)
set_option maxRecDepth 100000 in
theorem zm611 : (Cond.code yX1_fairPrize cX1_fairPrize 8 (some .int) : Cond) ∈ zT := List.mem_of_getElem? (i := 611) (by decide +kernel)
set_option maxRecDepth 100000 in
theorem zm612 : (Cond.methodLink "SurpriseTaxLaw" 116 yX8_courier : Cond) ∈ zT := List.mem_of_getElem? (i := 612) (by decide +kernel)
set_option maxRecDepth 100000 in
theorem zm613 : (Cond.instanceMethod yX8_courier : Cond) ∈ zT := List.mem_of_getElem? (i := 613) (by decide +kernel)
set_option maxRecDepth 100000 in
theorem zm614 : (Cond.selects "SurpriseTax" yX8_courier yX8_courier : Cond) ∈ zT := List.mem_of_getElem? (i := 614) (by decide +kernel)
set_option maxRecDepth 100000 in
theorem zm615 : (Cond.code yX8_courier cX8_courier 2 (some .int) : Cond) ∈ zT := List.mem_of_getElem? (i := 615) (by decide +kernel)
set_option maxRecDepth 100000 in
theorem zm616 : (Cond.methodLink "SurpriseTax" 249 yX1_worthOfNews : Cond) ∈ zT := List.mem_of_getElem? (i := 616) (by decide +kernel)
set_option maxRecDepth 100000 in
theorem zm617 : (Cond.instanceMethod yX1_worthOfNews : Cond) ∈ zT := List.mem_of_getElem? (i := 617) (by decide +kernel)
set_option maxRecDepth 100000 in
theorem zm618 : (Cond.selects "SurpriseTax$Advice" yX1_worthOfNews yX1_worthOfNews : Cond) ∈ zT := List.mem_of_getElem? (i := 618) (by decide +kernel)
set_option maxRecDepth 100000 in
theorem zm619 : (Cond.code yX1_worthOfNews cX1_worthOfNews 4 (some .int) : Cond) ∈ zT := List.mem_of_getElem? (i := 619) (by decide +kernel)
set_option maxRecDepth 100000 in
theorem zm620 : (Cond.methodLink "SurpriseTaxLaw" 122 yX8_seed : Cond) ∈ zT := List.mem_of_getElem? (i := 620) (by decide +kernel)
set_option maxRecDepth 100000 in
theorem zm621 : (Cond.instanceMethod yX8_seed : Cond) ∈ zT := List.mem_of_getElem? (i := 621) (by decide +kernel)
set_option maxRecDepth 100000 in
theorem zm622 : (Cond.selects "SurpriseTax" yX8_seed yX8_seed : Cond) ∈ zT := List.mem_of_getElem? (i := 622) (by decide +kernel)
set_option maxRecDepth 100000 in
theorem zm623 : (Cond.code yX8_seed cX8_seed 5 (some .long) : Cond) ∈ zT := List.mem_of_getElem? (i := 623) (by decide +kernel)
set_option maxRecDepth 100000 in
theorem zm624 : (Cond.methodLink "SurpriseTaxLaw" 127 yX8_week : Cond) ∈ zT := List.mem_of_getElem? (i := 624) (by decide +kernel)
set_option maxRecDepth 100000 in
theorem zm625 : (Cond.instanceMethod yX8_week : Cond) ∈ zT := List.mem_of_getElem? (i := 625) (by decide +kernel)
set_option maxRecDepth 100000 in
theorem zm626 : (Cond.selects "SurpriseTax" yX8_week yX8_week : Cond) ∈ zT := List.mem_of_getElem? (i := 626) (by decide +kernel)
set_option maxRecDepth 100000 in
theorem zm627 : (Cond.code yX8_week cX8_week 3 (some .int) : Cond) ∈ zT := List.mem_of_getElem? (i := 627) (by decide +kernel)
set_option maxRecDepth 100000 in
theorem zm628 : (Cond.methodLink "SurpriseTax" 252 yX2_begin : Cond) ∈ zT := List.mem_of_getElem? (i := 628) (by decide +kernel)
set_option maxRecDepth 100000 in
theorem zm629 : (Cond.instanceMethod yX2_begin : Cond) ∈ zT := List.mem_of_getElem? (i := 629) (by decide +kernel)
set_option maxRecDepth 100000 in
theorem zm630 : (Cond.selects "SurpriseTax$Foresight" yX2_begin yX2_begin : Cond) ∈ zT := List.mem_of_getElem? (i := 630) (by decide +kernel)
set_option maxRecDepth 100000 in
theorem zm631 : (Cond.code yX2_begin cX2_begin 2 none : Cond) ∈ zT := List.mem_of_getElem? (i := 631) (by decide +kernel)
set_option maxRecDepth 100000 in
theorem zm632 : (Cond.constantLong "SurpriseTax" 255 6364136223846793005 : Cond) ∈ zT := List.mem_of_getElem? (i := 632) (by decide +kernel)
set_option maxRecDepth 100000 in
theorem zm633 : (Cond.constantLong "SurpriseTax" 257 1442695040888963407 : Cond) ∈ zT := List.mem_of_getElem? (i := 633) (by decide +kernel)
set_option maxRecDepth 100000 in
theorem zm634 : (Cond.methodLink "SurpriseTax" 259 yX3_drawnBy : Cond) ∈ zT := List.mem_of_getElem? (i := 634) (by decide +kernel)
set_option maxRecDepth 100000 in
theorem zm635 : (Cond.instanceMethod yX3_drawnBy : Cond) ∈ zT := List.mem_of_getElem? (i := 635) (by decide +kernel)
set_option maxRecDepth 100000 in
theorem zm636 : (Cond.selects "SurpriseTax$Realm" yX3_drawnBy yX3_drawnBy : Cond) ∈ zT := List.mem_of_getElem? (i := 636) (by decide +kernel)
set_option maxRecDepth 100000 in
theorem zm637 : (Cond.code yX3_drawnBy cX3_drawnBy 6 (some .int) : Cond) ∈ zT := List.mem_of_getElem? (i := 637) (by decide +kernel)
set_option maxRecDepth 100000 in
theorem zm638 : (Cond.constantLong "SurpriseTax$Realm" 77 10 : Cond) ∈ zT := List.mem_of_getElem? (i := 638) (by decide +kernel)
set_option maxRecDepth 100000 in
theorem zm639 : (Cond.methodLink "SurpriseTax" 263 yX2_play : Cond) ∈ zT := List.mem_of_getElem? (i := 639) (by decide +kernel)
set_option maxRecDepth 100000 in
theorem zm640 : (Cond.instanceMethod yX2_play : Cond) ∈ zT := List.mem_of_getElem? (i := 640) (by decide +kernel)
set_option maxRecDepth 100000 in
theorem zm641 : (Cond.selects "SurpriseTax$Foresight" yX2_play yX2_play : Cond) ∈ zT := List.mem_of_getElem? (i := 641) (by decide +kernel)
set_option maxRecDepth 100000 in
theorem zm642 : (Cond.code yX2_play cX2_play 3 none : Cond) ∈ zT := List.mem_of_getElem? (i := 642) (by decide +kernel)
set_option maxRecDepth 100000 in
theorem zm643 : (Cond.methodLink "SurpriseTax" 267 yX2_coinsOfAll : Cond) ∈ zT := List.mem_of_getElem? (i := 643) (by decide +kernel)
set_option maxRecDepth 100000 in
theorem zm644 : (Cond.instanceMethod yX2_coinsOfAll : Cond) ∈ zT := List.mem_of_getElem? (i := 644) (by decide +kernel)
set_option maxRecDepth 100000 in
theorem zm645 : (Cond.selects "SurpriseTax$Foresight" yX2_coinsOfAll yX2_coinsOfAll : Cond) ∈ zT := List.mem_of_getElem? (i := 645) (by decide +kernel)
set_option maxRecDepth 100000 in
theorem zm646 : (Cond.code yX2_coinsOfAll cX2_coinsOfAll 4 (some .int) : Cond) ∈ zT := List.mem_of_getElem? (i := 646) (by decide +kernel)
set_option maxRecDepth 100000 in
theorem zm647 : (Cond.methodLink "SurpriseTax$Foresight" 35 yX6_coins : Cond) ∈ zT := List.mem_of_getElem? (i := 647) (by decide +kernel)
set_option maxRecDepth 100000 in
theorem zm648 : (Cond.constant "SurpriseTax" 271 1000000 : Cond) ∈ zT := List.mem_of_getElem? (i := 648) (by decide +kernel)
set_option maxRecDepth 100000 in
theorem zm649 : (Cond.methodLink "SurpriseTaxLaw" 131 yX8_keep : Cond) ∈ zT := List.mem_of_getElem? (i := 649) (by decide +kernel)
set_option maxRecDepth 100000 in
theorem zm650 : (Cond.instanceMethod yX8_keep : Cond) ∈ zT := List.mem_of_getElem? (i := 650) (by decide +kernel)
set_option maxRecDepth 100000 in
theorem zm651 : (Cond.selects "SurpriseTax" yX8_keep yX8_keep : Cond) ∈ zT := List.mem_of_getElem? (i := 651) (by decide +kernel)
set_option maxRecDepth 100000 in
theorem zm652 : (Cond.code yX8_keep cX8_keep 2 (some .int) : Cond) ∈ zT := List.mem_of_getElem? (i := 652) (by decide +kernel)
set_option maxRecDepth 100000 in
theorem zm653 : (Cond.methodLink "SurpriseTax" 272 yX5_put : Cond) ∈ zT := List.mem_of_getElem? (i := 653) (by decide +kernel)
set_option maxRecDepth 100000 in
theorem zm654 : (Cond.instanceMethod yX5_put : Cond) ∈ zT := List.mem_of_getElem? (i := 654) (by decide +kernel)
set_option maxRecDepth 100000 in
theorem zm655 : (Cond.selects "SurpriseTax$Slots" yX5_put yX5_put : Cond) ∈ zT := List.mem_of_getElem? (i := 655) (by decide +kernel)
set_option maxRecDepth 100000 in
theorem zm656 : (Cond.code yX5_put cX5_put 3 none : Cond) ∈ zT := List.mem_of_getElem? (i := 656) (by decide +kernel)
set_option maxRecDepth 100000 in
theorem zm657 : (Cond.methodLink "SurpriseTax$Slots" 21 yX6_saveTo : Cond) ∈ zT := List.mem_of_getElem? (i := 657) (by decide +kernel)
set_option maxRecDepth 100000 in
theorem zm658 : (Cond.methodLink "SurpriseTaxLaw" 135 yX8_again : Cond) ∈ zT := List.mem_of_getElem? (i := 658) (by decide +kernel)
set_option maxRecDepth 100000 in
theorem zm659 : (Cond.instanceMethod yX8_again : Cond) ∈ zT := List.mem_of_getElem? (i := 659) (by decide +kernel)
set_option maxRecDepth 100000 in
theorem zm660 : (Cond.selects "SurpriseTax" yX8_again yX8_again : Cond) ∈ zT := List.mem_of_getElem? (i := 660) (by decide +kernel)
set_option maxRecDepth 100000 in
theorem zm661 : (Cond.code yX8_again cX8_again 2 (some .int) : Cond) ∈ zT := List.mem_of_getElem? (i := 661) (by decide +kernel)
set_option maxRecDepth 100000 in
theorem zm662 : (Cond.methodLink "SurpriseTax" 276 yX5_isKept : Cond) ∈ zT := List.mem_of_getElem? (i := 662) (by decide +kernel)
set_option maxRecDepth 100000 in
theorem zm663 : (Cond.instanceMethod yX5_isKept : Cond) ∈ zT := List.mem_of_getElem? (i := 663) (by decide +kernel)
set_option maxRecDepth 100000 in
theorem zm664 : (Cond.selects "SurpriseTax$Slots" yX5_isKept yX5_isKept : Cond) ∈ zT := List.mem_of_getElem? (i := 664) (by decide +kernel)
set_option maxRecDepth 100000 in
theorem zm665 : (Cond.code yX5_isKept cX5_isKept 2 (some .boolean) : Cond) ∈ zT := List.mem_of_getElem? (i := 665) (by decide +kernel)
set_option maxRecDepth 100000 in
theorem zm666 : (Cond.methodLink "SurpriseTax" 279 yX5_giveBack : Cond) ∈ zT := List.mem_of_getElem? (i := 666) (by decide +kernel)
set_option maxRecDepth 100000 in
theorem zm667 : (Cond.instanceMethod yX5_giveBack : Cond) ∈ zT := List.mem_of_getElem? (i := 667) (by decide +kernel)
set_option maxRecDepth 100000 in
theorem zm668 : (Cond.selects "SurpriseTax$Slots" yX5_giveBack yX5_giveBack : Cond) ∈ zT := List.mem_of_getElem? (i := 668) (by decide +kernel)
set_option maxRecDepth 100000 in
theorem zm669 : (Cond.code yX5_giveBack cX5_giveBack 3 none : Cond) ∈ zT := List.mem_of_getElem? (i := 669) (by decide +kernel)
set_option maxRecDepth 100000 in
theorem zm670 : (Cond.methodLink "SurpriseTax$Slots" 25 yX6_loadFrom : Cond) ∈ zT := List.mem_of_getElem? (i := 670) (by decide +kernel)
set_option maxRecDepth 100000 in
theorem zm671 : (Cond.classLink "SurpriseTaxLaw" 10 "SurpriseTaxModel" : Cond) ∈ zT := List.mem_of_getElem? (i := 671) (by decide +kernel)
set_option maxRecDepth 100000 in
theorem zm672 : (Cond.instantiable "SurpriseTaxModel" 34 : Cond) ∈ zT := List.mem_of_getElem? (i := 672) (by decide +kernel)
set_option maxRecDepth 100000 in
theorem zm673 : (Cond.methodLink "SurpriseTaxLaw" 12 yX9_init : Cond) ∈ zT := List.mem_of_getElem? (i := 673) (by decide +kernel)
set_option maxRecDepth 100000 in
theorem zm674 : (Cond.instanceMethod yX9_init : Cond) ∈ zT := List.mem_of_getElem? (i := 674) (by decide +kernel)
set_option maxRecDepth 100000 in
theorem zm675 : (Cond.code yX9_init cX9_init 2 none : Cond) ∈ zT := List.mem_of_getElem? (i := 675) (by decide +kernel)
set_option maxRecDepth 100000 in
theorem zm676 : (Cond.methodLink "SurpriseTaxModel" 1 objectInit : Cond) ∈ zT := List.mem_of_getElem? (i := 676) (by decide +kernel)
set_option maxRecDepth 100000 in
theorem zm677 : (Cond.fieldLink "SurpriseTaxModel" 62 "SurpriseTaxModel" "thrown" "I" : Cond) ∈ zT := List.mem_of_getElem? (i := 677) (by decide +kernel)
set_option maxRecDepth 100000 in
theorem zm678 : (Cond.fieldLink "SurpriseTaxModel" 7 "SurpriseTaxModel" "text" "[I" : Cond) ∈ zT := List.mem_of_getElem? (i := 678) (by decide +kernel)
set_option maxRecDepth 100000 in
theorem zm679 : (Cond.fieldLink "SurpriseTaxModel" 77 "SurpriseTaxModel" "textSize" "I" : Cond) ∈ zT := List.mem_of_getElem? (i := 679) (by decide +kernel)
set_option maxRecDepth 100000 in
theorem zm680 : (Cond.fieldLink "SurpriseTaxModel" 80 "SurpriseTaxModel" "place" "I" : Cond) ∈ zT := List.mem_of_getElem? (i := 680) (by decide +kernel)
set_option maxRecDepth 100000 in
theorem zm681 : (Cond.fieldLink "SurpriseTaxModel" 125 "SurpriseTaxModel" "rate" "I" : Cond) ∈ zT := List.mem_of_getElem? (i := 681) (by decide +kernel)
set_option maxRecDepth 100000 in
theorem zm682 : (Cond.fieldLink "SurpriseTaxModel" 128 "SurpriseTaxModel" "free" "I" : Cond) ∈ zT := List.mem_of_getElem? (i := 682) (by decide +kernel)
set_option maxRecDepth 100000 in
theorem zm683 : (Cond.fieldLink "SurpriseTaxModel" 131 "SurpriseTaxModel" "price" "I" : Cond) ∈ zT := List.mem_of_getElem? (i := 683) (by decide +kernel)
set_option maxRecDepth 100000 in
theorem zm684 : (Cond.fieldLink "SurpriseTaxModel" 13 "SurpriseTaxModel" "odds" "[I" : Cond) ∈ zT := List.mem_of_getElem? (i := 684) (by decide +kernel)
set_option maxRecDepth 100000 in
theorem zm685 : (Cond.fieldLink "SurpriseTaxModel" 66 "SurpriseTaxModel" "people" "I" : Cond) ∈ zT := List.mem_of_getElem? (i := 685) (by decide +kernel)
set_option maxRecDepth 100000 in
theorem zm686 : (Cond.fieldLink "SurpriseTaxModel" 16 "SurpriseTaxModel" "nerve" "[I" : Cond) ∈ zT := List.mem_of_getElem? (i := 686) (by decide +kernel)
set_option maxRecDepth 100000 in
theorem zm687 : (Cond.fieldLink "SurpriseTaxModel" 19 "SurpriseTaxModel" "road" "[I" : Cond) ∈ zT := List.mem_of_getElem? (i := 687) (by decide +kernel)
set_option maxRecDepth 100000 in
theorem zm688 : (Cond.fieldLink "SurpriseTaxModel" 134 "SurpriseTaxModel" "roads" "I" : Cond) ∈ zT := List.mem_of_getElem? (i := 688) (by decide +kernel)
set_option maxRecDepth 100000 in
theorem zm689 : (Cond.fieldLink "SurpriseTaxModel" 109 "SurpriseTaxModel" "readRate" "I" : Cond) ∈ zT := List.mem_of_getElem? (i := 689) (by decide +kernel)
set_option maxRecDepth 100000 in
theorem zm690 : (Cond.fieldLink "SurpriseTaxModel" 112 "SurpriseTaxModel" "readFree" "I" : Cond) ∈ zT := List.mem_of_getElem? (i := 690) (by decide +kernel)
set_option maxRecDepth 100000 in
theorem zm691 : (Cond.fieldLink "SurpriseTaxModel" 115 "SurpriseTaxModel" "readPrice" "I" : Cond) ∈ zT := List.mem_of_getElem? (i := 691) (by decide +kernel)
set_option maxRecDepth 100000 in
theorem zm692 : (Cond.fieldLink "SurpriseTaxModel" 22 "SurpriseTaxModel" "readOdds" "[I" : Cond) ∈ zT := List.mem_of_getElem? (i := 692) (by decide +kernel)
set_option maxRecDepth 100000 in
theorem zm693 : (Cond.fieldLink "SurpriseTaxModel" 87 "SurpriseTaxModel" "readPeople" "I" : Cond) ∈ zT := List.mem_of_getElem? (i := 693) (by decide +kernel)
set_option maxRecDepth 100000 in
theorem zm694 : (Cond.fieldLink "SurpriseTaxModel" 25 "SurpriseTaxModel" "readNerve" "[I" : Cond) ∈ zT := List.mem_of_getElem? (i := 694) (by decide +kernel)
set_option maxRecDepth 100000 in
theorem zm695 : (Cond.fieldLink "SurpriseTaxModel" 28 "SurpriseTaxModel" "readRoad" "[I" : Cond) ∈ zT := List.mem_of_getElem? (i := 695) (by decide +kernel)
set_option maxRecDepth 100000 in
theorem zm696 : (Cond.fieldLink "SurpriseTaxModel" 98 "SurpriseTaxModel" "readRoads" "I" : Cond) ∈ zT := List.mem_of_getElem? (i := 696) (by decide +kernel)
set_option maxRecDepth 100000 in
theorem zm697 : (Cond.fieldLink "SurpriseTaxModel" 31 "SurpriseTaxModel" "readPage" "[I" : Cond) ∈ zT := List.mem_of_getElem? (i := 697) (by decide +kernel)
set_option maxRecDepth 100000 in
theorem zm698 : (Cond.fieldLink "SurpriseTaxModel" 34 "SurpriseTaxModel" "page" "[I" : Cond) ∈ zT := List.mem_of_getElem? (i := 698) (by decide +kernel)
set_option maxRecDepth 100000 in
theorem zm699 : (Cond.fieldLink "SurpriseTaxModel" 37 "SurpriseTaxModel" "book" "[I" : Cond) ∈ zT := List.mem_of_getElem? (i := 699) (by decide +kernel)
set_option maxRecDepth 100000 in
theorem zm700 : (Cond.fieldLink "SurpriseTaxModel" 137 "SurpriseTaxModel" "acts" "I" : Cond) ∈ zT := List.mem_of_getElem? (i := 700) (by decide +kernel)
set_option maxRecDepth 100000 in
theorem zm701 : (Cond.fieldLink "SurpriseTaxModel" 40 "SurpriseTaxModel" "kept" "[I" : Cond) ∈ zT := List.mem_of_getElem? (i := 701) (by decide +kernel)
set_option maxRecDepth 100000 in
theorem zm702 : (Cond.fieldLink "SurpriseTaxModel" 43 "SurpriseTaxModel" "isKept" "[Z" : Cond) ∈ zT := List.mem_of_getElem? (i := 702) (by decide +kernel)
set_option maxRecDepth 100000 in
theorem zm703 : (Cond.fieldLink "SurpriseTaxModel" 144 "SurpriseTaxModel" "rolls" "I" : Cond) ∈ zT := List.mem_of_getElem? (i := 703) (by decide +kernel)
set_option maxRecDepth 100000 in
theorem zm704 : (Cond.fieldLink "SurpriseTaxModel" 47 "SurpriseTaxModel" "rollWho" "[I" : Cond) ∈ zT := List.mem_of_getElem? (i := 704) (by decide +kernel)
set_option maxRecDepth 100000 in
theorem zm705 : (Cond.fieldLink "SurpriseTaxModel" 50 "SurpriseTaxModel" "rollPaid" "[I" : Cond) ∈ zT := List.mem_of_getElem? (i := 705) (by decide +kernel)
set_option maxRecDepth 100000 in
theorem zm706 : (Cond.fieldLink "SurpriseTaxModel" 226 "SurpriseTaxModel" "seed" "J" : Cond) ∈ zT := List.mem_of_getElem? (i := 706) (by decide +kernel)
set_option maxRecDepth 100000 in
theorem zm707 : (Cond.fieldLink "SurpriseTaxModel" 53 "SurpriseTaxModel" "tried" "[I" : Cond) ∈ zT := List.mem_of_getElem? (i := 707) (by decide +kernel)
set_option maxRecDepth 100000 in
theorem zm708 : (Cond.fieldLink "SurpriseTaxModel" 56 "SurpriseTaxModel" "worth" "[I" : Cond) ∈ zT := List.mem_of_getElem? (i := 708) (by decide +kernel)
set_option maxRecDepth 100000 in
theorem zm709 : (Cond.fieldLink "SurpriseTaxModel" 59 "SurpriseTaxModel" "next" "[I" : Cond) ∈ zT := List.mem_of_getElem? (i := 709) (by decide +kernel)
set_option maxRecDepth 100000 in
theorem zm710 : (Cond.fieldLink "SurpriseTaxModel" 204 "SurpriseTaxModel" "jokeRow" "I" : Cond) ∈ zT := List.mem_of_getElem? (i := 710) (by decide +kernel)
set_option maxRecDepth 100000 in
theorem zm711 : (Cond.lays "SurpriseTaxModel" "SurpriseTaxModel" "thrown" "I" : Cond) ∈ zT := List.mem_of_getElem? (i := 711) (by decide +kernel)
set_option maxRecDepth 100000 in
theorem zm712 : (Cond.laysFinal "SurpriseTaxModel" "SurpriseTaxModel" "text" "[I" : Cond) ∈ zT := List.mem_of_getElem? (i := 712) (by decide +kernel)
set_option maxRecDepth 100000 in
theorem zm713 : (Cond.lays "SurpriseTaxModel" "SurpriseTaxModel" "textSize" "I" : Cond) ∈ zT := List.mem_of_getElem? (i := 713) (by decide +kernel)
set_option maxRecDepth 100000 in
theorem zm714 : (Cond.lays "SurpriseTaxModel" "SurpriseTaxModel" "place" "I" : Cond) ∈ zT := List.mem_of_getElem? (i := 714) (by decide +kernel)
set_option maxRecDepth 100000 in
theorem zm715 : (Cond.lays "SurpriseTaxModel" "SurpriseTaxModel" "rate" "I" : Cond) ∈ zT := List.mem_of_getElem? (i := 715) (by decide +kernel)
set_option maxRecDepth 100000 in
theorem zm716 : (Cond.lays "SurpriseTaxModel" "SurpriseTaxModel" "free" "I" : Cond) ∈ zT := List.mem_of_getElem? (i := 716) (by decide +kernel)
set_option maxRecDepth 100000 in
theorem zm717 : (Cond.lays "SurpriseTaxModel" "SurpriseTaxModel" "price" "I" : Cond) ∈ zT := List.mem_of_getElem? (i := 717) (by decide +kernel)
set_option maxRecDepth 100000 in
theorem zm718 : (Cond.laysFinal "SurpriseTaxModel" "SurpriseTaxModel" "odds" "[I" : Cond) ∈ zT := List.mem_of_getElem? (i := 718) (by decide +kernel)
set_option maxRecDepth 100000 in
theorem zm719 : (Cond.lays "SurpriseTaxModel" "SurpriseTaxModel" "people" "I" : Cond) ∈ zT := List.mem_of_getElem? (i := 719) (by decide +kernel)
set_option maxRecDepth 100000 in
theorem zm720 : (Cond.laysFinal "SurpriseTaxModel" "SurpriseTaxModel" "nerve" "[I" : Cond) ∈ zT := List.mem_of_getElem? (i := 720) (by decide +kernel)
set_option maxRecDepth 100000 in
theorem zm721 : (Cond.laysFinal "SurpriseTaxModel" "SurpriseTaxModel" "road" "[I" : Cond) ∈ zT := List.mem_of_getElem? (i := 721) (by decide +kernel)
set_option maxRecDepth 100000 in
theorem zm722 : (Cond.lays "SurpriseTaxModel" "SurpriseTaxModel" "roads" "I" : Cond) ∈ zT := List.mem_of_getElem? (i := 722) (by decide +kernel)
set_option maxRecDepth 100000 in
theorem zm723 : (Cond.lays "SurpriseTaxModel" "SurpriseTaxModel" "readRate" "I" : Cond) ∈ zT := List.mem_of_getElem? (i := 723) (by decide +kernel)
set_option maxRecDepth 100000 in
theorem zm724 : (Cond.lays "SurpriseTaxModel" "SurpriseTaxModel" "readFree" "I" : Cond) ∈ zT := List.mem_of_getElem? (i := 724) (by decide +kernel)
set_option maxRecDepth 100000 in
theorem zm725 : (Cond.lays "SurpriseTaxModel" "SurpriseTaxModel" "readPrice" "I" : Cond) ∈ zT := List.mem_of_getElem? (i := 725) (by decide +kernel)
set_option maxRecDepth 100000 in
theorem zm726 : (Cond.laysFinal "SurpriseTaxModel" "SurpriseTaxModel" "readOdds" "[I" : Cond) ∈ zT := List.mem_of_getElem? (i := 726) (by decide +kernel)
set_option maxRecDepth 100000 in
theorem zm727 : (Cond.lays "SurpriseTaxModel" "SurpriseTaxModel" "readPeople" "I" : Cond) ∈ zT := List.mem_of_getElem? (i := 727) (by decide +kernel)
set_option maxRecDepth 100000 in
theorem zm728 : (Cond.laysFinal "SurpriseTaxModel" "SurpriseTaxModel" "readNerve" "[I" : Cond) ∈ zT := List.mem_of_getElem? (i := 728) (by decide +kernel)
set_option maxRecDepth 100000 in
theorem zm729 : (Cond.laysFinal "SurpriseTaxModel" "SurpriseTaxModel" "readRoad" "[I" : Cond) ∈ zT := List.mem_of_getElem? (i := 729) (by decide +kernel)
set_option maxRecDepth 100000 in
theorem zm730 : (Cond.lays "SurpriseTaxModel" "SurpriseTaxModel" "readRoads" "I" : Cond) ∈ zT := List.mem_of_getElem? (i := 730) (by decide +kernel)
set_option maxRecDepth 100000 in
theorem zm731 : (Cond.laysFinal "SurpriseTaxModel" "SurpriseTaxModel" "readPage" "[I" : Cond) ∈ zT := List.mem_of_getElem? (i := 731) (by decide +kernel)
set_option maxRecDepth 100000 in
theorem zm732 : (Cond.laysFinal "SurpriseTaxModel" "SurpriseTaxModel" "page" "[I" : Cond) ∈ zT := List.mem_of_getElem? (i := 732) (by decide +kernel)
set_option maxRecDepth 100000 in
theorem zm733 : (Cond.laysFinal "SurpriseTaxModel" "SurpriseTaxModel" "book" "[I" : Cond) ∈ zT := List.mem_of_getElem? (i := 733) (by decide +kernel)
set_option maxRecDepth 100000 in
theorem zm734 : (Cond.lays "SurpriseTaxModel" "SurpriseTaxModel" "acts" "I" : Cond) ∈ zT := List.mem_of_getElem? (i := 734) (by decide +kernel)
set_option maxRecDepth 100000 in
theorem zm735 : (Cond.laysFinal "SurpriseTaxModel" "SurpriseTaxModel" "kept" "[I" : Cond) ∈ zT := List.mem_of_getElem? (i := 735) (by decide +kernel)
set_option maxRecDepth 100000 in
theorem zm736 : (Cond.laysFinal "SurpriseTaxModel" "SurpriseTaxModel" "isKept" "[Z" : Cond) ∈ zT := List.mem_of_getElem? (i := 736) (by decide +kernel)
set_option maxRecDepth 100000 in
theorem zm737 : (Cond.lays "SurpriseTaxModel" "SurpriseTaxModel" "rolls" "I" : Cond) ∈ zT := List.mem_of_getElem? (i := 737) (by decide +kernel)
set_option maxRecDepth 100000 in
theorem zm738 : (Cond.laysFinal "SurpriseTaxModel" "SurpriseTaxModel" "rollWho" "[I" : Cond) ∈ zT := List.mem_of_getElem? (i := 738) (by decide +kernel)
set_option maxRecDepth 100000 in
theorem zm739 : (Cond.laysFinal "SurpriseTaxModel" "SurpriseTaxModel" "rollPaid" "[I" : Cond) ∈ zT := List.mem_of_getElem? (i := 739) (by decide +kernel)
set_option maxRecDepth 100000 in
theorem zm740 : (Cond.lays "SurpriseTaxModel" "SurpriseTaxModel" "seed" "J" : Cond) ∈ zT := List.mem_of_getElem? (i := 740) (by decide +kernel)
set_option maxRecDepth 100000 in
theorem zm741 : (Cond.laysFinal "SurpriseTaxModel" "SurpriseTaxModel" "tried" "[I" : Cond) ∈ zT := List.mem_of_getElem? (i := 741) (by decide +kernel)
set_option maxRecDepth 100000 in
theorem zm742 : (Cond.laysFinal "SurpriseTaxModel" "SurpriseTaxModel" "worth" "[I" : Cond) ∈ zT := List.mem_of_getElem? (i := 742) (by decide +kernel)
set_option maxRecDepth 100000 in
theorem zm743 : (Cond.laysFinal "SurpriseTaxModel" "SurpriseTaxModel" "next" "[I" : Cond) ∈ zT := List.mem_of_getElem? (i := 743) (by decide +kernel)
set_option maxRecDepth 100000 in
theorem zm744 : (Cond.lays "SurpriseTaxModel" "SurpriseTaxModel" "jokeRow" "I" : Cond) ∈ zT := List.mem_of_getElem? (i := 744) (by decide +kernel)
set_option maxRecDepth 100000 in
theorem zm745 : (Cond.methodLink "SurpriseTaxLaw" 17 yX9_write : Cond) ∈ zT := List.mem_of_getElem? (i := 745) (by decide +kernel)
set_option maxRecDepth 100000 in
theorem zm746 : (Cond.instanceMethod yX9_write : Cond) ∈ zT := List.mem_of_getElem? (i := 746) (by decide +kernel)
set_option maxRecDepth 100000 in
theorem zm747 : (Cond.selects "SurpriseTaxModel" yX9_write yX9_write : Cond) ∈ zT := List.mem_of_getElem? (i := 747) (by decide +kernel)
set_option maxRecDepth 100000 in
theorem zm748 : (Cond.code yX9_write cX9_write 2 (some .int) : Cond) ∈ zT := List.mem_of_getElem? (i := 748) (by decide +kernel)
set_option maxRecDepth 100000 in
theorem zm749 : (Cond.constantLong "SurpriseTaxModel" 75 255 : Cond) ∈ zT := List.mem_of_getElem? (i := 749) (by decide +kernel)
set_option maxRecDepth 100000 in
theorem zm750 : (Cond.methodLink "SurpriseTaxModel" 69 yX9_in : Cond) ∈ zT := List.mem_of_getElem? (i := 750) (by decide +kernel)
set_option maxRecDepth 100000 in
theorem zm751 : (Cond.static yX9_in : Cond) ∈ zT := List.mem_of_getElem? (i := 751) (by decide +kernel)
set_option maxRecDepth 100000 in
theorem zm752 : (Cond.code yX9_in cX9_in 6 (some .boolean) : Cond) ∈ zT := List.mem_of_getElem? (i := 752) (by decide +kernel)
set_option maxRecDepth 100000 in
theorem zm753 : (Cond.methodLink "SurpriseTaxLaw" 22 yX9_wipe : Cond) ∈ zT := List.mem_of_getElem? (i := 753) (by decide +kernel)
set_option maxRecDepth 100000 in
theorem zm754 : (Cond.instanceMethod yX9_wipe : Cond) ∈ zT := List.mem_of_getElem? (i := 754) (by decide +kernel)
set_option maxRecDepth 100000 in
theorem zm755 : (Cond.selects "SurpriseTaxModel" yX9_wipe yX9_wipe : Cond) ∈ zT := List.mem_of_getElem? (i := 755) (by decide +kernel)
set_option maxRecDepth 100000 in
theorem zm756 : (Cond.code yX9_wipe cX9_wipe 2 (some .int) : Cond) ∈ zT := List.mem_of_getElem? (i := 756) (by decide +kernel)
set_option maxRecDepth 100000 in
theorem zm757 : (Cond.methodLink "SurpriseTaxLaw" 26 yX9_fault : Cond) ∈ zT := List.mem_of_getElem? (i := 757) (by decide +kernel)
set_option maxRecDepth 100000 in
theorem zm758 : (Cond.instanceMethod yX9_fault : Cond) ∈ zT := List.mem_of_getElem? (i := 758) (by decide +kernel)
set_option maxRecDepth 100000 in
theorem zm759 : (Cond.selects "SurpriseTaxModel" yX9_fault yX9_fault : Cond) ∈ zT := List.mem_of_getElem? (i := 759) (by decide +kernel)
set_option maxRecDepth 100000 in
theorem zm760 : (Cond.code yX9_fault cX9_fault 1 (some .int) : Cond) ∈ zT := List.mem_of_getElem? (i := 760) (by decide +kernel)
set_option maxRecDepth 100000 in
theorem zm761 : (Cond.methodLink "SurpriseTaxModel" 121 yX9_readRealm : Cond) ∈ zT := List.mem_of_getElem? (i := 761) (by decide +kernel)
set_option maxRecDepth 100000 in
theorem zm762 : (Cond.instanceMethod yX9_readRealm : Cond) ∈ zT := List.mem_of_getElem? (i := 762) (by decide +kernel)
set_option maxRecDepth 100000 in
theorem zm763 : (Cond.code yX9_readRealm cX9_readRealm 1 (some .int) : Cond) ∈ zT := List.mem_of_getElem? (i := 763) (by decide +kernel)
set_option maxRecDepth 100000 in
theorem zm764 : (Cond.methodLink "SurpriseTaxModel" 83 yX9_figure : Cond) ∈ zT := List.mem_of_getElem? (i := 764) (by decide +kernel)
set_option maxRecDepth 100000 in
theorem zm765 : (Cond.instanceMethod yX9_figure : Cond) ∈ zT := List.mem_of_getElem? (i := 765) (by decide +kernel)
set_option maxRecDepth 100000 in
theorem zm766 : (Cond.code yX9_figure cX9_figure 3 (some .int) : Cond) ∈ zT := List.mem_of_getElem? (i := 766) (by decide +kernel)
set_option maxRecDepth 100000 in
theorem zm767 : (Cond.methodLink "SurpriseTaxModel" 94 yX9_readTen : Cond) ∈ zT := List.mem_of_getElem? (i := 767) (by decide +kernel)
set_option maxRecDepth 100000 in
theorem zm768 : (Cond.instanceMethod yX9_readTen : Cond) ∈ zT := List.mem_of_getElem? (i := 768) (by decide +kernel)
set_option maxRecDepth 100000 in
theorem zm769 : (Cond.code yX9_readTen cX9_readTen 8 (some .boolean) : Cond) ∈ zT := List.mem_of_getElem? (i := 769) (by decide +kernel)
set_option maxRecDepth 100000 in
theorem zm770 : (Cond.methodLink "SurpriseTaxModel" 118 yX9_readPart : Cond) ∈ zT := List.mem_of_getElem? (i := 770) (by decide +kernel)
set_option maxRecDepth 100000 in
theorem zm771 : (Cond.instanceMethod yX9_readPart : Cond) ∈ zT := List.mem_of_getElem? (i := 771) (by decide +kernel)
set_option maxRecDepth 100000 in
theorem zm772 : (Cond.code yX9_readPart cX9_readPart 4 (some .boolean) : Cond) ∈ zT := List.mem_of_getElem? (i := 772) (by decide +kernel)
set_option maxRecDepth 100000 in
theorem zm773 : (Cond.methodLink "SurpriseTaxModel" 101 yX9_hasOpen : Cond) ∈ zT := List.mem_of_getElem? (i := 773) (by decide +kernel)
set_option maxRecDepth 100000 in
theorem zm774 : (Cond.instanceMethod yX9_hasOpen : Cond) ∈ zT := List.mem_of_getElem? (i := 774) (by decide +kernel)
set_option maxRecDepth 100000 in
theorem zm775 : (Cond.code yX9_hasOpen cX9_hasOpen 3 (some .boolean) : Cond) ∈ zT := List.mem_of_getElem? (i := 775) (by decide +kernel)
set_option maxRecDepth 100000 in
theorem zm776 : (Cond.methodLink "SurpriseTaxModel" 90 yX9_openOf : Cond) ∈ zT := List.mem_of_getElem? (i := 776) (by decide +kernel)
set_option maxRecDepth 100000 in
theorem zm777 : (Cond.instanceMethod yX9_openOf : Cond) ∈ zT := List.mem_of_getElem? (i := 777) (by decide +kernel)
set_option maxRecDepth 100000 in
theorem zm778 : (Cond.code yX9_openOf cX9_openOf 2 (some .int) : Cond) ∈ zT := List.mem_of_getElem? (i := 778) (by decide +kernel)
set_option maxRecDepth 100000 in
theorem zm779 : (Cond.methodLink "SurpriseTaxModel" 105 yX9_has : Cond) ∈ zT := List.mem_of_getElem? (i := 779) (by decide +kernel)
set_option maxRecDepth 100000 in
theorem zm780 : (Cond.static yX9_has : Cond) ∈ zT := List.mem_of_getElem? (i := 780) (by decide +kernel)
set_option maxRecDepth 100000 in
theorem zm781 : (Cond.code yX9_has cX9_has 2 (some .boolean) : Cond) ∈ zT := List.mem_of_getElem? (i := 781) (by decide +kernel)
set_option maxRecDepth 100000 in
theorem zm782 : (Cond.methodLink "SurpriseTaxLaw" 30 yX9_realm : Cond) ∈ zT := List.mem_of_getElem? (i := 782) (by decide +kernel)
set_option maxRecDepth 100000 in
theorem zm783 : (Cond.instanceMethod yX9_realm : Cond) ∈ zT := List.mem_of_getElem? (i := 783) (by decide +kernel)
set_option maxRecDepth 100000 in
theorem zm784 : (Cond.selects "SurpriseTaxModel" yX9_realm yX9_realm : Cond) ∈ zT := List.mem_of_getElem? (i := 784) (by decide +kernel)
set_option maxRecDepth 100000 in
theorem zm785 : (Cond.code yX9_realm cX9_realm 2 (some .int) : Cond) ∈ zT := List.mem_of_getElem? (i := 785) (by decide +kernel)
set_option maxRecDepth 100000 in
theorem zm786 : (Cond.methodLink "SurpriseTaxLaw" 34 yX9_about : Cond) ∈ zT := List.mem_of_getElem? (i := 786) (by decide +kernel)
set_option maxRecDepth 100000 in
theorem zm787 : (Cond.instanceMethod yX9_about : Cond) ∈ zT := List.mem_of_getElem? (i := 787) (by decide +kernel)
set_option maxRecDepth 100000 in
theorem zm788 : (Cond.selects "SurpriseTaxModel" yX9_about yX9_about : Cond) ∈ zT := List.mem_of_getElem? (i := 788) (by decide +kernel)
set_option maxRecDepth 100000 in
theorem zm789 : (Cond.code yX9_about cX9_about 2 (some .int) : Cond) ∈ zT := List.mem_of_getElem? (i := 789) (by decide +kernel)
set_option maxRecDepth 100000 in
theorem zm790 : (Cond.methodLink "SurpriseTaxModel" 140 yX9_debtOf : Cond) ∈ zT := List.mem_of_getElem? (i := 790) (by decide +kernel)
set_option maxRecDepth 100000 in
theorem zm791 : (Cond.instanceMethod yX9_debtOf : Cond) ∈ zT := List.mem_of_getElem? (i := 791) (by decide +kernel)
set_option maxRecDepth 100000 in
theorem zm792 : (Cond.code yX9_debtOf cX9_debtOf 4 (some .int) : Cond) ∈ zT := List.mem_of_getElem? (i := 792) (by decide +kernel)
set_option maxRecDepth 100000 in
theorem zm793 : (Cond.methodLink "SurpriseTaxLaw" 39 yX9_person : Cond) ∈ zT := List.mem_of_getElem? (i := 793) (by decide +kernel)
set_option maxRecDepth 100000 in
theorem zm794 : (Cond.instanceMethod yX9_person : Cond) ∈ zT := List.mem_of_getElem? (i := 794) (by decide +kernel)
set_option maxRecDepth 100000 in
theorem zm795 : (Cond.selects "SurpriseTaxModel" yX9_person yX9_person : Cond) ∈ zT := List.mem_of_getElem? (i := 795) (by decide +kernel)
set_option maxRecDepth 100000 in
theorem zm796 : (Cond.code yX9_person cX9_person 3 (some .int) : Cond) ∈ zT := List.mem_of_getElem? (i := 796) (by decide +kernel)
set_option maxRecDepth 100000 in
theorem zm797 : (Cond.methodLink "SurpriseTaxModel" 147 yX9_noOne : Cond) ∈ zT := List.mem_of_getElem? (i := 797) (by decide +kernel)
set_option maxRecDepth 100000 in
theorem zm798 : (Cond.instanceMethod yX9_noOne : Cond) ∈ zT := List.mem_of_getElem? (i := 798) (by decide +kernel)
set_option maxRecDepth 100000 in
theorem zm799 : (Cond.code yX9_noOne cX9_noOne 2 (some .boolean) : Cond) ∈ zT := List.mem_of_getElem? (i := 799) (by decide +kernel)
set_option maxRecDepth 100000 in
theorem zm800 : (Cond.constantLong "SurpriseTaxModel" 73 3 : Cond) ∈ zT := List.mem_of_getElem? (i := 800) (by decide +kernel)
set_option maxRecDepth 100000 in
theorem zm801 : (Cond.constant "SurpriseTaxModel" 151 100000 : Cond) ∈ zT := List.mem_of_getElem? (i := 801) (by decide +kernel)
set_option maxRecDepth 100000 in
theorem zm802 : (Cond.methodLink "SurpriseTaxLaw" 43 yX9_declare : Cond) ∈ zT := List.mem_of_getElem? (i := 802) (by decide +kernel)
set_option maxRecDepth 100000 in
theorem zm803 : (Cond.instanceMethod yX9_declare : Cond) ∈ zT := List.mem_of_getElem? (i := 803) (by decide +kernel)
set_option maxRecDepth 100000 in
theorem zm804 : (Cond.selects "SurpriseTaxModel" yX9_declare yX9_declare : Cond) ∈ zT := List.mem_of_getElem? (i := 804) (by decide +kernel)
set_option maxRecDepth 100000 in
theorem zm805 : (Cond.code yX9_declare cX9_declare 3 (some .int) : Cond) ∈ zT := List.mem_of_getElem? (i := 805) (by decide +kernel)
set_option maxRecDepth 100000 in
theorem zm806 : (Cond.methodLink "SurpriseTaxModel" 164 yX9_noKind : Cond) ∈ zT := List.mem_of_getElem? (i := 806) (by decide +kernel)
set_option maxRecDepth 100000 in
theorem zm807 : (Cond.static yX9_noKind : Cond) ∈ zT := List.mem_of_getElem? (i := 807) (by decide +kernel)
set_option maxRecDepth 100000 in
theorem zm808 : (Cond.code yX9_noKind cX9_noKind 1 (some .boolean) : Cond) ∈ zT := List.mem_of_getElem? (i := 808) (by decide +kernel)
set_option maxRecDepth 100000 in
theorem zm809 : (Cond.methodLink "SurpriseTaxModel" 167 yX9_note : Cond) ∈ zT := List.mem_of_getElem? (i := 809) (by decide +kernel)
set_option maxRecDepth 100000 in
theorem zm810 : (Cond.instanceMethod yX9_note : Cond) ∈ zT := List.mem_of_getElem? (i := 810) (by decide +kernel)
set_option maxRecDepth 100000 in
theorem zm811 : (Cond.code yX9_note cX9_note 2 none : Cond) ∈ zT := List.mem_of_getElem? (i := 811) (by decide +kernel)
set_option maxRecDepth 100000 in
theorem zm812 : (Cond.methodLink "SurpriseTaxLaw" 47 yX9_tellOn : Cond) ∈ zT := List.mem_of_getElem? (i := 812) (by decide +kernel)
set_option maxRecDepth 100000 in
theorem zm813 : (Cond.instanceMethod yX9_tellOn : Cond) ∈ zT := List.mem_of_getElem? (i := 813) (by decide +kernel)
set_option maxRecDepth 100000 in
theorem zm814 : (Cond.selects "SurpriseTaxModel" yX9_tellOn yX9_tellOn : Cond) ∈ zT := List.mem_of_getElem? (i := 814) (by decide +kernel)
set_option maxRecDepth 100000 in
theorem zm815 : (Cond.code yX9_tellOn cX9_tellOn 4 (some .int) : Cond) ∈ zT := List.mem_of_getElem? (i := 815) (by decide +kernel)
set_option maxRecDepth 100000 in
theorem zm816 : (Cond.methodLink "SurpriseTaxLaw" 51 yX9_event : Cond) ∈ zT := List.mem_of_getElem? (i := 816) (by decide +kernel)
set_option maxRecDepth 100000 in
theorem zm817 : (Cond.instanceMethod yX9_event : Cond) ∈ zT := List.mem_of_getElem? (i := 817) (by decide +kernel)
set_option maxRecDepth 100000 in
theorem zm818 : (Cond.selects "SurpriseTaxModel" yX9_event yX9_event : Cond) ∈ zT := List.mem_of_getElem? (i := 818) (by decide +kernel)
set_option maxRecDepth 100000 in
theorem zm819 : (Cond.code yX9_event cX9_event 2 (some .int) : Cond) ∈ zT := List.mem_of_getElem? (i := 819) (by decide +kernel)
set_option maxRecDepth 100000 in
theorem zm820 : (Cond.methodLink "SurpriseTaxModel" 170 yX9_goEvent : Cond) ∈ zT := List.mem_of_getElem? (i := 820) (by decide +kernel)
set_option maxRecDepth 100000 in
theorem zm821 : (Cond.instanceMethod yX9_goEvent : Cond) ∈ zT := List.mem_of_getElem? (i := 821) (by decide +kernel)
set_option maxRecDepth 100000 in
theorem zm822 : (Cond.code yX9_goEvent cX9_goEvent 6 (some .int) : Cond) ∈ zT := List.mem_of_getElem? (i := 822) (by decide +kernel)
set_option maxRecDepth 100000 in
theorem zm823 : (Cond.methodLink "SurpriseTaxModel" 156 yX9_taxOf : Cond) ∈ zT := List.mem_of_getElem? (i := 823) (by decide +kernel)
set_option maxRecDepth 100000 in
theorem zm824 : (Cond.instanceMethod yX9_taxOf : Cond) ∈ zT := List.mem_of_getElem? (i := 824) (by decide +kernel)
set_option maxRecDepth 100000 in
theorem zm825 : (Cond.code yX9_taxOf cX9_taxOf 5 (some .int) : Cond) ∈ zT := List.mem_of_getElem? (i := 825) (by decide +kernel)
set_option maxRecDepth 100000 in
theorem zm826 : (Cond.methodLink "SurpriseTaxModel" 152 yX9_surprise : Cond) ∈ zT := List.mem_of_getElem? (i := 826) (by decide +kernel)
set_option maxRecDepth 100000 in
theorem zm827 : (Cond.static yX9_surprise : Cond) ∈ zT := List.mem_of_getElem? (i := 827) (by decide +kernel)
set_option maxRecDepth 100000 in
theorem zm828 : (Cond.code yX9_surprise cX9_surprise 6 (some .int) : Cond) ∈ zT := List.mem_of_getElem? (i := 828) (by decide +kernel)
set_option maxRecDepth 100000 in
theorem zm829 : (Cond.methodLink "SurpriseTaxModel" 160 yX9_learn : Cond) ∈ zT := List.mem_of_getElem? (i := 829) (by decide +kernel)
set_option maxRecDepth 100000 in
theorem zm830 : (Cond.static yX9_learn : Cond) ∈ zT := List.mem_of_getElem? (i := 830) (by decide +kernel)
set_option maxRecDepth 100000 in
theorem zm831 : (Cond.code yX9_learn cX9_learn 5 none : Cond) ∈ zT := List.mem_of_getElem? (i := 831) (by decide +kernel)
set_option maxRecDepth 100000 in
theorem zm832 : (Cond.methodLink "SurpriseTaxLaw" 55 yX9_undo : Cond) ∈ zT := List.mem_of_getElem? (i := 832) (by decide +kernel)
set_option maxRecDepth 100000 in
theorem zm833 : (Cond.instanceMethod yX9_undo : Cond) ∈ zT := List.mem_of_getElem? (i := 833) (by decide +kernel)
set_option maxRecDepth 100000 in
theorem zm834 : (Cond.selects "SurpriseTaxModel" yX9_undo yX9_undo : Cond) ∈ zT := List.mem_of_getElem? (i := 834) (by decide +kernel)
set_option maxRecDepth 100000 in
theorem zm835 : (Cond.code yX9_undo cX9_undo 2 (some .int) : Cond) ∈ zT := List.mem_of_getElem? (i := 835) (by decide +kernel)
set_option maxRecDepth 100000 in
theorem zm836 : (Cond.methodLink "SurpriseTaxLaw" 59 yX9_tax : Cond) ∈ zT := List.mem_of_getElem? (i := 836) (by decide +kernel)
set_option maxRecDepth 100000 in
theorem zm837 : (Cond.instanceMethod yX9_tax : Cond) ∈ zT := List.mem_of_getElem? (i := 837) (by decide +kernel)
set_option maxRecDepth 100000 in
theorem zm838 : (Cond.selects "SurpriseTaxModel" yX9_tax yX9_tax : Cond) ∈ zT := List.mem_of_getElem? (i := 838) (by decide +kernel)
set_option maxRecDepth 100000 in
theorem zm839 : (Cond.code yX9_tax cX9_tax 3 (some .int) : Cond) ∈ zT := List.mem_of_getElem? (i := 839) (by decide +kernel)
set_option maxRecDepth 100000 in
theorem zm840 : (Cond.methodLink "SurpriseTaxLaw" 64 yX9_mean : Cond) ∈ zT := List.mem_of_getElem? (i := 840) (by decide +kernel)
set_option maxRecDepth 100000 in
theorem zm841 : (Cond.instanceMethod yX9_mean : Cond) ∈ zT := List.mem_of_getElem? (i := 841) (by decide +kernel)
set_option maxRecDepth 100000 in
theorem zm842 : (Cond.selects "SurpriseTaxModel" yX9_mean yX9_mean : Cond) ∈ zT := List.mem_of_getElem? (i := 842) (by decide +kernel)
set_option maxRecDepth 100000 in
theorem zm843 : (Cond.code yX9_mean cX9_mean 3 (some .int) : Cond) ∈ zT := List.mem_of_getElem? (i := 843) (by decide +kernel)
set_option maxRecDepth 100000 in
theorem zm844 : (Cond.methodLink "SurpriseTaxModel" 177 yX9_tenMean : Cond) ∈ zT := List.mem_of_getElem? (i := 844) (by decide +kernel)
set_option maxRecDepth 100000 in
theorem zm845 : (Cond.instanceMethod yX9_tenMean : Cond) ∈ zT := List.mem_of_getElem? (i := 845) (by decide +kernel)
set_option maxRecDepth 100000 in
theorem zm846 : (Cond.code yX9_tenMean cX9_tenMean 6 (some .int) : Cond) ∈ zT := List.mem_of_getElem? (i := 846) (by decide +kernel)
set_option maxRecDepth 100000 in
theorem zm847 : (Cond.methodLink "SurpriseTaxModel" 180 yX9_fraction : Cond) ∈ zT := List.mem_of_getElem? (i := 847) (by decide +kernel)
set_option maxRecDepth 100000 in
theorem zm848 : (Cond.static yX9_fraction : Cond) ∈ zT := List.mem_of_getElem? (i := 848) (by decide +kernel)
set_option maxRecDepth 100000 in
theorem zm849 : (Cond.code yX9_fraction cX9_fraction 4 (some .int) : Cond) ∈ zT := List.mem_of_getElem? (i := 849) (by decide +kernel)
set_option maxRecDepth 100000 in
theorem zm850 : (Cond.methodLink "SurpriseTaxModel" 174 yX9_divisor : Cond) ∈ zT := List.mem_of_getElem? (i := 850) (by decide +kernel)
set_option maxRecDepth 100000 in
theorem zm851 : (Cond.static yX9_divisor : Cond) ∈ zT := List.mem_of_getElem? (i := 851) (by decide +kernel)
set_option maxRecDepth 100000 in
theorem zm852 : (Cond.code yX9_divisor cX9_divisor 5 (some .int) : Cond) ∈ zT := List.mem_of_getElem? (i := 852) (by decide +kernel)
set_option maxRecDepth 100000 in
theorem zm853 : (Cond.methodLink "SurpriseTaxLaw" 68 yX9_counsel : Cond) ∈ zT := List.mem_of_getElem? (i := 853) (by decide +kernel)
set_option maxRecDepth 100000 in
theorem zm854 : (Cond.instanceMethod yX9_counsel : Cond) ∈ zT := List.mem_of_getElem? (i := 854) (by decide +kernel)
set_option maxRecDepth 100000 in
theorem zm855 : (Cond.selects "SurpriseTaxModel" yX9_counsel yX9_counsel : Cond) ∈ zT := List.mem_of_getElem? (i := 855) (by decide +kernel)
set_option maxRecDepth 100000 in
theorem zm856 : (Cond.code yX9_counsel cX9_counsel 2 (some .int) : Cond) ∈ zT := List.mem_of_getElem? (i := 856) (by decide +kernel)
set_option maxRecDepth 100000 in
theorem zm857 : (Cond.methodLink "SurpriseTaxModel" 184 yX9_counselOf : Cond) ∈ zT := List.mem_of_getElem? (i := 857) (by decide +kernel)
set_option maxRecDepth 100000 in
theorem zm858 : (Cond.instanceMethod yX9_counselOf : Cond) ∈ zT := List.mem_of_getElem? (i := 858) (by decide +kernel)
set_option maxRecDepth 100000 in
theorem zm859 : (Cond.code yX9_counselOf cX9_counselOf 6 (some .int) : Cond) ∈ zT := List.mem_of_getElem? (i := 859) (by decide +kernel)
set_option maxRecDepth 100000 in
theorem zm860 : (Cond.methodLink "SurpriseTaxLaw" 73 yX9_least : Cond) ∈ zT := List.mem_of_getElem? (i := 860) (by decide +kernel)
set_option maxRecDepth 100000 in
theorem zm861 : (Cond.instanceMethod yX9_least : Cond) ∈ zT := List.mem_of_getElem? (i := 861) (by decide +kernel)
set_option maxRecDepth 100000 in
theorem zm862 : (Cond.selects "SurpriseTaxModel" yX9_least yX9_least : Cond) ∈ zT := List.mem_of_getElem? (i := 862) (by decide +kernel)
set_option maxRecDepth 100000 in
theorem zm863 : (Cond.code yX9_least cX9_least 6 (some .int) : Cond) ∈ zT := List.mem_of_getElem? (i := 863) (by decide +kernel)
set_option maxRecDepth 100000 in
theorem zm864 : (Cond.methodLink "SurpriseTaxModel" 187 yX9_four : Cond) ∈ zT := List.mem_of_getElem? (i := 864) (by decide +kernel)
set_option maxRecDepth 100000 in
theorem zm865 : (Cond.static yX9_four : Cond) ∈ zT := List.mem_of_getElem? (i := 865) (by decide +kernel)
set_option maxRecDepth 100000 in
theorem zm866 : (Cond.code yX9_four cX9_four 1 (some .int) : Cond) ∈ zT := List.mem_of_getElem? (i := 866) (by decide +kernel)
set_option maxRecDepth 100000 in
theorem zm867 : (Cond.methodLink "SurpriseTaxModel" 193 yX9_layBehind : Cond) ∈ zT := List.mem_of_getElem? (i := 867) (by decide +kernel)
set_option maxRecDepth 100000 in
theorem zm868 : (Cond.instanceMethod yX9_layBehind : Cond) ∈ zT := List.mem_of_getElem? (i := 868) (by decide +kernel)
set_option maxRecDepth 100000 in
theorem zm869 : (Cond.code yX9_layBehind cX9_layBehind 5 none : Cond) ∈ zT := List.mem_of_getElem? (i := 869) (by decide +kernel)
set_option maxRecDepth 100000 in
theorem zm870 : (Cond.methodLink "SurpriseTaxModel" 197 yX9_dayOf : Cond) ∈ zT := List.mem_of_getElem? (i := 870) (by decide +kernel)
set_option maxRecDepth 100000 in
theorem zm871 : (Cond.instanceMethod yX9_dayOf : Cond) ∈ zT := List.mem_of_getElem? (i := 871) (by decide +kernel)
set_option maxRecDepth 100000 in
theorem zm872 : (Cond.code yX9_dayOf cX9_dayOf 12 (some .int) : Cond) ∈ zT := List.mem_of_getElem? (i := 872) (by decide +kernel)
set_option maxRecDepth 100000 in
theorem zm873 : (Cond.methodLink "SurpriseTaxModel" 190 yX9_ten : Cond) ∈ zT := List.mem_of_getElem? (i := 873) (by decide +kernel)
set_option maxRecDepth 100000 in
theorem zm874 : (Cond.static yX9_ten : Cond) ∈ zT := List.mem_of_getElem? (i := 874) (by decide +kernel)
set_option maxRecDepth 100000 in
theorem zm875 : (Cond.code yX9_ten cX9_ten 3 (some .int) : Cond) ∈ zT := List.mem_of_getElem? (i := 875) (by decide +kernel)
set_option maxRecDepth 100000 in
theorem zm876 : (Cond.methodLink "SurpriseTaxLaw" 77 yX9_joke : Cond) ∈ zT := List.mem_of_getElem? (i := 876) (by decide +kernel)
set_option maxRecDepth 100000 in
theorem zm877 : (Cond.instanceMethod yX9_joke : Cond) ∈ zT := List.mem_of_getElem? (i := 877) (by decide +kernel)
set_option maxRecDepth 100000 in
theorem zm878 : (Cond.selects "SurpriseTaxModel" yX9_joke yX9_joke : Cond) ∈ zT := List.mem_of_getElem? (i := 878) (by decide +kernel)
set_option maxRecDepth 100000 in
theorem zm879 : (Cond.code yX9_joke cX9_joke 3 (some .int) : Cond) ∈ zT := List.mem_of_getElem? (i := 879) (by decide +kernel)
set_option maxRecDepth 100000 in
theorem zm880 : (Cond.constantLong "SurpriseTaxModel" 207 4 : Cond) ∈ zT := List.mem_of_getElem? (i := 880) (by decide +kernel)
set_option maxRecDepth 100000 in
theorem zm881 : (Cond.methodLink "SurpriseTaxModel" 209 yX9_findJoke : Cond) ∈ zT := List.mem_of_getElem? (i := 881) (by decide +kernel)
set_option maxRecDepth 100000 in
theorem zm882 : (Cond.instanceMethod yX9_findJoke : Cond) ∈ zT := List.mem_of_getElem? (i := 882) (by decide +kernel)
set_option maxRecDepth 100000 in
theorem zm883 : (Cond.code yX9_findJoke cX9_findJoke 9 (some .int) : Cond) ∈ zT := List.mem_of_getElem? (i := 883) (by decide +kernel)
set_option maxRecDepth 100000 in
theorem zm884 : (Cond.methodLink "SurpriseTaxModel" 201 yX9_begin : Cond) ∈ zT := List.mem_of_getElem? (i := 884) (by decide +kernel)
set_option maxRecDepth 100000 in
theorem zm885 : (Cond.instanceMethod yX9_begin : Cond) ∈ zT := List.mem_of_getElem? (i := 885) (by decide +kernel)
set_option maxRecDepth 100000 in
theorem zm886 : (Cond.code yX9_begin cX9_begin 2 none : Cond) ∈ zT := List.mem_of_getElem? (i := 886) (by decide +kernel)
set_option maxRecDepth 100000 in
theorem zm887 : (Cond.methodLink "SurpriseTaxLaw" 82 yX9_jokeAt : Cond) ∈ zT := List.mem_of_getElem? (i := 887) (by decide +kernel)
set_option maxRecDepth 100000 in
theorem zm888 : (Cond.instanceMethod yX9_jokeAt : Cond) ∈ zT := List.mem_of_getElem? (i := 888) (by decide +kernel)
set_option maxRecDepth 100000 in
theorem zm889 : (Cond.selects "SurpriseTaxModel" yX9_jokeAt yX9_jokeAt : Cond) ∈ zT := List.mem_of_getElem? (i := 889) (by decide +kernel)
set_option maxRecDepth 100000 in
theorem zm890 : (Cond.code yX9_jokeAt cX9_jokeAt 4 (some .int) : Cond) ∈ zT := List.mem_of_getElem? (i := 890) (by decide +kernel)
set_option maxRecDepth 100000 in
theorem zm891 : (Cond.methodLink "SurpriseTaxLaw" 86 yX9_broke : Cond) ∈ zT := List.mem_of_getElem? (i := 891) (by decide +kernel)
set_option maxRecDepth 100000 in
theorem zm892 : (Cond.instanceMethod yX9_broke : Cond) ∈ zT := List.mem_of_getElem? (i := 892) (by decide +kernel)
set_option maxRecDepth 100000 in
theorem zm893 : (Cond.selects "SurpriseTaxModel" yX9_broke yX9_broke : Cond) ∈ zT := List.mem_of_getElem? (i := 893) (by decide +kernel)
set_option maxRecDepth 100000 in
theorem zm894 : (Cond.code yX9_broke cX9_broke 3 (some .int) : Cond) ∈ zT := List.mem_of_getElem? (i := 894) (by decide +kernel)
set_option maxRecDepth 100000 in
theorem zm895 : (Cond.methodLink "SurpriseTaxLaw" 90 yX9_reform : Cond) ∈ zT := List.mem_of_getElem? (i := 895) (by decide +kernel)
set_option maxRecDepth 100000 in
theorem zm896 : (Cond.instanceMethod yX9_reform : Cond) ∈ zT := List.mem_of_getElem? (i := 896) (by decide +kernel)
set_option maxRecDepth 100000 in
theorem zm897 : (Cond.selects "SurpriseTaxModel" yX9_reform yX9_reform : Cond) ∈ zT := List.mem_of_getElem? (i := 897) (by decide +kernel)
set_option maxRecDepth 100000 in
theorem zm898 : (Cond.code yX9_reform cX9_reform 8 (some .int) : Cond) ∈ zT := List.mem_of_getElem? (i := 898) (by decide +kernel)
set_option maxRecDepth 100000 in
theorem zm899 : (Cond.methodLink "SurpriseTaxModel" 212 yX9_apart : Cond) ∈ zT := List.mem_of_getElem? (i := 899) (by decide +kernel)
set_option maxRecDepth 100000 in
theorem zm900 : (Cond.static yX9_apart : Cond) ∈ zT := List.mem_of_getElem? (i := 900) (by decide +kernel)
set_option maxRecDepth 100000 in
theorem zm901 : (Cond.code yX9_apart cX9_apart 2 (some .int) : Cond) ∈ zT := List.mem_of_getElem? (i := 901) (by decide +kernel)
set_option maxRecDepth 100000 in
theorem zm902 : (Cond.methodLink "SurpriseTaxLaw" 94 yX9_roll : Cond) ∈ zT := List.mem_of_getElem? (i := 902) (by decide +kernel)
set_option maxRecDepth 100000 in
theorem zm903 : (Cond.instanceMethod yX9_roll : Cond) ∈ zT := List.mem_of_getElem? (i := 903) (by decide +kernel)
set_option maxRecDepth 100000 in
theorem zm904 : (Cond.selects "SurpriseTaxModel" yX9_roll yX9_roll : Cond) ∈ zT := List.mem_of_getElem? (i := 904) (by decide +kernel)
set_option maxRecDepth 100000 in
theorem zm905 : (Cond.code yX9_roll cX9_roll 3 (some .int) : Cond) ∈ zT := List.mem_of_getElem? (i := 905) (by decide +kernel)
set_option maxRecDepth 100000 in
theorem zm906 : (Cond.constantLong "SurpriseTaxModel" 215 99 : Cond) ∈ zT := List.mem_of_getElem? (i := 906) (by decide +kernel)
set_option maxRecDepth 100000 in
theorem zm907 : (Cond.methodLink "SurpriseTaxLaw" 98 yX9_unroll : Cond) ∈ zT := List.mem_of_getElem? (i := 907) (by decide +kernel)
set_option maxRecDepth 100000 in
theorem zm908 : (Cond.instanceMethod yX9_unroll : Cond) ∈ zT := List.mem_of_getElem? (i := 908) (by decide +kernel)
set_option maxRecDepth 100000 in
theorem zm909 : (Cond.selects "SurpriseTaxModel" yX9_unroll yX9_unroll : Cond) ∈ zT := List.mem_of_getElem? (i := 909) (by decide +kernel)
set_option maxRecDepth 100000 in
theorem zm910 : (Cond.code yX9_unroll cX9_unroll 2 (some .int) : Cond) ∈ zT := List.mem_of_getElem? (i := 910) (by decide +kernel)
set_option maxRecDepth 100000 in
theorem zm911 : (Cond.methodLink "SurpriseTaxLaw" 102 yX9_tales : Cond) ∈ zT := List.mem_of_getElem? (i := 911) (by decide +kernel)
set_option maxRecDepth 100000 in
theorem zm912 : (Cond.instanceMethod yX9_tales : Cond) ∈ zT := List.mem_of_getElem? (i := 912) (by decide +kernel)
set_option maxRecDepth 100000 in
theorem zm913 : (Cond.selects "SurpriseTaxModel" yX9_tales yX9_tales : Cond) ∈ zT := List.mem_of_getElem? (i := 913) (by decide +kernel)
set_option maxRecDepth 100000 in
theorem zm914 : (Cond.code yX9_tales cX9_tales 12 (some .int) : Cond) ∈ zT := List.mem_of_getElem? (i := 914) (by decide +kernel)
set_option maxRecDepth 100000 in
theorem zm915 : (Cond.constantLong "SurpriseTaxModel" 217 2 : Cond) ∈ zT := List.mem_of_getElem? (i := 915) (by decide +kernel)
set_option maxRecDepth 100000 in
theorem zm916 : (Cond.methodLink "SurpriseTaxLaw" 107 yX9_school : Cond) ∈ zT := List.mem_of_getElem? (i := 916) (by decide +kernel)
set_option maxRecDepth 100000 in
theorem zm917 : (Cond.instanceMethod yX9_school : Cond) ∈ zT := List.mem_of_getElem? (i := 917) (by decide +kernel)
set_option maxRecDepth 100000 in
theorem zm918 : (Cond.selects "SurpriseTaxModel" yX9_school yX9_school : Cond) ∈ zT := List.mem_of_getElem? (i := 918) (by decide +kernel)
set_option maxRecDepth 100000 in
theorem zm919 : (Cond.code yX9_school cX9_school 9 (some .int) : Cond) ∈ zT := List.mem_of_getElem? (i := 919) (by decide +kernel)
set_option maxRecDepth 100000 in
theorem zm920 : (Cond.constantLong "SurpriseTaxModel" 219 8 : Cond) ∈ zT := List.mem_of_getElem? (i := 920) (by decide +kernel)
set_option maxRecDepth 100000 in
theorem zm921 : (Cond.methodLink "SurpriseTaxLaw" 111 yX9_braced : Cond) ∈ zT := List.mem_of_getElem? (i := 921) (by decide +kernel)
set_option maxRecDepth 100000 in
theorem zm922 : (Cond.instanceMethod yX9_braced : Cond) ∈ zT := List.mem_of_getElem? (i := 922) (by decide +kernel)
set_option maxRecDepth 100000 in
theorem zm923 : (Cond.selects "SurpriseTaxModel" yX9_braced yX9_braced : Cond) ∈ zT := List.mem_of_getElem? (i := 923) (by decide +kernel)
set_option maxRecDepth 100000 in
theorem zm924 : (Cond.code yX9_braced cX9_braced 8 (some .int) : Cond) ∈ zT := List.mem_of_getElem? (i := 924) (by decide +kernel)
set_option maxRecDepth 100000 in
theorem zm925 : (Cond.methodLink "SurpriseTaxModel" 221 yX9_many : Cond) ∈ zT := List.mem_of_getElem? (i := 925) (by decide +kernel)
set_option maxRecDepth 100000 in
theorem zm926 : (Cond.static yX9_many : Cond) ∈ zT := List.mem_of_getElem? (i := 926) (by decide +kernel)
set_option maxRecDepth 100000 in
theorem zm927 : (Cond.code yX9_many cX9_many 3 (some .int) : Cond) ∈ zT := List.mem_of_getElem? (i := 927) (by decide +kernel)
set_option maxRecDepth 100000 in
theorem zm928 : (Cond.methodLink "SurpriseTaxLaw" 115 yX9_fair : Cond) ∈ zT := List.mem_of_getElem? (i := 928) (by decide +kernel)
set_option maxRecDepth 100000 in
theorem zm929 : (Cond.instanceMethod yX9_fair : Cond) ∈ zT := List.mem_of_getElem? (i := 929) (by decide +kernel)
set_option maxRecDepth 100000 in
theorem zm930 : (Cond.selects "SurpriseTaxModel" yX9_fair yX9_fair : Cond) ∈ zT := List.mem_of_getElem? (i := 930) (by decide +kernel)
set_option maxRecDepth 100000 in
theorem zm931 : (Cond.code yX9_fair cX9_fair 4 (some .int) : Cond) ∈ zT := List.mem_of_getElem? (i := 931) (by decide +kernel)
set_option maxRecDepth 100000 in
theorem zm932 : (Cond.constantLong "SurpriseTaxModel" 224 9 : Cond) ∈ zT := List.mem_of_getElem? (i := 932) (by decide +kernel)
set_option maxRecDepth 100000 in
theorem zm933 : (Cond.methodLink "SurpriseTaxLaw" 119 yX9_courier : Cond) ∈ zT := List.mem_of_getElem? (i := 933) (by decide +kernel)
set_option maxRecDepth 100000 in
theorem zm934 : (Cond.instanceMethod yX9_courier : Cond) ∈ zT := List.mem_of_getElem? (i := 934) (by decide +kernel)
set_option maxRecDepth 100000 in
theorem zm935 : (Cond.selects "SurpriseTaxModel" yX9_courier yX9_courier : Cond) ∈ zT := List.mem_of_getElem? (i := 935) (by decide +kernel)
set_option maxRecDepth 100000 in
theorem zm936 : (Cond.code yX9_courier cX9_courier 3 (some .int) : Cond) ∈ zT := List.mem_of_getElem? (i := 936) (by decide +kernel)
set_option maxRecDepth 100000 in
theorem zm937 : (Cond.methodLink "SurpriseTaxLaw" 126 yX9_seed : Cond) ∈ zT := List.mem_of_getElem? (i := 937) (by decide +kernel)
set_option maxRecDepth 100000 in
theorem zm938 : (Cond.instanceMethod yX9_seed : Cond) ∈ zT := List.mem_of_getElem? (i := 938) (by decide +kernel)
set_option maxRecDepth 100000 in
theorem zm939 : (Cond.selects "SurpriseTaxModel" yX9_seed yX9_seed : Cond) ∈ zT := List.mem_of_getElem? (i := 939) (by decide +kernel)
set_option maxRecDepth 100000 in
theorem zm940 : (Cond.code yX9_seed cX9_seed 5 (some .long) : Cond) ∈ zT := List.mem_of_getElem? (i := 940) (by decide +kernel)
set_option maxRecDepth 100000 in
theorem zm941 : (Cond.methodLink "SurpriseTaxLaw" 130 yX9_week : Cond) ∈ zT := List.mem_of_getElem? (i := 941) (by decide +kernel)
set_option maxRecDepth 100000 in
theorem zm942 : (Cond.instanceMethod yX9_week : Cond) ∈ zT := List.mem_of_getElem? (i := 942) (by decide +kernel)
set_option maxRecDepth 100000 in
theorem zm943 : (Cond.selects "SurpriseTaxModel" yX9_week yX9_week : Cond) ∈ zT := List.mem_of_getElem? (i := 943) (by decide +kernel)
set_option maxRecDepth 100000 in
theorem zm944 : (Cond.code yX9_week cX9_week 5 (some .int) : Cond) ∈ zT := List.mem_of_getElem? (i := 944) (by decide +kernel)
set_option maxRecDepth 100000 in
theorem zm945 : (Cond.constantLong "SurpriseTaxModel" 230 30 : Cond) ∈ zT := List.mem_of_getElem? (i := 945) (by decide +kernel)
set_option maxRecDepth 100000 in
theorem zm946 : (Cond.constantLong "SurpriseTaxModel" 232 6364136223846793005 : Cond) ∈ zT := List.mem_of_getElem? (i := 946) (by decide +kernel)
set_option maxRecDepth 100000 in
theorem zm947 : (Cond.constantLong "SurpriseTaxModel" 234 1442695040888963407 : Cond) ∈ zT := List.mem_of_getElem? (i := 947) (by decide +kernel)
set_option maxRecDepth 100000 in
theorem zm948 : (Cond.constantLong "SurpriseTaxModel" 236 10 : Cond) ∈ zT := List.mem_of_getElem? (i := 948) (by decide +kernel)
set_option maxRecDepth 100000 in
theorem zm949 : (Cond.constant "SurpriseTaxModel" 238 1000000 : Cond) ∈ zT := List.mem_of_getElem? (i := 949) (by decide +kernel)
set_option maxRecDepth 100000 in
theorem zm950 : (Cond.methodLink "SurpriseTaxLaw" 134 yX9_keep : Cond) ∈ zT := List.mem_of_getElem? (i := 950) (by decide +kernel)
set_option maxRecDepth 100000 in
theorem zm951 : (Cond.instanceMethod yX9_keep : Cond) ∈ zT := List.mem_of_getElem? (i := 951) (by decide +kernel)
set_option maxRecDepth 100000 in
theorem zm952 : (Cond.selects "SurpriseTaxModel" yX9_keep yX9_keep : Cond) ∈ zT := List.mem_of_getElem? (i := 952) (by decide +kernel)
set_option maxRecDepth 100000 in
theorem zm953 : (Cond.code yX9_keep cX9_keep 3 (some .int) : Cond) ∈ zT := List.mem_of_getElem? (i := 953) (by decide +kernel)
set_option maxRecDepth 100000 in
theorem zm954 : (Cond.methodLink "SurpriseTaxLaw" 138 yX9_again : Cond) ∈ zT := List.mem_of_getElem? (i := 954) (by decide +kernel)
set_option maxRecDepth 100000 in
theorem zm955 : (Cond.instanceMethod yX9_again : Cond) ∈ zT := List.mem_of_getElem? (i := 955) (by decide +kernel)
set_option maxRecDepth 100000 in
theorem zm956 : (Cond.selects "SurpriseTaxModel" yX9_again yX9_again : Cond) ∈ zT := List.mem_of_getElem? (i := 956) (by decide +kernel)
set_option maxRecDepth 100000 in
theorem zm957 : (Cond.code yX9_again cX9_again 3 (some .int) : Cond) ∈ zT := List.mem_of_getElem? (i := 957) (by decide +kernel)
set_option maxRecDepth 100000 in
theorem zm958 : (Cond.constantLong "SurpriseTaxLaw" 120 4294967295 : Cond) ∈ zT := List.mem_of_getElem? (i := 958) (by decide +kernel)
set_option maxRecDepth 100000 in
theorem zn0 : (Cond.methodLinkNest "SurpriseTax" 9 yX7_init "SurpriseTax" : Cond) ∈ zN := List.mem_of_getElem? (i := 0) (by decide +kernel)
set_option maxRecDepth 100000 in
theorem zn1 : (Cond.methodLinkNest "SurpriseTax" 18 yX3_init "SurpriseTax" : Cond) ∈ zN := List.mem_of_getElem? (i := 1) (by decide +kernel)
set_option maxRecDepth 100000 in
theorem zn2 : (Cond.fieldLinkNest "SurpriseTax" 75 "SurpriseTax$Realm" "odds" "[I" "SurpriseTax" : Cond) ∈ zN := List.mem_of_getElem? (i := 2) (by decide +kernel)
set_option maxRecDepth 100000 in
theorem zn3 : (Cond.fieldLinkNest "SurpriseTax$Advice" 41 "SurpriseTax$Realm" "odds" "[I" "SurpriseTax" : Cond) ∈ zN := List.mem_of_getElem? (i := 3) (by decide +kernel)
set_option maxRecDepth 100000 in
theorem zn4 : (Cond.fieldLinkNest "SurpriseTax$Text" 66 "SurpriseTax$Realm" "odds" "[I" "SurpriseTax" : Cond) ∈ zN := List.mem_of_getElem? (i := 4) (by decide +kernel)
set_option maxRecDepth 100000 in
theorem zn5 : (Cond.fieldLinkNest "SurpriseTax" 142 "SurpriseTax$Realm" "nerve" "[I" "SurpriseTax" : Cond) ∈ zN := List.mem_of_getElem? (i := 5) (by decide +kernel)
set_option maxRecDepth 100000 in
theorem zn6 : (Cond.fieldLinkNest "SurpriseTax$Text" 90 "SurpriseTax$Realm" "nerve" "[I" "SurpriseTax" : Cond) ∈ zN := List.mem_of_getElem? (i := 6) (by decide +kernel)
set_option maxRecDepth 100000 in
theorem zn7 : (Cond.fieldLinkNest "SurpriseTax" 151 "SurpriseTax$Realm" "roads" "[I" "SurpriseTax" : Cond) ∈ zN := List.mem_of_getElem? (i := 7) (by decide +kernel)
set_option maxRecDepth 100000 in
theorem zn8 : (Cond.fieldLinkNest "SurpriseTax$Text" 54 "SurpriseTax$Realm" "rate" "I" "SurpriseTax" : Cond) ∈ zN := List.mem_of_getElem? (i := 8) (by decide +kernel)
set_option maxRecDepth 100000 in
theorem zn9 : (Cond.fieldLinkNest "SurpriseTax" 100 "SurpriseTax$Realm" "rate" "I" "SurpriseTax" : Cond) ∈ zN := List.mem_of_getElem? (i := 9) (by decide +kernel)
set_option maxRecDepth 100000 in
theorem zn10 : (Cond.fieldLinkNest "SurpriseTax$Foresight" 59 "SurpriseTax$Realm" "rate" "I" "SurpriseTax" : Cond) ∈ zN := List.mem_of_getElem? (i := 10) (by decide +kernel)
set_option maxRecDepth 100000 in
theorem zn11 : (Cond.fieldLinkNest "SurpriseTax$Text" 57 "SurpriseTax$Realm" "free" "I" "SurpriseTax" : Cond) ∈ zN := List.mem_of_getElem? (i := 11) (by decide +kernel)
set_option maxRecDepth 100000 in
theorem zn12 : (Cond.fieldLinkNest "SurpriseTax" 103 "SurpriseTax$Realm" "free" "I" "SurpriseTax" : Cond) ∈ zN := List.mem_of_getElem? (i := 12) (by decide +kernel)
set_option maxRecDepth 100000 in
theorem zn13 : (Cond.fieldLinkNest "SurpriseTax$Foresight" 67 "SurpriseTax$Realm" "free" "I" "SurpriseTax" : Cond) ∈ zN := List.mem_of_getElem? (i := 13) (by decide +kernel)
set_option maxRecDepth 100000 in
theorem zn14 : (Cond.fieldLinkNest "SurpriseTax$Text" 60 "SurpriseTax$Realm" "price" "I" "SurpriseTax" : Cond) ∈ zN := List.mem_of_getElem? (i := 14) (by decide +kernel)
set_option maxRecDepth 100000 in
theorem zn15 : (Cond.fieldLinkNest "SurpriseTax" 106 "SurpriseTax$Realm" "price" "I" "SurpriseTax" : Cond) ∈ zN := List.mem_of_getElem? (i := 15) (by decide +kernel)
set_option maxRecDepth 100000 in
theorem zn16 : (Cond.fieldLinkNest "SurpriseTax$Advice" 66 "SurpriseTax$Realm" "price" "I" "SurpriseTax" : Cond) ∈ zN := List.mem_of_getElem? (i := 16) (by decide +kernel)
set_option maxRecDepth 100000 in
theorem zn17 : (Cond.fieldLinkNest "SurpriseTax$Foresight" 32 "SurpriseTax$Realm" "people" "I" "SurpriseTax" : Cond) ∈ zN := List.mem_of_getElem? (i := 17) (by decide +kernel)
set_option maxRecDepth 100000 in
theorem zn18 : (Cond.fieldLinkNest "SurpriseTax" 96 "SurpriseTax$Realm" "people" "I" "SurpriseTax" : Cond) ∈ zN := List.mem_of_getElem? (i := 18) (by decide +kernel)
set_option maxRecDepth 100000 in
theorem zn19 : (Cond.fieldLinkNest "SurpriseTax$Text" 69 "SurpriseTax$Realm" "people" "I" "SurpriseTax" : Cond) ∈ zN := List.mem_of_getElem? (i := 19) (by decide +kernel)
set_option maxRecDepth 100000 in
theorem zn20 : (Cond.fieldLinkNest "SurpriseTax$Rolls" 31 "SurpriseTax$Realm" "people" "I" "SurpriseTax" : Cond) ∈ zN := List.mem_of_getElem? (i := 20) (by decide +kernel)
set_option maxRecDepth 100000 in
theorem zn21 : (Cond.fieldLinkNest "SurpriseTax" 119 "SurpriseTax$Realm" "roadCount" "I" "SurpriseTax" : Cond) ∈ zN := List.mem_of_getElem? (i := 21) (by decide +kernel)
set_option maxRecDepth 100000 in
theorem zn22 : (Cond.methodLinkNest "SurpriseTax" 38 yX0_init "SurpriseTax" : Cond) ∈ zN := List.mem_of_getElem? (i := 22) (by decide +kernel)
set_option maxRecDepth 100000 in
theorem zn23 : (Cond.methodLinkNest "SurpriseTax" 45 yX5_init "SurpriseTax" : Cond) ∈ zN := List.mem_of_getElem? (i := 23) (by decide +kernel)
set_option maxRecDepth 100000 in
theorem zn24 : (Cond.methodLinkNest "SurpriseTax" 52 yX4_init "SurpriseTax" : Cond) ∈ zN := List.mem_of_getElem? (i := 24) (by decide +kernel)
set_option maxRecDepth 100000 in
theorem zn25 : (Cond.methodLinkNest "SurpriseTax" 59 yX1_init "SurpriseTax" : Cond) ∈ zN := List.mem_of_getElem? (i := 25) (by decide +kernel)
set_option maxRecDepth 100000 in
theorem zn26 : (Cond.methodLinkNest "SurpriseTax" 66 yX2_init "SurpriseTax" : Cond) ∈ zN := List.mem_of_getElem? (i := 26) (by decide +kernel)
set_option maxRecDepth 100000 in
theorem zn27 : (Cond.methodLinkNest "SurpriseTax$Advice" 33 yX8_power "SurpriseTax" : Cond) ∈ zN := List.mem_of_getElem? (i := 27) (by decide +kernel)
set_option maxRecDepth 100000 in
theorem zn28 : (Cond.methodLinkNest "SurpriseTax$Advice" 51 yX8_kindAt "SurpriseTax" : Cond) ∈ zN := List.mem_of_getElem? (i := 28) (by decide +kernel)
set_option maxRecDepth 100000 in
theorem zn29 : (Cond.methodLinkNest "SurpriseTax$Foresight" 39 yX8_power "SurpriseTax" : Cond) ∈ zN := List.mem_of_getElem? (i := 29) (by decide +kernel)
set_option maxRecDepth 100000 in
theorem zn30 : (Cond.methodLinkNest "SurpriseTax$Foresight" 47 yX8_kindAt "SurpriseTax" : Cond) ∈ zN := List.mem_of_getElem? (i := 30) (by decide +kernel)
set_option maxRecDepth 100000 in
theorem zn31 : (Cond.methodLinkNest "SurpriseTax$Foresight" 77 yX8_figureAt "SurpriseTax" : Cond) ∈ zN := List.mem_of_getElem? (i := 31) (by decide +kernel)
