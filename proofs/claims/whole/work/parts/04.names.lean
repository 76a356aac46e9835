def xF0 : u_T := fun k => match k with
  | 0 => ("TamerState$Deeds", "told", "[I", true)
  | _ => ("TamerState$Deeds", "size", "I", false)
def xF1 : u_T := fun k => match k with
  | 0 => ("TamerState$Log", "scenes", "[I", true)
  | 1 => ("TamerState$Log", "kinds", "[I", true)
  | 2 => ("TamerState$Log", "next", "I", false)
  | _ => ("TamerState$Log", "size", "I", false)
def xF2 : u_T := fun k => match k with
  | 0 => ("TamerState$Machine", "stack", "[J", true)
  | _ => ("TamerState$Machine", "top", "I", false)
def xF3 : u_T := fun k => match k with
  | 0 => ("TamerState$Parser", "tape", "LTamerState$Tape;", true)
  | 1 => ("TamerState$Parser", "program", "LTamerState$Program;", true)
  | 2 => ("TamerState$Parser", "tokens", "[I", true)
  | 3 => ("TamerState$Parser", "places", "[I", true)
  | 4 => ("TamerState$Parser", "asOrders", "Z", false)
  | 5 => ("TamerState$Parser", "current", "I", false)
  | 6 => ("TamerState$Parser", "token", "I", false)
  | 7 => ("TamerState$Parser", "parts", "I", false)
  | _ => ("TamerState$Parser", "faultPlace", "I", false)
def xF4 : u_T := fun k => match k with
  | 0 => ("TamerState$Plans", "rules", "LTamerState$Rules;", true)
  | 1 => ("TamerState$Plans", "paper", "LTamerState$Scene;", true)
  | 2 => ("TamerState$Plans", "stages", "[I", true)
  | 3 => ("TamerState$Plans", "turns", "[I", true)
  | 4 => ("TamerState$Plans", "row", "[I", true)
  | 5 => ("TamerState$Plans", "bestRow", "[I", true)
  | 6 => ("TamerState$Plans", "may", "[I", true)
  | 7 => ("TamerState$Plans", "used", "[I", true)
  | 8 => ("TamerState$Plans", "best", "I", false)
  | _ => ("TamerState$Plans", "provinces", "I", false)
def xF5 : u_T := fun k => match k with
  | 0 => ("TamerState$Program", "code", "[I", true)
  | 1 => ("TamerState$Program", "rows", "[I", true)
  | 2 => ("TamerState$Program", "size", "I", false)
  | _ => ("TamerState$Program", "clauses", "I", false)
def xF6 : u_T := fun k => match k with
  | 0 => ("TamerState$Rules", "machine", "LTamerState$Machine;", true)
  | _ => ("TamerState$Rules", "words", "[I", true)
def xF7 : u_T := fun k => match k with
  | _ => ("TamerState$Scene", "cells", "[I", true)
def xF8 : u_T := fun k => match k with
  | 0 => ("TamerState$Tape", "bytes", "[I", true)
  | _ => ("TamerState$Tape", "length", "I", false)
def xF9 : u_T := fun k => match k with
  | 0 => ("TamerState$World", "scene", "LTamerState$Scene;", true)
  | 1 => ("TamerState$World", "deeds", "LTamerState$Deeds;", true)
  | 2 => ("TamerState$World", "feuds", "[I", true)
  | 3 => ("TamerState$World", "laws", "[LTamerState$Program;", true)
  | 4 => ("TamerState$World", "lawCount", "I", false)
  | _ => ("TamerState$World", "forced", "I", false)
def xF10 : u_T := fun k => match k with
  | 0 => ("TamerState", "now", "LTamerState$World;", true)
  | 1 => ("TamerState", "images", "[LTamerState$World;", true)
  | 2 => ("TamerState", "tape", "LTamerState$Tape;", true)
  | 3 => ("TamerState", "parser", "LTamerState$Parser;", true)
  | 4 => ("TamerState", "rules", "LTamerState$Rules;", true)
  | 5 => ("TamerState", "plans", "LTamerState$Plans;", true)
  | 6 => ("TamerState", "log", "LTamerState$Log;", true)
  | 7 => ("TamerState", "logAhead", "LTamerState$Log;", true)
  | 8 => ("TamerState", "sceneAhead", "LTamerState$Scene;", true)
  | 9 => ("TamerState", "paper", "LTamerState$Scene;", true)
  | 10 => ("TamerState", "drawnScene", "LTamerState$Scene;", true)
  | 11 => ("TamerState", "orderWords", "[I", true)
  | 12 => ("TamerState", "chances", "[J", true)
  | 13 => ("TamerState", "alike", "[I", true)
  | 14 => ("TamerState", "refusedBy", "[I", true)
  | 15 => ("TamerState", "saucerCount", "I", false)
  | 16 => ("TamerState", "stoppedAt", "I", false)
  | _ => ("TamerState", "latestStatus", "I", false)
def xF11 : u_T := fun k => match k with
  | 0 => ("TamerStateModel", "thrown", "I", false)
  | 1 => ("TamerStateModel", "status", "I", false)
  | 2 => ("TamerStateModel", "refusals", "[I", true)
  | 3 => ("TamerStateModel", "row", "[I", true)
  | 4 => ("TamerStateModel", "images", "[I", true)
  | 5 => ("TamerStateModel", "isKept", "[Z", true)
  | 6 => ("TamerStateModel", "undos", "[I", true)
  | 7 => ("TamerStateModel", "sorts", "[I", true)
  | 8 => ("TamerStateModel", "nUndo", "I", false)
  | 9 => ("TamerStateModel", "undosBefore", "[I", true)
  | 10 => ("TamerStateModel", "sortsBefore", "[I", true)
  | 11 => ("TamerStateModel", "saucers", "I", false)
  | 12 => ("TamerStateModel", "tape", "[I", true)
  | 13 => ("TamerStateModel", "taped", "I", false)
  | 14 => ("TamerStateModel", "from", "I", false)
  | 15 => ("TamerStateModel", "to", "I", false)
  | 16 => ("TamerStateModel", "sort", "I", false)
  | 17 => ("TamerStateModel", "worth", "J", false)
  | 18 => ("TamerStateModel", "fault", "I", false)
  | 19 => ("TamerStateModel", "bad", "Z", false)
  | 20 => ("TamerStateModel", "ordered", "Z", false)
  | 21 => ("TamerStateModel", "nClauses", "I", false)
  | 22 => ("TamerStateModel", "nClause", "[I", true)
  | 23 => ("TamerStateModel", "nCode", "I", false)
  | 24 => ("TamerStateModel", "nOp", "[I", true)
  | 25 => ("TamerStateModel", "nArg", "[I", true)
  | 26 => ("TamerStateModel", "nLeaves", "I", false)
  | 27 => ("TamerStateModel", "pile", "[I", true)
  | 28 => ("TamerStateModel", "pileAt", "[I", true)
  | 29 => ("TamerStateModel", "piled", "I", false)
  | 30 => ("TamerStateModel", "opened", "I", false)
  | 31 => ("TamerStateModel", "words", "[J", true)
  | 32 => ("TamerStateModel", "orderWords", "[J", true)
  | 33 => ("TamerStateModel", "heads", "[J", true)
  | 34 => ("TamerStateModel", "law", "I", false)
  | 35 => ("TamerStateModel", "set", "[J", true)
  | 36 => ("TamerStateModel", "now", "[J", true)
  | 37 => ("TamerStateModel", "rest", "[J", true)
  | 38 => ("TamerStateModel", "broken", "Z", false)
  | 39 => ("TamerStateModel", "value", "J", false)
  | 40 => ("TamerStateModel", "sum", "J", false)
  | 41 => ("TamerStateModel", "grows", "[I", true)
  | 42 => ("TamerStateModel", "paid", "[I", true)
  | 43 => ("TamerStateModel", "tried", "[I", true)
  | 44 => ("TamerStateModel", "ahead", "[I", true)
  | 45 => ("TamerStateModel", "balks", "[I", true)
  | 46 => ("TamerStateModel", "bestRow", "[I", true)
  | 47 => ("TamerStateModel", "moved", "[I", true)
  | 48 => ("TamerStateModel", "alike", "[I", true)
  | 49 => ("TamerStateModel", "parts", "[J", true)
  | 50 => ("TamerStateModel", "acts", "[J", true)
  | 51 => ("TamerStateModel", "nOrder", "[I", true)
  | 52 => ("TamerStateModel", "ran", "I", false)
  | 53 => ("TamerStateModel", "latest", "I", false)
  | 54 => ("TamerStateModel", "stopped", "I", false)
  | 55 => ("TamerStateModel", "off", "Z", false)
  | 56 => ("TamerStateModel", "state", "J", false)
  | 57 => ("TamerStateModel", "drawn", "[I", true)
  | 58 => ("TamerStateModel", "drawnProvinces", "I", false)
  | _ => ("TamerStateModel", "drawnTamers", "I", false)
abbrev xcl : List vw_C := [("TamerState$Deeds", xF0, 2), ("TamerState$Log", xF1, 4), ("TamerState$Machine", xF2, 2), ("TamerState$Parser", xF3, 9), ("TamerState$Plans", xF4, 10), ("TamerState$Program", xF5, 4), ("TamerState$Rules", xF6, 2), ("TamerState$Scene", xF7, 1), ("TamerState$Tape", xF8, 2), ("TamerState$World", xF9, 6), ("TamerState", xF10, 18), ("TamerStateModel", xF11, 60)]
/-- what each field is: 0 int, 1 long, 2 reference, 3 boolean; 4 more: final -/
def xfs : List (List Nat) := [[6, 0], [6, 6, 0, 0], [6, 0], [6, 6, 6, 6, 3, 0, 0, 0, 0], [6, 6, 6, 6, 6, 6, 6, 6, 0, 0], [6, 6, 0, 0], [6, 6], [6], [6, 0], [6, 6, 6, 6, 0, 0], [6, 6, 6, 6, 6, 6, 6, 6, 6, 6, 6, 6, 6, 6, 6, 0, 0, 0], [0, 0, 6, 6, 6, 6, 6, 6, 0, 6, 6, 0, 6, 0, 0, 0, 0, 1, 0, 3, 3, 0, 6, 0, 6, 6, 0, 6, 6, 0, 0, 6, 6, 6, 0, 6, 6, 6, 3, 1, 1, 6, 6, 6, 6, 6, 6, 6, 6, 6, 6, 6, 0, 0, 0, 3, 1, 6, 0, 0]]
def xtys : List (List FieldType) := [[(.array .int), .int], [(.array .int), (.array .int), .int, .int], [(.array .long), .int], [(.object "TamerState$Tape"), (.object "TamerState$Program"), (.array .int), (.array .int), .boolean, .int, .int, .int, .int], [(.object "TamerState$Rules"), (.object "TamerState$Scene"), (.array .int), (.array .int), (.array .int), (.array .int), (.array .int), (.array .int), .int, .int], [(.array .int), (.array .int), .int, .int], [(.object "TamerState$Machine"), (.array .int)], [(.array .int)], [(.array .int), .int], [(.object "TamerState$Scene"), (.object "TamerState$Deeds"), (.array .int), (.array (.object "TamerState$Program")), .int, .int], [(.object "TamerState$World"), (.array (.object "TamerState$World")), (.object "TamerState$Tape"), (.object "TamerState$Parser"), (.object "TamerState$Rules"), (.object "TamerState$Plans"), (.object "TamerState$Log"), (.object "TamerState$Log"), (.object "TamerState$Scene"), (.object "TamerState$Scene"), (.object "TamerState$Scene"), (.array .int), (.array .long), (.array .int), (.array .int), .int, .int, .int], [.int, .int, (.array .int), (.array .int), (.array .int), (.array .boolean), (.array .int), (.array .int), .int, (.array .int), (.array .int), .int, (.array .int), .int, .int, .int, .int, .long, .int, .boolean, .boolean, .int, (.array .int), .int, (.array .int), (.array .int), .int, (.array .int), (.array .int), .int, .int, (.array .long), (.array .long), (.array .long), .int, (.array .long), (.array .long), (.array .long), .boolean, .long, .long, (.array .int), (.array .int), (.array .int), (.array .int), (.array .int), (.array .int), (.array .int), (.array .int), (.array .long), (.array .long), (.array .int), .int, .int, .int, .boolean, .long, (.array .int), .int, .int]]
/-- the methods: name, code, locals, answer; then the places of their words: code, initialized, static or instanceMethod, selects -/
def xme0 : List (MethodName × ByteArray × Nat × Option FieldType × ((Nat × Nat) × (Nat × Nat) × (Nat × Nat) × (Nat × Nat))) := [
  (⟨"TamerStateLaw", "law", "([I)Z"⟩, code, 4, (some .boolean), ((0, 0), (0, 0), (0, 0), (0, 0))),
  (⟨"TamerState", "<init>", "()V"⟩, prog_1_method_1_code, 1, none, ((1, 25), (1, 1), (1, 24), (0, 0))),
  (⟨"TamerState$World", "<init>", "()V"⟩, prog_11_method_1_code, 1, none, ((1, 33), (1, 2), (1, 32), (0, 0))),
  (⟨"TamerState$Scene", "<init>", "()V"⟩, prog_9_method_1_code, 1, none, ((1, 39), (1, 3), (1, 38), (0, 0))),
  (⟨"TamerState$Deeds", "<init>", "()V"⟩, prog_2_method_1_code, 1, none, ((1, 50), (1, 4), (1, 49), (0, 0))),
  (⟨"TamerState$Scene", "set", "(III)V"⟩, prog_9_method_3_code, 5, none, ((1, 64), (1, 3), (1, 62), (1, 63))),
  (⟨"TamerState$Tape", "<init>", "()V"⟩, prog_10_method_1_code, 1, none, ((1, 94), (1, 5), (1, 93), (0, 0))),
  (⟨"TamerState$Parser", "<init>", "(LTamerState$Tape;)V"⟩, prog_5_method_1_code, 2, none, ((1, 107), (1, 6), (1, 106), (0, 0))),
  (⟨"TamerState$Program", "<init>", "([I[III)V"⟩, prog_7_method_1_code, 5, none, ((1, 113), (1, 7), (1, 112), (0, 0))),
  (⟨"TamerState$Rules", "<init>", "()V"⟩, prog_8_method_1_code, 1, none, ((1, 160), (1, 8), (1, 159), (0, 0))),
  (⟨"TamerState$Machine", "<init>", "()V"⟩, prog_4_method_1_code, 1, none, ((1, 166), (1, 9), (1, 165), (0, 0))),
  (⟨"TamerState$Plans", "<init>", "(LTamerState$Rules;)V"⟩, prog_6_method_1_code, 2, none, ((1, 187), (1, 10), (1, 186), (0, 0))),
  (⟨"TamerState$Log", "<init>", "()V"⟩, prog_3_method_1_code, 1, none, ((1, 226), (1, 11), (1, 225), (0, 0))),
  (⟨"TamerState", "province", "(III)I"⟩, prog_1_method_2_code, 4, (some .int), ((2, 63), (1, 1), (2, 61), (2, 62))),
  (⟨"TamerState", "fitsProvince", "(III)Z"⟩, prog_1_method_43_code, 3, (some .boolean), ((2, 66), (1, 1), (2, 65), (0, 0))),
  (⟨"TamerState", "within", "(II)Z"⟩, prog_1_method_42_code, 2, (some .boolean), ((2, 69), (1, 1), (2, 68), (0, 0))),
  (⟨"TamerState", "refused", "(I)I"⟩, prog_1_method_46_code, 3, (some .int), ((2, 73), (1, 1), (2, 72), (0, 0))),
  (⟨"TamerState$Scene", "onTub", "(I)I"⟩, prog_9_method_12_code, 3, (some .int), ((2, 77), (1, 3), (2, 75), (2, 76))),
  (⟨"TamerState$Scene", "get", "(II)I"⟩, prog_9_method_2_code, 4, (some .int), ((2, 81), (1, 3), (2, 79), (2, 80))),
  (⟨"TamerState$Scene", "provinces", "()I"⟩, prog_9_method_5_code, 1, (some .int), ((2, 85), (1, 3), (2, 83), (2, 84))),
  (⟨"TamerState$Log", "clear", "()V"⟩, prog_3_method_3_code, 1, none, ((2, 89), (1, 11), (2, 87), (2, 88))),
  (⟨"TamerState$Scene", "addProvince", "(III)I"⟩, prog_9_method_13_code, 5, (some .int), ((2, 93), (1, 3), (2, 91), (2, 92))),
  (⟨"TamerState", "answered", "(I)I"⟩, prog_1_method_45_code, 2, (some .int), ((2, 98), (1, 1), (2, 97), (0, 1))),
  (⟨"TamerState", "of", "(II)I"⟩, prog_1_method_3_code, 4, (some .int), ((2, 102), (1, 1), (2, 100), (2, 101))),
  (⟨"TamerState$Scene", "hasProvince", "(I)Z"⟩, prog_9_method_8_code, 2, (some .boolean), ((2, 106), (1, 3), (2, 104), (2, 105))),
  (⟨"TamerState$World", "lawInForce", "()LTamerState$Program;"⟩, prog_11_method_6_code, 1, (some (.object "TamerState$Program")), ((2, 111), (1, 2), (2, 109), (2, 110))),
  (⟨"TamerState$World", "lawAt", "(I)LTamerState$Program;"⟩, prog_11_method_5_code, 2, (some (.object "TamerState$Program")), ((2, 115), (1, 2), (2, 113), (2, 114))),
  (⟨"TamerState$Rules", "growth", "(LTamerState$Scene;LTamerState$Program;I)I"⟩, prog_8_method_4_code, 4, (some .int), ((2, 119), (1, 8), (2, 117), (2, 118))),
  (⟨"TamerState$Rules", "setWords", "(LTamerState$Scene;II)V"⟩, prog_8_method_14_code, 5, none, ((2, 123), (1, 8), (2, 122), (0, 2))),
  (⟨"TamerState$Scene", "memory", "(II)I"⟩, prog_9_method_10_code, 3, (some .int), ((2, 128), (1, 3), (2, 126), (2, 127))),
  (⟨"TamerState$Scene", "day", "()I"⟩, prog_9_method_7_code, 1, (some .int), ((2, 132), (1, 3), (2, 130), (2, 131))),
  (⟨"TamerState$Rules", "holds", "(LTamerState$Program;I)Z"⟩, prog_8_method_15_code, 6, (some .boolean), ((2, 136), (1, 8), (2, 135), (0, 3))),
  (⟨"TamerState$Program", "clauses", "()I"⟩, prog_7_method_5_code, 1, (some .int), ((2, 140), (1, 7), (2, 138), (2, 139))),
  (⟨"TamerState$Program", "part", "(II)I"⟩, prog_7_method_6_code, 4, (some .int), ((2, 144), (1, 7), (2, 142), (2, 143))),
  (⟨"TamerState$Machine", "runs", "(LTamerState$Program;I[I)Z"⟩, prog_4_method_3_code, 9, (some .boolean), ((2, 148), (1, 9), (2, 146), (2, 147))),
  (⟨"TamerState$Program", "size", "()I"⟩, prog_7_method_4_code, 1, (some .int), ((2, 152), (1, 7), (2, 150), (2, 151))),
  (⟨"TamerState$Program", "operationAt", "(I)I"⟩, prog_7_method_11_code, 2, (some .int), ((2, 156), (1, 7), (2, 154), (2, 155))),
  (⟨"TamerState$Program", "argumentAt", "(I)I"⟩, prog_7_method_12_code, 2, (some .int), ((2, 160), (1, 7), (2, 158), (2, 159))),
  (⟨"TamerState$Machine", "pushes", "(I)Z"⟩, prog_4_method_4_code, 2, (some .boolean), ((2, 164), (1, 9), (2, 163), (0, 4))),
  (⟨"TamerState$Machine", "joins", "(I)Z"⟩, prog_4_method_5_code, 9, (some .boolean), ((2, 168), (1, 9), (2, 167), (0, 5)))]
def xme1 : List (MethodName × ByteArray × Nat × Option FieldType × ((Nat × Nat) × (Nat × Nat) × (Nat × Nat) × (Nat × Nat))) := [
  (⟨"TamerState$Machine", "result", "()I"⟩, prog_4_method_2_code, 1, (some .int), ((2, 174), (1, 9), (2, 172), (2, 173))),
  (⟨"TamerState$Rules", "nearest", "(I)I"⟩, prog_8_method_13_code, 2, (some .int), ((2, 178), (1, 8), (2, 177), (0, 6))),
  (⟨"TamerState$World", "feudsOf", "(I)I"⟩, prog_11_method_2_code, 2, (some .int), ((2, 188), (1, 2), (2, 186), (2, 187))),
  (⟨"TamerState", "tamer", "(II)I"⟩, prog_1_method_4_code, 3, (some .int), ((2, 192), (1, 1), (2, 190), (2, 191))),
  (⟨"TamerState$Scene", "tamers", "()I"⟩, prog_9_method_6_code, 1, (some .int), ((2, 196), (1, 3), (2, 194), (2, 195))),
  (⟨"TamerState$Scene", "addTamer", "(II)I"⟩, prog_9_method_14_code, 4, (some .int), ((2, 200), (1, 3), (2, 198), (2, 199))),
  (⟨"TamerState", "at", "(II)I"⟩, prog_1_method_5_code, 4, (some .int), ((2, 204), (1, 1), (2, 202), (2, 203))),
  (⟨"TamerState$Scene", "hasTamer", "(I)Z"⟩, prog_9_method_9_code, 2, (some .boolean), ((2, 208), (1, 3), (2, 206), (2, 207))),
  (⟨"TamerState$Rules", "wage", "(LTamerState$Scene;LTamerState$Program;I)I"⟩, prog_8_method_5_code, 4, (some .int), ((2, 212), (1, 8), (2, 210), (2, 211))),
  (⟨"TamerState", "asks", "(III)I"⟩, prog_1_method_6_code, 6, (some .int), ((2, 216), (1, 1), (2, 214), (2, 215))),
  (⟨"TamerState$Rules", "anger", "(LTamerState$Scene;LTamerState$Program;II)I"⟩, prog_8_method_2_code, 6, (some .int), ((2, 221), (1, 8), (2, 219), (2, 220))),
  (⟨"TamerState$Rules", "barred", "(LTamerState$Scene;LTamerState$Program;II)Z"⟩, prog_8_method_3_code, 5, (some .boolean), ((2, 225), (1, 8), (2, 223), (2, 224))),
  (⟨"TamerState$Rules", "loyal", "(LTamerState$Scene;LTamerState$Program;II)Z"⟩, prog_8_method_6_code, 5, (some .boolean), ((2, 229), (1, 8), (2, 227), (2, 228))),
  (⟨"TamerState$Rules", "reaction", "(LTamerState$Scene;LTamerState$Program;II)I"⟩, prog_8_method_7_code, 6, (some .int), ((2, 234), (1, 8), (2, 232), (2, 233))),
  (⟨"TamerState", "feud", "(III)I"⟩, prog_1_method_7_code, 4, (some .int), ((2, 238), (1, 1), (2, 236), (2, 237))),
  (⟨"TamerState$World", "setFeud", "(III)I"⟩, prog_11_method_3_code, 5, (some .int), ((3, 2), (1, 2), (3, 0), (3, 1))),
  (⟨"TamerState", "terms", "(II)I"⟩, prog_1_method_8_code, 4, (some .int), ((3, 6), (1, 1), (3, 4), (3, 5))),
  (⟨"TamerState", "feed", "(IIIII)I"⟩, prog_1_method_9_code, 6, (some .int), ((3, 13), (1, 1), (3, 11), (3, 12))),
  (⟨"TamerState$Tape", "hasRoomFor", "(I)Z"⟩, prog_10_method_4_code, 2, (some .boolean), ((3, 17), (1, 5), (3, 15), (3, 16))),
  (⟨"TamerState$Tape", "add", "(I)V"⟩, prog_10_method_5_code, 3, none, ((3, 21), (1, 5), (3, 19), (3, 20))),
  (⟨"TamerState$Tape", "length", "()I"⟩, prog_10_method_2_code, 1, (some .int), ((3, 25), (1, 5), (3, 23), (3, 24))),
  (⟨"TamerState", "end", "(I)I"⟩, prog_1_method_10_code, 2, (some .int), ((3, 29), (1, 1), (3, 27), (3, 28))),
  (⟨"TamerState$Tape", "cut", "(I)Z"⟩, prog_10_method_6_code, 2, (some .boolean), ((3, 33), (1, 5), (3, 31), (3, 32))),
  (⟨"TamerState", "row", "()I"⟩, prog_1_method_11_code, 4, (some .int), ((3, 37), (1, 1), (3, 35), (3, 36))),
  (⟨"TamerState", "rowProvince", "(I)Z"⟩, prog_1_method_48_code, 5, (some .boolean), ((3, 41), (1, 1), (3, 40), (0, 7))),
  (⟨"TamerState$Tape", "byteAt", "(I)I"⟩, prog_10_method_7_code, 2, (some .int), ((3, 45), (1, 5), (3, 43), (3, 44))),
  (⟨"TamerState$Tape", "clear", "()V"⟩, prog_10_method_3_code, 1, none, ((3, 49), (1, 5), (3, 47), (3, 48))),
  (⟨"TamerState", "saucers", "()I"⟩, prog_1_method_12_code, 1, (some .int), ((3, 53), (1, 1), (3, 51), (3, 52))),
  (⟨"TamerState", "law", "()I"⟩, prog_1_method_13_code, 1, (some .int), ((3, 57), (1, 1), (3, 55), (3, 56))),
  (⟨"TamerState$Parser", "reads", "(Z)Z"⟩, prog_5_method_4_code, 4, (some .boolean), ((3, 61), (1, 6), (3, 59), (3, 60))),
  (⟨"TamerState$Program", "clear", "()V"⟩, prog_7_method_3_code, 1, none, ((3, 65), (1, 7), (3, 63), (3, 64))),
  (⟨"TamerState$Parser", "findTokens", "()V"⟩, prog_5_method_5_code, 6, none, ((3, 69), (1, 6), (3, 68), (0, 8))),
  (⟨"TamerState$Parser", "kindOf", "(I)I"⟩, prog_5_method_6_code, 1, (some .int), ((3, 74), (1, 6), (3, 73), (0, 0))),
  (⟨"TamerState$Parser", "tokenOf", "(III)I"⟩, prog_5_method_7_code, 6, (some .int), ((3, 78), (1, 6), (3, 77), (0, 9))),
  (⟨"TamerState$Tape", "numberAt", "(II)I"⟩, prog_10_method_8_code, 5, (some .int), ((3, 82), (1, 5), (3, 80), (3, 81))),
  (⟨"TamerState$Tape", "wordAmong", "(Ljava/lang/String;II)I"⟩, prog_10_method_9_code, 8, (some .int), ((3, 89), (1, 5), (3, 87), (3, 88))),
  (⟨"java/lang/String", "length", "()I"⟩, prog_17_method_54_code, 1, (some .int), ((3, 93), (1, 14), (3, 91), (3, 92))),
  (⟨"java/lang/String", "coder", "()B"⟩, prog_17_method_152_code, 1, (some .byte), ((3, 97), (1, 14), (3, 95), (3, 96))),
  (⟨"java/lang/String", "charAt", "(I)C"⟩, prog_17_method_56_code, 2, (some .char), ((3, 103), (1, 14), (3, 101), (3, 102))),
  (⟨"java/lang/String", "isLatin1", "()Z"⟩, prog_17_method_154_code, 1, (some .boolean), ((3, 107), (1, 14), (3, 105), (3, 106)))]
def xme2 : List (MethodName × ByteArray × Nat × Option FieldType × ((Nat × Nat) × (Nat × Nat) × (Nat × Nat) × (Nat × Nat))) := [
  (⟨"java/lang/StringLatin1", "charAt", "([BI)C"⟩, prog_18_method_2_code, 2, (some .char), ((3, 110), (1, 15), (3, 109), (0, 0))),
  (⟨"java/lang/String", "checkIndex", "(II)V"⟩, prog_17_method_155_code, 2, none, ((3, 113), (1, 14), (3, 112), (0, 0))),
  (⟨"jdk/internal/util/Preconditions", "checkIndex", "(IILjava/util/function/BiFunction;)I"⟩, prog_22_method_11_code, 3, (some .int), ((3, 118), (1, 16), (3, 117), (0, 0))),
  (⟨"TamerState$Parser", "readOrder", "()Z"⟩, prog_5_method_13_code, 2, (some .boolean), ((3, 143), (1, 6), (3, 142), (0, 10))),
  (⟨"TamerState$Parser", "fails", "()Z"⟩, prog_5_method_10_code, 1, (some .boolean), ((3, 148), (1, 6), (3, 147), (0, 11))),
  (⟨"TamerState$Program", "open", "(I)V"⟩, prog_7_method_7_code, 2, none, ((3, 152), (1, 7), (3, 150), (3, 151))),
  (⟨"TamerState$Program", "setPart", "(II)V"⟩, prog_7_method_8_code, 4, none, ((3, 156), (1, 7), (3, 154), (3, 155))),
  (⟨"TamerState$Parser", "next", "()V"⟩, prog_5_method_8_code, 1, none, ((3, 160), (1, 6), (3, 159), (0, 12))),
  (⟨"TamerState$Parser", "readWholeSum", "(I)Z"⟩, prog_5_method_16_code, 3, (some .boolean), ((3, 164), (1, 6), (3, 163), (0, 13))),
  (⟨"TamerState$Parser", "readSum", "(I)Z"⟩, prog_5_method_21_code, 4, (some .boolean), ((3, 170), (1, 6), (3, 169), (0, 14))),
  (⟨"TamerState$Parser", "readTerm", "(I)Z"⟩, prog_5_method_22_code, 4, (some .boolean), ((3, 174), (1, 6), (3, 173), (0, 15))),
  (⟨"TamerState$Parser", "readPart", "(I)Z"⟩, prog_5_method_23_code, 5, (some .boolean), ((3, 178), (1, 6), (3, 177), (0, 16))),
  (⟨"TamerState$Parser", "takes", "(I)Z"⟩, prog_5_method_9_code, 2, (some .boolean), ((3, 182), (1, 6), (3, 181), (0, 17))),
  (⟨"TamerState$Parser", "numberOf", "(I)I"⟩, prog_5_method_11_code, 1, (some .int), ((3, 185), (1, 6), (3, 184), (0, 0))),
  (⟨"TamerState$Parser", "orderWord", "()I"⟩, prog_5_method_24_code, 5, (some .int), ((3, 189), (1, 6), (3, 188), (0, 18))),
  (⟨"TamerState$Program", "emit", "(II)I"⟩, prog_7_method_9_code, 3, (some .int), ((3, 193), (1, 7), (3, 191), (3, 192))),
  (⟨"TamerState$Parser", "readTimes", "()Z"⟩, prog_5_method_14_code, 2, (some .boolean), ((3, 197), (1, 6), (3, 196), (0, 19))),
  (⟨"TamerState$Parser", "readIf", "()Z"⟩, prog_5_method_15_code, 2, (some .boolean), ((3, 201), (1, 6), (3, 200), (0, 20))),
  (⟨"TamerState$Parser", "readTest", "(I)Z"⟩, prog_5_method_17_code, 4, (some .boolean), ((3, 205), (1, 6), (3, 204), (0, 21))),
  (⟨"TamerState$Parser", "readBoth", "(I)Z"⟩, prog_5_method_18_code, 4, (some .boolean), ((3, 209), (1, 6), (3, 208), (0, 22))),
  (⟨"TamerState$Parser", "readPlain", "(I)Z"⟩, prog_5_method_19_code, 4, (some .boolean), ((3, 213), (1, 6), (3, 212), (0, 23))),
  (⟨"TamerState$Parser", "comparison", "()I"⟩, prog_5_method_20_code, 1, (some .int), ((3, 217), (1, 6), (3, 216), (0, 24))),
  (⟨"TamerState$Program", "aimHere", "(I)V"⟩, prog_7_method_10_code, 2, none, ((3, 221), (1, 7), (3, 219), (3, 220))),
  (⟨"TamerState$Parser", "readLaw", "()Z"⟩, prog_5_method_12_code, 2, (some .boolean), ((3, 225), (1, 6), (3, 224), (0, 25))),
  (⟨"TamerState$Parser", "read", "()LTamerState$Program;"⟩, prog_5_method_2_code, 1, (some (.object "TamerState$Program")), ((3, 229), (1, 6), (3, 227), (3, 228))),
  (⟨"TamerState$Program", "trimmed", "()LTamerState$Program;"⟩, prog_7_method_2_code, 3, (some (.object "TamerState$Program")), ((3, 233), (1, 7), (3, 231), (3, 232))),
  (⟨"java/util/Arrays", "copyOf", "([II)[I"⟩, prog_21_method_123_code, 3, (some (.array .int)), ((3, 237), (1, 18), (3, 236), (0, 0))),
  (⟨"TamerState$World", "addLaw", "(LTamerState$Program;)I"⟩, prog_11_method_7_code, 2, (some .int), ((4, 14), (1, 2), (4, 12), (4, 13))),
  (⟨"TamerState", "orders", "()I"⟩, prog_1_method_14_code, 4, (some .int), ((4, 19), (1, 1), (4, 17), (4, 18))),
  (⟨"TamerState$Scene", "copyFrom", "(LTamerState$Scene;)V"⟩, prog_9_method_19_code, 2, none, ((4, 23), (1, 3), (4, 21), (4, 22))),
  (⟨"TamerState$Log", "copyFrom", "(LTamerState$Log;)V"⟩, prog_3_method_6_code, 2, none, ((4, 28), (1, 11), (4, 26), (4, 27))),
  (⟨"TamerState", "setOrderWords", "()V"⟩, prog_1_method_55_code, 4, none, ((4, 35), (1, 1), (4, 34), (0, 26))),
  (⟨"TamerState$Rules", "testHolds", "(LTamerState$Program;I[I)Z"⟩, prog_8_method_10_code, 5, (some .boolean), ((4, 40), (1, 8), (4, 38), (4, 39))),
  (⟨"TamerState", "performed", "(LTamerState$Program;I)I"⟩, prog_1_method_56_code, 7, (some .int), ((4, 44), (1, 1), (4, 43), (0, 27))),
  (⟨"TamerState", "passed", "()I"⟩, prog_1_method_54_code, 2, (some .int), ((4, 48), (1, 1), (4, 47), (0, 28))),
  (⟨"TamerState$Log", "keep", "(LTamerState$Scene;I)V"⟩, prog_3_method_4_code, 3, none, ((4, 52), (1, 11), (4, 50), (4, 51))),
  (⟨"TamerState$Scene", "saveTo", "([II)V"⟩, prog_9_method_20_code, 3, none, ((4, 56), (1, 3), (4, 54), (4, 55))),
  (⟨"TamerState$Rules", "nextDay", "(LTamerState$Scene;LTamerState$Program;)V"⟩, prog_8_method_9_code, 4, none, ((4, 61), (1, 8), (4, 59), (4, 60))),
  (⟨"TamerState$Scene", "change", "(IIII)V"⟩, prog_9_method_4_code, 5, none, ((4, 67), (1, 3), (4, 65), (4, 66))),
  (⟨"TamerState$Rules", "sumTold", "(LTamerState$Program;I[I)Z"⟩, prog_8_method_11_code, 4, (some .boolean), ((4, 75), (1, 8), (4, 73), (4, 74)))]
def xme3 : List (MethodName × ByteArray × Nat × Option FieldType × ((Nat × Nat) × (Nat × Nat) × (Nat × Nat) × (Nat × Nat))) := [
  (⟨"TamerState$Rules", "told", "()I"⟩, prog_8_method_12_code, 1, (some .int), ((4, 79), (1, 8), (4, 77), (4, 78))),
  (⟨"TamerState", "fed", "(II)I"⟩, prog_1_method_52_code, 4, (some .int), ((4, 83), (1, 1), (4, 82), (0, 29))),
  (⟨"TamerState$Rules", "feeding", "(LTamerState$Scene;II)V"⟩, prog_8_method_8_code, 4, none, ((4, 87), (1, 8), (4, 85), (4, 86))),
  (⟨"TamerState$Scene", "eat", "(II)V"⟩, prog_9_method_18_code, 3, none, ((4, 91), (1, 3), (4, 89), (4, 90))),
  (⟨"TamerState", "moved", "(II)I"⟩, prog_1_method_53_code, 5, (some .int), ((4, 96), (1, 1), (4, 95), (0, 30))),
  (⟨"TamerState", "cracked", "(II)I"⟩, prog_1_method_50_code, 5, (some .int), ((4, 100), (1, 1), (4, 99), (0, 31))),
  (⟨"TamerState", "mayCrack", "(LTamerState$Scene;II)Z"⟩, prog_1_method_49_code, 4, (some .boolean), ((4, 104), (1, 1), (4, 103), (0, 32))),
  (⟨"TamerState$Scene", "react", "(III)V"⟩, prog_9_method_15_code, 4, none, ((4, 108), (1, 3), (4, 106), (4, 107))),
  (⟨"TamerState$Scene", "stirNeighbours", "(II)V"⟩, prog_9_method_16_code, 5, none, ((4, 112), (1, 3), (4, 111), (0, 33))),
  (⟨"TamerState$Scene", "besideEachOther", "(II)Z"⟩, prog_9_method_17_code, 3, (some .boolean), ((4, 115), (1, 3), (4, 114), (0, 0))),
  (⟨"TamerState", "fault", "()I"⟩, prog_1_method_15_code, 1, (some .int), ((4, 122), (1, 1), (4, 120), (4, 121))),
  (⟨"TamerState$Parser", "faultPlace", "()I"⟩, prog_5_method_3_code, 1, (some .int), ((4, 126), (1, 6), (4, 124), (4, 125))),
  (⟨"TamerState", "stopped", "()I"⟩, prog_1_method_16_code, 1, (some .int), ((4, 130), (1, 1), (4, 128), (4, 129))),
  (⟨"TamerState", "force", "(I)I"⟩, prog_1_method_17_code, 3, (some .int), ((4, 134), (1, 1), (4, 132), (4, 133))),
  (⟨"TamerState$World", "hasLaw", "(I)Z"⟩, prog_11_method_4_code, 2, (some .boolean), ((4, 138), (1, 2), (4, 136), (4, 137))),
  (⟨"TamerState", "crack", "(II)I"⟩, prog_1_method_18_code, 3, (some .int), ((4, 142), (1, 1), (4, 140), (4, 141))),
  (⟨"TamerState", "settled", "(I)I"⟩, prog_1_method_47_code, 2, (some .int), ((4, 146), (1, 1), (4, 145), (0, 34))),
  (⟨"TamerState", "meat", "(II)I"⟩, prog_1_method_19_code, 3, (some .int), ((4, 150), (1, 1), (4, 148), (4, 149))),
  (⟨"TamerState", "move", "(II)I"⟩, prog_1_method_20_code, 3, (some .int), ((4, 154), (1, 1), (4, 152), (4, 153))),
  (⟨"TamerState", "pass", "()I"⟩, prog_1_method_21_code, 1, (some .int), ((4, 158), (1, 1), (4, 156), (4, 157))),
  (⟨"TamerState", "undo", "()I"⟩, prog_1_method_22_code, 2, (some .int), ((4, 162), (1, 1), (4, 160), (4, 161))),
  (⟨"TamerState$Log", "takeBack", "(LTamerState$Scene;)I"⟩, prog_3_method_5_code, 2, (some .int), ((4, 166), (1, 11), (4, 164), (4, 165))),
  (⟨"TamerState$Scene", "loadFrom", "([II)V"⟩, prog_9_method_21_code, 3, none, ((4, 170), (1, 3), (4, 168), (4, 169))),
  (⟨"TamerState", "show", "(III)I"⟩, prog_1_method_23_code, 6, (some .int), ((4, 174), (1, 1), (4, 172), (4, 173))),
  (⟨"TamerState$Plans", "findShow", "(LTamerState$World;II)I"⟩, prog_6_method_4_code, 5, (some .int), ((4, 178), (1, 10), (4, 176), (4, 177))),
  (⟨"TamerState$Plans", "tellTurns", "(LTamerState$World;II)V"⟩, prog_6_method_5_code, 7, none, ((4, 182), (1, 10), (4, 181), (0, 35))),
  (⟨"TamerState$Plans", "act", "(IIII)V"⟩, prog_6_method_7_code, 8, none, ((4, 191), (1, 10), (4, 190), (0, 36))),
  (⟨"TamerState$Plans", "keepRow", "(I)V"⟩, prog_6_method_3_code, 2, none, ((4, 195), (1, 10), (4, 194), (0, 37))),
  (⟨"TamerState$Plans", "turnOf", "(I)I"⟩, prog_6_method_6_code, 3, (some .int), ((4, 201), (1, 10), (4, 200), (0, 38))),
  (⟨"java/lang/Integer", "bitCount", "(I)I"⟩, prog_15_method_49_code, 1, (some .int), ((4, 207), (1, 20), (4, 206), (0, 0))),
  (⟨"TamerState$Plans", "found", "(I)I"⟩, prog_6_method_2_code, 2, (some .int), ((4, 214), (1, 10), (4, 212), (4, 213))),
  (⟨"TamerState", "least", "(II)I"⟩, prog_1_method_24_code, 7, (some .int), ((4, 218), (1, 1), (4, 216), (4, 217))),
  (⟨"TamerState", "leastFor", "(II)I"⟩, prog_1_method_57_code, 4, (some .int), ((4, 222), (1, 1), (4, 221), (0, 39))),
  (⟨"TamerState", "seats", "(I)I"⟩, prog_1_method_25_code, 3, (some .int), ((4, 227), (1, 1), (4, 225), (4, 226))),
  (⟨"TamerState$Plans", "findSeats", "(LTamerState$World;)I"⟩, prog_6_method_8_code, 3, (some .int), ((4, 231), (1, 10), (4, 229), (4, 230))),
  (⟨"TamerState$Plans", "sits", "(LTamerState$World;III)Z"⟩, prog_6_method_9_code, 7, (some .boolean), ((4, 236), (1, 10), (4, 235), (0, 40))),
  (⟨"TamerState$Plans", "besideFoe", "(LTamerState$World;II)Z"⟩, prog_6_method_10_code, 5, (some .boolean), ((5, 0), (1, 10), (4, 239), (0, 41))),
  (⟨"TamerState", "done", "(IIII)I"⟩, prog_1_method_26_code, 5, (some .int), ((5, 6), (1, 1), (5, 4), (5, 5))),
  (⟨"TamerState$Deeds", "size", "()I"⟩, prog_2_method_2_code, 1, (some .int), ((5, 10), (1, 4), (5, 8), (5, 9))),
  (⟨"TamerState$Deeds", "add", "(IIII)I"⟩, prog_2_method_5_code, 6, (some .int), ((5, 14), (1, 4), (5, 12), (5, 13)))]
def xme4 : List (MethodName × ByteArray × Nat × Option FieldType × ((Nat × Nat) × (Nat × Nat) × (Nat × Nat) × (Nat × Nat))) := [
  (⟨"TamerState", "forget", "()I"⟩, prog_1_method_27_code, 2, (some .int), ((5, 18), (1, 1), (5, 16), (5, 17))),
  (⟨"TamerState$Deeds", "clear", "()V"⟩, prog_2_method_3_code, 1, none, ((5, 22), (1, 4), (5, 20), (5, 21))),
  (⟨"TamerState", "one", "(I)I"⟩, prog_1_method_28_code, 6, (some .int), ((5, 26), (1, 1), (5, 24), (5, 25))),
  (⟨"TamerState$Deeds", "areOne", "(II)Z"⟩, prog_2_method_6_code, 6, (some .boolean), ((5, 30), (1, 4), (5, 28), (5, 29))),
  (⟨"TamerState$Deeds", "get", "(II)I"⟩, prog_2_method_4_code, 4, (some .int), ((5, 34), (1, 4), (5, 32), (5, 33))),
  (⟨"TamerState$Deeds", "sameCrack", "(II)Z"⟩, prog_2_method_7_code, 3, (some .boolean), ((5, 38), (1, 4), (5, 37), (0, 42))),
  (⟨"TamerState", "tempers", "(I)I"⟩, prog_1_method_29_code, 2, (some .int), ((5, 42), (1, 1), (5, 40), (5, 41))),
  (⟨"TamerState", "tempersOf", "(I)I"⟩, prog_1_method_58_code, 4, (some .int), ((5, 46), (1, 1), (5, 45), (0, 43))),
  (⟨"TamerState", "wouldHaveDoneAll", "(I)Z"⟩, prog_1_method_59_code, 5, (some .boolean), ((5, 50), (1, 1), (5, 49), (0, 44))),
  (⟨"TamerState", "ask", "(II)I"⟩, prog_1_method_30_code, 8, (some .int), ((5, 55), (1, 1), (5, 53), (5, 54))),
  (⟨"TamerState", "mostAlike", "(III)I"⟩, prog_1_method_60_code, 7, (some .int), ((5, 59), (1, 1), (5, 58), (0, 45))),
  (⟨"java/util/Arrays", "fill", "([II)V"⟩, prog_21_method_103_code, 4, none, ((5, 62), (1, 18), (5, 61), (0, 0))),
  (⟨"TamerState", "governed", "(I)I"⟩, prog_1_method_31_code, 3, (some .int), ((5, 67), (1, 1), (5, 65), (5, 66))),
  (⟨"TamerState$Plans", "findGoverned", "(LTamerState$World;)I"⟩, prog_6_method_11_code, 6, (some .int), ((5, 71), (1, 10), (5, 69), (5, 70))),
  (⟨"TamerState$Plans", "govern", "(II)V"⟩, prog_6_method_12_code, 4, none, ((5, 78), (1, 10), (5, 77), (0, 46))),
  (⟨"TamerState", "calmest", "(I)I"⟩, prog_1_method_32_code, 6, (some .int), ((5, 82), (1, 1), (5, 80), (5, 81))),
  (⟨"TamerState", "cubs", "(III)I"⟩, prog_1_method_33_code, 5, (some .int), ((5, 86), (1, 1), (5, 84), (5, 85))),
  (⟨"TamerState$Plans", "findCubs", "(LTamerState$World;II)I"⟩, prog_6_method_13_code, 6, (some .int), ((5, 90), (1, 10), (5, 88), (5, 89))),
  (⟨"TamerState$Plans", "loyalLater", "(LTamerState$World;IIII)Z"⟩, prog_6_method_14_code, 7, (some .boolean), ((5, 94), (1, 10), (5, 93), (0, 47))),
  (⟨"TamerState$Plans", "choose", "(II)V"⟩, prog_6_method_15_code, 4, none, ((5, 100), (1, 10), (5, 99), (0, 48))),
  (⟨"TamerState$Plans", "loyalOfAll", "()I"⟩, prog_6_method_16_code, 3, (some .int), ((5, 104), (1, 10), (5, 103), (0, 49))),
  (⟨"TamerState", "safe", "(II)J"⟩, prog_1_method_34_code, 8, (some .long), ((5, 108), (1, 1), (5, 106), (5, 107))),
  (⟨"java/util/Arrays", "fill", "([JJ)V"⟩, prog_21_method_101_code, 5, none, ((5, 112), (1, 18), (5, 111), (0, 0))),
  (⟨"TamerState", "compare", "(II)I"⟩, prog_1_method_35_code, 5, (some .int), ((5, 118), (1, 1), (5, 116), (5, 117))),
  (⟨"TamerState", "decades", "(II)I"⟩, prog_1_method_36_code, 11, (some .int), ((5, 123), (1, 1), (5, 121), (5, 122))),
  (⟨"TamerState", "drawnFrom", "(I)I"⟩, prog_1_method_44_code, 1, (some .int), ((5, 127), (1, 1), (5, 126), (0, 0))),
  (⟨"TamerState", "bitesOnPaper", "(LTamerState$Scene;II)Z"⟩, prog_1_method_51_code, 5, (some .boolean), ((5, 134), (1, 1), (5, 133), (0, 50))),
  (⟨"TamerState", "drawn", "(II)I"⟩, prog_1_method_37_code, 4, (some .int), ((5, 138), (1, 1), (5, 136), (5, 137))),
  (⟨"TamerState", "image", "(I)I"⟩, prog_1_method_38_code, 3, (some .int), ((5, 142), (1, 1), (5, 140), (5, 141))),
  (⟨"TamerState$World", "copyFrom", "(LTamerState$World;)V"⟩, prog_11_method_8_code, 3, none, ((5, 146), (1, 2), (5, 144), (5, 145))),
  (⟨"TamerState$Deeds", "copyFrom", "(LTamerState$Deeds;)V"⟩, prog_2_method_8_code, 2, none, ((5, 151), (1, 4), (5, 149), (5, 150))),
  (⟨"TamerState", "back", "(I)I"⟩, prog_1_method_39_code, 3, (some .int), ((5, 157), (1, 1), (5, 155), (5, 156))),
  (⟨"TamerState", "count", "(I)I"⟩, prog_1_method_40_code, 2, (some .int), ((5, 161), (1, 1), (5, 159), (5, 160))),
  (⟨"TamerState$Scene", "armsOfAll", "()I"⟩, prog_9_method_11_code, 3, (some .int), ((5, 165), (1, 3), (5, 163), (5, 164))),
  (⟨"TamerState$Log", "size", "()I"⟩, prog_3_method_2_code, 1, (some .int), ((5, 169), (1, 11), (5, 167), (5, 168))),
  (⟨"TamerState", "status", "()I"⟩, prog_1_method_41_code, 1, (some .int), ((5, 173), (1, 1), (5, 171), (5, 172))),
  (⟨"TamerStateModel", "<init>", "()V"⟩, prog_13_method_1_code, 1, none, ((5, 178), (1, 12), (5, 177), (0, 0))),
  (⟨"TamerStateModel", "undo", "()I"⟩, prog_13_method_12_code, 1, (some .int), ((6, 146), (1, 12), (6, 144), (6, 145))),
  (⟨"TamerStateModel", "tell", "(I)I"⟩, prog_13_method_6_code, 2, (some .int), ((6, 150), (1, 12), (6, 149), (0, 51))),
  (⟨"TamerStateModel", "putBack", "(I)V"⟩, prog_13_method_10_code, 3, none, ((6, 154), (1, 12), (6, 153), (0, 52)))]
def xme5 : List (MethodName × ByteArray × Nat × Option FieldType × ((Nat × Nat) × (Nat × Nat) × (Nat × Nat) × (Nat × Nat))) := [
  (⟨"TamerStateModel", "image", "(I)I"⟩, prog_13_method_13_code, 3, (some .int), ((6, 158), (1, 12), (6, 156), (6, 157))),
  (⟨"TamerStateModel", "in", "(JJJ)Z"⟩, prog_13_method_3_code, 6, (some .boolean), ((6, 161), (1, 12), (6, 160), (0, 0))),
  (⟨"TamerStateModel", "back", "(I)I"⟩, prog_13_method_14_code, 3, (some .int), ((6, 165), (1, 12), (6, 163), (6, 164))),
  (⟨"TamerStateModel", "settled", "(I)I"⟩, prog_13_method_8_code, 2, (some .int), ((6, 169), (1, 12), (6, 168), (0, 53))),
  (⟨"TamerStateModel", "province", "(III)I"⟩, prog_13_method_20_code, 4, (some .int), ((6, 173), (1, 12), (6, 171), (6, 172))),
  (⟨"TamerStateModel", "come", "(III)I"⟩, prog_13_method_19_code, 6, (some .int), ((6, 177), (1, 12), (6, 176), (0, 54))),
  (⟨"TamerStateModel", "isTub", "(I)Z"⟩, prog_13_method_17_code, 1, (some .boolean), ((6, 181), (1, 12), (6, 180), (0, 0))),
  (⟨"TamerStateModel", "onTub", "(I)I"⟩, prog_13_method_18_code, 4, (some .int), ((6, 186), (1, 12), (6, 185), (0, 55))),
  (⟨"TamerStateModel", "of", "(II)I"⟩, prog_13_method_21_code, 3, (some .int), ((6, 190), (1, 12), (6, 188), (6, 189))),
  (⟨"TamerStateModel", "isProvince", "(I)Z"⟩, prog_13_method_15_code, 2, (some .boolean), ((6, 194), (1, 12), (6, 193), (0, 56))),
  (⟨"TamerStateModel", "hungersOf", "(I)I"⟩, prog_13_method_68_code, 2, (some .int), ((6, 198), (1, 12), (6, 197), (0, 57))),
  (⟨"TamerStateModel", "tells", "(IIIJ)J"⟩, prog_13_method_66_code, 10, (some .long), ((6, 202), (1, 12), (6, 201), (0, 58))),
  (⟨"TamerStateModel", "isSo", "(I)Z"⟩, prog_13_method_65_code, 2, (some .boolean), ((6, 207), (1, 12), (6, 206), (0, 59))),
  (⟨"TamerStateModel", "reckonAll", "(II)V"⟩, prog_13_method_64_code, 7, none, ((6, 211), (1, 12), (6, 210), (0, 60))),
  (⟨"TamerStateModel", "provinceWord", "(II)I"⟩, prog_13_method_62_code, 3, (some .int), ((6, 215), (1, 12), (6, 214), (0, 61))),
  (⟨"TamerStateModel", "isTamer", "(I)Z"⟩, prog_13_method_16_code, 2, (some .boolean), ((6, 219), (1, 12), (6, 218), (0, 62))),
  (⟨"TamerStateModel", "reckon", "(IJJ)J"⟩, prog_13_method_63_code, 6, (some .long), ((6, 223), (1, 12), (6, 222), (0, 63))),
  (⟨"TamerStateModel", "within", "(JII)I"⟩, prog_13_method_5_code, 4, (some .int), ((6, 228), (1, 12), (6, 227), (0, 0))),
  (⟨"TamerStateModel", "tamer", "(II)I"⟩, prog_13_method_22_code, 5, (some .int), ((6, 232), (1, 12), (6, 230), (6, 231))),
  (⟨"TamerStateModel", "at", "(II)I"⟩, prog_13_method_23_code, 3, (some .int), ((6, 238), (1, 12), (6, 236), (6, 237))),
  (⟨"TamerStateModel", "paysOf", "(I)I"⟩, prog_13_method_69_code, 2, (some .int), ((7, 2), (1, 12), (7, 1), (0, 64))),
  (⟨"TamerStateModel", "asks", "(III)I"⟩, prog_13_method_24_code, 4, (some .int), ((7, 7), (1, 12), (7, 5), (7, 6))),
  (⟨"TamerStateModel", "angersOf", "(II)I"⟩, prog_13_method_67_code, 4, (some .int), ((7, 11), (1, 12), (7, 10), (0, 65))),
  (⟨"TamerStateModel", "isBarred", "(II)Z"⟩, prog_13_method_70_code, 3, (some .boolean), ((7, 15), (1, 12), (7, 14), (0, 66))),
  (⟨"TamerStateModel", "isLoyal", "(II)Z"⟩, prog_13_method_71_code, 3, (some .boolean), ((7, 19), (1, 12), (7, 18), (0, 67))),
  (⟨"TamerStateModel", "would", "(II)I"⟩, prog_13_method_72_code, 4, (some .int), ((7, 23), (1, 12), (7, 22), (0, 68))),
  (⟨"TamerStateModel", "feud", "(III)I"⟩, prog_13_method_25_code, 5, (some .int), ((7, 27), (1, 12), (7, 25), (7, 26))),
  (⟨"TamerStateModel", "terms", "(II)I"⟩, prog_13_method_26_code, 4, (some .int), ((7, 31), (1, 12), (7, 29), (7, 30))),
  (⟨"TamerStateModel", "change", "(II)I"⟩, prog_13_method_7_code, 4, (some .int), ((7, 37), (1, 12), (7, 36), (0, 69))),
  (⟨"TamerStateModel", "row", "()I"⟩, prog_13_method_27_code, 4, (some .int), ((7, 41), (1, 12), (7, 39), (7, 40))),
  (⟨"TamerStateModel", "saucers", "()I"⟩, prog_13_method_28_code, 1, (some .int), ((7, 45), (1, 12), (7, 43), (7, 44))),
  (⟨"TamerStateModel", "feed", "(IIIII)I"⟩, prog_13_method_30_code, 6, (some .int), ((7, 49), (1, 12), (7, 47), (7, 48))),
  (⟨"TamerStateModel", "four", "(I)V"⟩, prog_13_method_29_code, 3, none, ((7, 53), (1, 12), (7, 52), (0, 70))),
  (⟨"TamerStateModel", "end", "(I)I"⟩, prog_13_method_31_code, 2, (some .int), ((7, 57), (1, 12), (7, 55), (7, 56))),
  (⟨"TamerStateModel", "fault", "()I"⟩, prog_13_method_40_code, 1, (some .int), ((7, 61), (1, 12), (7, 59), (7, 60))),
  (⟨"TamerStateModel", "law", "()I"⟩, prog_13_method_59_code, 3, (some .int), ((7, 65), (1, 12), (7, 63), (7, 64))),
  (⟨"TamerStateModel", "beginText", "(Z)V"⟩, prog_13_method_56_code, 2, none, ((7, 69), (1, 12), (7, 68), (0, 71))),
  (⟨"TamerStateModel", "begin", "()V"⟩, prog_13_method_34_code, 1, none, ((7, 73), (1, 12), (7, 72), (0, 72))),
  (⟨"TamerStateModel", "next", "()V"⟩, prog_13_method_35_code, 1, none, ((7, 77), (1, 12), (7, 76), (0, 73))),
  (⟨"TamerStateModel", "isSmall", "(I)Z"⟩, prog_13_method_32_code, 1, (some .boolean), ((7, 80), (1, 12), (7, 79), (0, 0)))]
def xme6 : List (MethodName × ByteArray × Nat × Option FieldType × ((Nat × Nat) × (Nat × Nat) × (Nat × Nat) × (Nat × Nat))) := [
  (⟨"TamerStateModel", "isDigit", "(I)Z"⟩, prog_13_method_33_code, 1, (some .boolean), ((7, 83), (1, 12), (7, 82), (0, 0))),
  (⟨"TamerStateModel", "readLaw", "()V"⟩, prog_13_method_58_code, 4, none, ((7, 91), (1, 12), (7, 90), (0, 74))),
  (⟨"TamerStateModel", "isWord", "(J)Z"⟩, prog_13_method_36_code, 3, (some .boolean), ((7, 95), (1, 12), (7, 94), (0, 75))),
  (⟨"TamerStateModel", "must", "(Z)V"⟩, prog_13_method_38_code, 2, none, ((7, 99), (1, 12), (7, 98), (0, 76))),
  (⟨"TamerStateModel", "readExpression", "(Z)V"⟩, prog_13_method_55_code, 3, none, ((7, 103), (1, 12), (7, 102), (0, 77))),
  (⟨"TamerStateModel", "readPlain", "()I"⟩, prog_13_method_52_code, 1, (some .int), ((7, 107), (1, 12), (7, 106), (0, 78))),
  (⟨"TamerStateModel", "push", "(II)V"⟩, prog_13_method_42_code, 3, none, ((7, 112), (1, 12), (7, 111), (0, 79))),
  (⟨"TamerStateModel", "isSign", "(I)Z"⟩, prog_13_method_37_code, 2, (some .boolean), ((7, 116), (1, 12), (7, 115), (0, 80))),
  (⟨"TamerStateModel", "openBracket", "(I)V"⟩, prog_13_method_49_code, 2, none, ((7, 120), (1, 12), (7, 119), (0, 81))),
  (⟨"TamerStateModel", "readPart", "()I"⟩, prog_13_method_51_code, 4, (some .int), ((7, 124), (1, 12), (7, 123), (0, 82))),
  (⟨"TamerStateModel", "orderPartAt", "()I"⟩, prog_13_method_48_code, 3, (some .int), ((7, 128), (1, 12), (7, 127), (0, 83))),
  (⟨"TamerStateModel", "partAt", "()I"⟩, prog_13_method_47_code, 3, (some .int), ((7, 132), (1, 12), (7, 131), (0, 84))),
  (⟨"TamerStateModel", "leaf", "(ZII)V"⟩, prog_13_method_50_code, 4, none, ((7, 137), (1, 12), (7, 136), (0, 85))),
  (⟨"TamerStateModel", "emit", "(II)V"⟩, prog_13_method_41_code, 3, none, ((7, 141), (1, 12), (7, 140), (0, 86))),
  (⟨"TamerStateModel", "number", "(JJ)I"⟩, prog_13_method_39_code, 6, (some .int), ((7, 146), (1, 12), (7, 145), (0, 87))),
  (⟨"TamerStateModel", "behindSum", "(Z)I"⟩, prog_13_method_53_code, 4, (some .int), ((7, 150), (1, 12), (7, 149), (0, 88))),
  (⟨"TamerStateModel", "binds", "(I)I"⟩, prog_13_method_43_code, 1, (some .int), ((7, 153), (1, 12), (7, 152), (0, 0))),
  (⟨"TamerStateModel", "settle", "(I)V"⟩, prog_13_method_44_code, 2, none, ((7, 157), (1, 12), (7, 156), (0, 89))),
  (⟨"TamerStateModel", "inner", "()I"⟩, prog_13_method_45_code, 3, (some .int), ((7, 161), (1, 12), (7, 160), (0, 90))),
  (⟨"TamerStateModel", "isCompared", "()Z"⟩, prog_13_method_46_code, 2, (some .boolean), ((7, 165), (1, 12), (7, 164), (0, 91))),
  (⟨"TamerStateModel", "behindTest", "()I"⟩, prog_13_method_54_code, 2, (some .int), ((7, 172), (1, 12), (7, 171), (0, 92))),
  (⟨"TamerStateModel", "endText", "()V"⟩, prog_13_method_57_code, 1, none, ((7, 179), (1, 12), (7, 178), (0, 93))),
  (⟨"TamerStateModel", "force", "(I)I"⟩, prog_13_method_61_code, 2, (some .int), ((7, 183), (1, 12), (7, 181), (7, 182))),
  (⟨"TamerStateModel", "isLaw", "(I)Z"⟩, prog_13_method_60_code, 2, (some .boolean), ((7, 187), (1, 12), (7, 186), (0, 94))),
  (⟨"TamerStateModel", "crack", "(II)I"⟩, prog_13_method_77_code, 3, (some .int), ((7, 191), (1, 12), (7, 189), (7, 190))),
  (⟨"TamerStateModel", "crackNow", "(II)I"⟩, prog_13_method_76_code, 3, (some .int), ((7, 195), (1, 12), (7, 194), (0, 95))),
  (⟨"TamerStateModel", "canCrack", "(II)Z"⟩, prog_13_method_75_code, 3, (some .boolean), ((7, 199), (1, 12), (7, 198), (0, 96))),
  (⟨"TamerStateModel", "remember", "(I)V"⟩, prog_13_method_11_code, 3, none, ((7, 203), (1, 12), (7, 202), (0, 97))),
  (⟨"TamerStateModel", "keepAll", "(I)V"⟩, prog_13_method_9_code, 3, none, ((7, 207), (1, 12), (7, 206), (0, 98))),
  (⟨"TamerStateModel", "crackIt", "(II)I"⟩, prog_13_method_74_code, 4, (some .int), ((7, 211), (1, 12), (7, 210), (0, 99))),
  (⟨"TamerStateModel", "temperBeside", "(II)V"⟩, prog_13_method_73_code, 5, none, ((7, 215), (1, 12), (7, 214), (0, 100))),
  (⟨"TamerStateModel", "meat", "(II)I"⟩, prog_13_method_80_code, 3, (some .int), ((7, 219), (1, 12), (7, 217), (7, 218))),
  (⟨"TamerStateModel", "feedNow", "(II)I"⟩, prog_13_method_79_code, 3, (some .int), ((7, 223), (1, 12), (7, 222), (0, 101))),
  (⟨"TamerStateModel", "feedIt", "(II)V"⟩, prog_13_method_78_code, 4, none, ((7, 227), (1, 12), (7, 226), (0, 102))),
  (⟨"TamerStateModel", "move", "(II)I"⟩, prog_13_method_82_code, 3, (some .int), ((7, 231), (1, 12), (7, 229), (7, 230))),
  (⟨"TamerStateModel", "moveNow", "(II)I"⟩, prog_13_method_81_code, 4, (some .int), ((7, 235), (1, 12), (7, 234), (0, 103))),
  (⟨"TamerStateModel", "pass", "()I"⟩, prog_13_method_85_code, 1, (some .int), ((7, 239), (1, 12), (7, 237), (7, 238))),
  (⟨"TamerStateModel", "passNow", "()I"⟩, prog_13_method_84_code, 1, (some .int), ((8, 3), (1, 12), (8, 2), (0, 104))),
  (⟨"TamerStateModel", "passIt", "()V"⟩, prog_13_method_83_code, 2, none, ((8, 7), (1, 12), (8, 6), (0, 105))),
  (⟨"TamerStateModel", "show", "(III)I"⟩, prog_13_method_90_code, 7, (some .int), ((8, 11), (1, 12), (8, 9), (8, 10)))]
def xme7 : List (MethodName × ByteArray × Nat × Option FieldType × ((Nat × Nat) × (Nat × Nat) × (Nat × Nat) × (Nat × Nat))) := [
  (⟨"TamerStateModel", "findShow", "(II)I"⟩, prog_13_method_89_code, 8, (some .int), ((8, 15), (1, 12), (8, 14), (0, 106))),
  (⟨"TamerStateModel", "is", "(II)Z"⟩, prog_13_method_4_code, 2, (some .boolean), ((8, 18), (1, 12), (8, 17), (0, 0))),
  (⟨"TamerStateModel", "keepAhead", "(I)V"⟩, prog_13_method_86_code, 3, none, ((8, 23), (1, 12), (8, 22), (0, 107))),
  (⟨"TamerStateModel", "putAhead", "(I)V"⟩, prog_13_method_87_code, 3, none, ((8, 27), (1, 12), (8, 26), (0, 108))),
  (⟨"TamerStateModel", "isNew", "(I)Z"⟩, prog_13_method_88_code, 4, (some .boolean), ((8, 31), (1, 12), (8, 30), (0, 109))),
  (⟨"TamerStateModel", "least", "(II)I"⟩, prog_13_method_92_code, 7, (some .int), ((8, 35), (1, 12), (8, 33), (8, 34))),
  (⟨"TamerStateModel", "feedings", "(II)I"⟩, prog_13_method_91_code, 6, (some .int), ((8, 39), (1, 12), (8, 38), (0, 110))),
  (⟨"TamerStateModel", "seats", "(I)I"⟩, prog_13_method_95_code, 3, (some .int), ((8, 43), (1, 12), (8, 41), (8, 42))),
  (⟨"TamerStateModel", "findSeats", "()I"⟩, prog_13_method_94_code, 5, (some .int), ((8, 47), (1, 12), (8, 46), (0, 111))),
  (⟨"TamerStateModel", "canSit", "(I)Z"⟩, prog_13_method_93_code, 6, (some .boolean), ((8, 51), (1, 12), (8, 50), (0, 112))),
  (⟨"TamerStateModel", "done", "(IIII)I"⟩, prog_13_method_96_code, 6, (some .int), ((8, 55), (1, 12), (8, 53), (8, 54))),
  (⟨"TamerStateModel", "forget", "()I"⟩, prog_13_method_97_code, 2, (some .int), ((8, 60), (1, 12), (8, 58), (8, 59))),
  (⟨"TamerStateModel", "one", "(I)I"⟩, prog_13_method_99_code, 6, (some .int), ((8, 64), (1, 12), (8, 62), (8, 63))),
  (⟨"TamerStateModel", "areOne", "(II)Z"⟩, prog_13_method_98_code, 7, (some .boolean), ((8, 68), (1, 12), (8, 67), (0, 113))),
  (⟨"TamerStateModel", "tempers", "(I)I"⟩, prog_13_method_101_code, 2, (some .int), ((8, 72), (1, 12), (8, 70), (8, 71))),
  (⟨"TamerStateModel", "tempersOf", "(I)I"⟩, prog_13_method_100_code, 7, (some .int), ((8, 76), (1, 12), (8, 75), (0, 114))),
  (⟨"TamerStateModel", "ask", "(II)I"⟩, prog_13_method_103_code, 8, (some .int), ((8, 80), (1, 12), (8, 78), (8, 79))),
  (⟨"TamerStateModel", "mostAlike", "(III)I"⟩, prog_13_method_102_code, 6, (some .int), ((8, 84), (1, 12), (8, 83), (0, 115))),
  (⟨"TamerStateModel", "governed", "(I)I"⟩, prog_13_method_106_code, 3, (some .int), ((8, 88), (1, 12), (8, 86), (8, 87))),
  (⟨"TamerStateModel", "findGoverned", "()I"⟩, prog_13_method_105_code, 7, (some .int), ((8, 92), (1, 12), (8, 91), (0, 116))),
  (⟨"TamerStateModel", "canGovern", "(I)Z"⟩, prog_13_method_104_code, 5, (some .boolean), ((8, 96), (1, 12), (8, 95), (0, 117))),
  (⟨"TamerStateModel", "calmest", "(I)I"⟩, prog_13_method_107_code, 6, (some .int), ((8, 100), (1, 12), (8, 98), (8, 99))),
  (⟨"TamerStateModel", "cubs", "(III)I"⟩, prog_13_method_111_code, 8, (some .int), ((8, 104), (1, 12), (8, 102), (8, 103))),
  (⟨"TamerStateModel", "power", "(I)I"⟩, prog_13_method_109_code, 4, (some .int), ((8, 109), (1, 12), (8, 108), (0, 118))),
  (⟨"TamerStateModel", "loyalBehind", "(III)I"⟩, prog_13_method_110_code, 7, (some .int), ((8, 113), (1, 12), (8, 112), (0, 119))),
  (⟨"TamerStateModel", "loyalTo", "(I)I"⟩, prog_13_method_108_code, 4, (some .int), ((8, 117), (1, 12), (8, 116), (0, 120))),
  (⟨"TamerStateModel", "safe", "(II)J"⟩, prog_13_method_112_code, 8, (some .long), ((8, 121), (1, 12), (8, 119), (8, 120))),
  (⟨"TamerStateModel", "compare", "(II)I"⟩, prog_13_method_113_code, 5, (some .int), ((8, 126), (1, 12), (8, 124), (8, 125))),
  (⟨"TamerStateModel", "orders", "()I"⟩, prog_13_method_119_code, 4, (some .int), ((8, 130), (1, 12), (8, 128), (8, 129))),
  (⟨"TamerStateModel", "readOrder", "()V"⟩, prog_13_method_115_code, 4, none, ((8, 134), (1, 12), (8, 133), (0, 121))),
  (⟨"TamerStateModel", "readSum", "(I)V"⟩, prog_13_method_114_code, 2, none, ((8, 138), (1, 12), (8, 137), (0, 122))),
  (⟨"TamerStateModel", "run", "(I)I"⟩, prog_13_method_118_code, 5, (some .int), ((8, 145), (1, 12), (8, 144), (0, 123))),
  (⟨"TamerStateModel", "sumOf", "(I)I"⟩, prog_13_method_116_code, 2, (some .int), ((8, 149), (1, 12), (8, 148), (0, 124))),
  (⟨"TamerStateModel", "act", "(III)I"⟩, prog_13_method_117_code, 4, (some .int), ((8, 153), (1, 12), (8, 152), (0, 125))),
  (⟨"TamerStateModel", "giveBack", "(I)V"⟩, prog_13_method_120_code, 3, none, ((8, 157), (1, 12), (8, 156), (0, 126))),
  (⟨"TamerStateModel", "stopped", "()I"⟩, prog_13_method_121_code, 1, (some .int), ((8, 161), (1, 12), (8, 159), (8, 160))),
  (⟨"TamerStateModel", "decades", "(II)I"⟩, prog_13_method_123_code, 8, (some .int), ((8, 165), (1, 12), (8, 163), (8, 164))),
  (⟨"TamerStateModel", "draw", "(I)I"⟩, prog_13_method_122_code, 2, (some .int), ((8, 170), (1, 12), (8, 169), (0, 127))),
  (⟨"TamerStateModel", "drawn", "(II)I"⟩, prog_13_method_124_code, 4, (some .int), ((8, 177), (1, 12), (8, 175), (8, 176))),
  (⟨"TamerStateModel", "count", "(I)I"⟩, prog_13_method_126_code, 2, (some .int), ((8, 181), (1, 12), (8, 179), (8, 180)))]
def xme8 : List (MethodName × ByteArray × Nat × Option FieldType × ((Nat × Nat) × (Nat × Nat) × (Nat × Nat) × (Nat × Nat))) := [
  (⟨"TamerStateModel", "allArms", "()I"⟩, prog_13_method_125_code, 3, (some .int), ((8, 185), (1, 12), (8, 184), (0, 128))),
  (⟨"TamerStateModel", "status", "()I"⟩, prog_13_method_127_code, 1, (some .int), ((8, 191), (1, 12), (8, 189), (8, 190)))]
def xme : List (MethodName × ByteArray × Nat × Option FieldType × ((Nat × Nat) × (Nat × Nat) × (Nat × Nat) × (Nat × Nat))) := xme0 ++ (xme1 ++ (xme2 ++ (xme3 ++ (xme4 ++ (xme5 ++ (xme6 ++ (xme7 ++ (xme8))))))))
/-- the pools that the methods use: entry, what it is, the place of its word -/
def xpl0 : List (Nat × XP × Nat × Nat) := [(7, (6, 10, 18, 0), 1, 21), (9, (3, 1, 10, 0), 1, 23), (10, (6, 11, 60, 0), 5, 174), (12, (3, 196, 11, 0), 5, 176), (13, (2, 13, 3010, 1), 2, 60), (17, (2, 204, 3011, 1), 6, 170), (18, (2, 23, 2010, 1), 2, 99), (22, (2, 208, 2011, 1), 6, 187), (23, (2, 43, 2010, 1), 2, 189), (26, (2, 218, 2011, 1), 6, 229), (27, (2, 46, 2010, 1), 2, 201), (30, (2, 219, 2011, 1), 6, 235), (31, (2, 49, 3010, 1), 2, 213), (34, (2, 221, 3011, 1), 7, 4), (35, (2, 54, 3010, 1), 2, 235), (38, (2, 226, 3011, 1), 7, 24), (39, (2, 56, 2010, 1), 3, 3), (42, (2, 227, 2011, 1), 7, 28), (43, (2, 57, 5010, 1), 3, 10), (47, (2, 231, 5011, 1), 7, 46), (48, (2, 61, 1010, 1), 3, 26), (52, (2, 233, 1011, 1), 7, 54), (53, (2, 63, 10, 1), 3, 34), (57, (2, 229, 11, 1), 7, 38), (58, (2, 67, 10, 1), 3, 50), (61, (2, 230, 11, 1), 7, 42), (62, (2, 68, 10, 1), 3, 54), (65, (2, 235, 11, 1), 7, 62), (66, (2, 108, 10, 1), 4, 16), (69, (2, 308, 11, 1), 8, 127), (70, (2, 130, 10, 1), 4, 119), (73, (2, 234, 11, 1), 7, 58), (74, (2, 132, 10, 1), 4, 127), (77, (2, 315, 11, 1), 8, 158), (78, (2, 133, 1010, 1), 4, 131), (81, (2, 262, 1011, 1), 7, 180), (82, (2, 135, 2010, 1), 4, 139), (85, (2, 264, 2011, 1), 7, 188), (86, (2, 137, 2010, 1), 4, 147), (89, (2, 271, 2011, 1), 7, 216), (90, (2, 138, 2010, 1), 4, 151), (93, (2, 274, 2011, 1), 7, 228), (94, (2, 139, 10, 1), 4, 155), (97, (2, 276, 11, 1), 7, 236), (98, (2, 140, 10, 1), 4, 159), (101, (2, 197, 11, 1), 6, 143), (102, (2, 143, 3010, 1), 4, 171), (105, (2, 279, 3011, 1), 8, 8), (106, (2, 151, 2010, 1), 4, 215), (109, (2, 285, 2011, 1), 8, 32), (110, (2, 153, 1010, 1), 4, 224), (113, (2, 287, 1011, 1), 8, 40), (114, (2, 157, 4010, 1), 5, 3), (118, (2, 290, 4011, 1), 8, 52), (119, (2, 160, 10, 1), 5, 15), (122, (2, 291, 11, 1), 8, 57), (123, (2, 162, 1010, 1), 5, 23), (126, (2, 292, 1011, 1), 8, 61), (127, (2, 166, 1010, 1), 5, 39), (130, (2, 294, 1011, 1), 8, 69), (131, (2, 169, 2010, 1), 5, 52), (134, (2, 296, 2011, 1), 8, 77), (135, (2, 172, 1010, 1), 5, 64), (138, (2, 298, 1011, 1), 8, 85), (139, (2, 175, 1010, 1), 5, 79), (142, (2, 301, 1011, 1), 8, 97), (143, (2, 176, 3010, 1), 5, 83), (146, (2, 302, 3011, 1), 8, 101), (147, (2, 181, 2010, 2), 5, 105), (151, (2, 306, 2011, 2), 8, 118), (152, (2, 183, 2010, 1), 5, 115), (155, (2, 307, 2011, 1), 8, 123), (156, (2, 184, 2010, 1), 5, 120), (159, (2, 316, 2011, 1), 8, 162), (160, (2, 187, 2010, 1), 5, 135), (163, (2, 318, 2011, 1), 8, 174), (164, (2, 188, 1010, 1), 5, 139), (167, (2, 200, 1011, 1), 6, 155), (168, (2, 191, 1010, 1), 5, 154), (171, (2, 202, 1011, 1), 6, 162), (172, (2, 192, 1010, 1), 5, 158), (175, (2, 319, 1011, 1), 8, 178), (176, (2, 195, 10, 1), 5, 170), (179, (2, 321, 11, 1), 8, 188)]
def xpl1 : List (Nat × XP × Nat × Nat) := [(3, (5, 0, 0, 0), 1, 51), (11, (1, 0, 0, 6), 1, 52), (15, (1, 0, 1, 0), 1, 53), (19, (2, 164, 2000, 1), 5, 31), (23, (2, 165, 2000, 1), 5, 35), (27, (30, 0, 0, 0), 5, 152)]
def xpl2 : List (Nat × XP × Nat × Nat) := [(3, (5, 0, 0, 0), 1, 227), (11, (1, 1, 0, 6), 1, 228), (17, (1, 1, 1, 6), 1, 229), (20, (1, 1, 3, 0), 1, 231), (24, (1, 1, 2, 0), 1, 230), (27, (2, 116, 2007, 0), 4, 53), (31, (32, 0, 0, 0), 4, 57), (37, (2, 142, 2007, 0), 4, 167), (40, (30, 0, 0, 0), 4, 29)]
def xpl3 : List (Nat × XP × Nat × Nat) := [(1, (5, 0, 0, 0), 1, 167), (9, (1, 2, 0, 6), 1, 168), (13, (1, 2, 1, 0), 1, 169), (17, (2, 35, 5, 1), 2, 149), (23, (2, 36, 1005, 1), 2, 153), (27, (2, 37, 1005, 1), 2, 157), (30, (2, 38, 1002, 1), 2, 161), (34, (2, 39, 1002, 1), 2, 165), (37, (21, 18446744072709551616, 0, 0), 2, 169), (39, (21, 1000000000, 0, 0), 2, 170)]
def xpl4 : List (Nat × XP × Nat × Nat) := [(5, (5, 0, 0, 0), 1, 108), (11, (6, 5, 4, 0), 1, 109), (13, (3, 8, 4005, 0), 1, 111), (16, (1, 3, 1, 6), 1, 129), (20, (1, 3, 2, 6), 1, 130), (24, (1, 3, 3, 6), 1, 131), (27, (1, 3, 6, 0), 1, 134), (31, (1, 3, 8, 0), 1, 136), (34, (1, 3, 0, 6), 1, 128), (38, (1, 3, 4, 3), 1, 132), (42, (2, 70, 5, 0), 3, 62), (45, (1, 3, 7, 0), 1, 135), (48, (2, 71, 3, 0), 3, 66), (51, (2, 66, 8, 0), 3, 139), (54, (2, 83, 3, 1), 3, 140), (58, (2, 103, 3, 1), 3, 222), (61, (2, 92, 1003, 1), 3, 179), (65, (2, 84, 3, 1), 3, 145), (68, (2, 60, 8, 1), 3, 70), (72, (2, 65, 1008, 1), 3, 71), (76, (4, 72, 1, 1), 3, 72), (79, (2, 73, 3003, 1), 3, 75), (83, (1, 3, 5, 0), 1, 133), (86, (2, 74, 2008, 1), 3, 79), (90, (22, 3, 0, 0), 3, 85), (92, (2, 75, 3008, 1), 3, 86), (96, (22, 5, 0, 0), 3, 138), (98, (2, 87, 3, 0), 3, 157), (101, (4, 15, 2, 1), 3, 144), (105, (2, 85, 1005, 0), 3, 149), (109, (2, 88, 1003, 1), 3, 161), (112, (2, 97, 3, 1), 3, 198), (115, (2, 96, 3, 1), 3, 194), (118, (4, 93, 1, 1), 3, 183), (121, (2, 86, 2005, 0), 3, 166), (125, (2, 35, 5, 1), 3, 165), (128, (2, 98, 1003, 1), 3, 202), (131, (2, 95, 2005, 1), 3, 190), (134, (2, 89, 1003, 1), 3, 167), (137, (2, 99, 1003, 1), 3, 206), (140, (2, 102, 1005, 0), 3, 218), (143, (2, 100, 1003, 1), 3, 210), (146, (2, 101, 3, 1), 3, 214), (149, (2, 90, 1003, 1), 3, 171), (152, (2, 91, 1003, 1), 3, 175), (155, (2, 94, 3, 1), 3, 186)]
def xpl5 : List (Nat × XP × Nat × Nat) := [(3, (5, 0, 0, 0), 1, 188), (9, (6, 7, 1, 0), 1, 189), (11, (3, 3, 7, 0), 1, 190), (12, (1, 4, 1, 6), 1, 192), (18, (1, 4, 2, 6), 1, 193), (22, (1, 4, 3, 6), 1, 194), (25, (1, 4, 4, 6), 1, 195), (28, (1, 4, 5, 6), 1, 196), (31, (1, 4, 6, 6), 1, 197), (34, (1, 4, 7, 6), 1, 198), (37, (1, 4, 0, 6), 1, 191), (41, (1, 4, 8, 0), 1, 199), (45, (30, 0, 0, 0), 4, 196), (51, (2, 145, 3004, 0), 4, 179), (55, (1, 9, 0, 6), 1, 67), (60, (2, 109, 1007, 0), 4, 184), (64, (2, 146, 4004, 0), 4, 188), (68, (2, 25, 9, 3), 4, 183), (72, (2, 5, 3007, 0), 4, 185), (76, (2, 51, 4006, 1), 4, 186), (82, (2, 53, 4006, 1), 4, 187), (86, (2, 18, 2007, 1), 4, 202), (90, (2, 147, 1004, 0), 4, 192), (94, (2, 116, 2007, 0), 4, 197), (98, (2, 148, 1004, 1), 4, 198), (102, (2, 127, 3007, 0), 4, 203), (105, (2, 142, 2007, 0), 4, 204), (108, (2, 19, 7, 1), 4, 232), (112, (1, 4, 9, 0), 1, 200), (114, (2, 155, 4004, 1), 4, 233), (118, (2, 156, 3004, 1), 4, 237), (122, (2, 42, 1009, 1), 5, 1), (125, (4, 129, 2, 1), 5, 2), (129, (4, 171, 2, 0), 5, 72), (134, (2, 44, 7, 1), 5, 73), (137, (2, 52, 4006, 1), 5, 74), (140, (2, 174, 2004, 0), 5, 75), (144, (2, 178, 5004, 1), 5, 91), (148, (2, 179, 2004, 0), 5, 97), (151, (2, 123, 2007, 0), 5, 95), (154, (2, 118, 4007, 0), 5, 96), (157, (2, 180, 4, 1), 5, 101)]
def xpl6 : List (Nat × XP × Nat × Nat) := [(3, (5, 0, 0, 0), 1, 114), (9, (1, 5, 0, 6), 1, 115), (10, (6, 5, 4, 0), 4, 9), (15, (1, 5, 1, 6), 1, 116), (18, (1, 5, 2, 0), 1, 117), (22, (1, 5, 3, 0), 1, 118), (25, (31, 0, 0, 0), 3, 234), (31, (4, 106, 2, 3), 3, 235), (37, (3, 8, 4005, 0), 4, 10), (40, (2, 86, 2005, 0), 3, 153)]
def xpl7 : List (Nat × XP × Nat × Nat) := [(3, (5, 0, 0, 0), 1, 161), (9, (6, 2, 2, 0), 1, 162), (11, (3, 10, 2, 0), 1, 164), (12, (1, 6, 0, 6), 1, 176), (18, (1, 6, 1, 6), 1, 177), (22, (2, 28, 3006, 0), 2, 120), (26, (2, 31, 2006, 1), 2, 133), (30, (2, 41, 1006, 1), 2, 175), (34, (31, 0, 0, 0), 2, 182), (40, (2, 50, 4006, 1), 2, 230), (46, (2, 18, 2007, 1), 2, 124), (49, (2, 118, 4007, 0), 4, 64), (53, (2, 123, 2007, 0), 4, 88), (57, (2, 19, 7, 1), 4, 62), (61, (2, 27, 3006, 1), 4, 63), (65, (2, 44, 7, 1), 4, 70), (68, (2, 48, 3006, 1), 4, 71), (73, (2, 33, 2005, 1), 2, 141), (76, (2, 34, 3002, 1), 2, 145), (80, (2, 40, 2, 1), 2, 171), (83, (32, 0, 0, 0), 2, 179), (86, (2, 29, 2007, 1), 2, 125), (89, (2, 30, 7, 1), 2, 129), (92, (2, 32, 5, 1), 2, 137)]
def xpl8 : List (Nat × XP × Nat × Nat) := [(3, (5, 0, 0, 0), 1, 40), (11, (1, 7, 0, 6), 1, 41), (15, (2, 18, 2007, 1), 2, 78), (19, (32, 0, 0, 0), 4, 68), (24, (31, 0, 0, 0), 4, 69), (27, (2, 5, 3007, 0), 2, 94), (31, (2, 118, 4007, 0), 4, 92), (35, (2, 128, 2007, 0), 4, 109), (39, (4, 129, 2, 1), 4, 113), (43, (33, 0, 0, 0), 4, 116), (47, (30, 0, 0, 0), 4, 24)]
def xpl9 : List (Nat × XP × Nat × Nat) := [(3, (5, 0, 0, 0), 1, 95), (9, (1, 8, 0, 6), 1, 96), (15, (1, 8, 1, 0), 1, 97), (19, (2, 65, 1008, 1), 3, 83), (23, (32, 0, 0, 0), 3, 84), (29, (13, 76, 0, 1), 3, 90), (34, (13, 78, 1000, 1), 3, 100)]
def xpl10 : List (Nat × XP × Nat × Nat) := [(3, (5, 0, 0, 0), 1, 34), (9, (6, 7, 1, 0), 1, 35), (11, (3, 3, 7, 0), 1, 37), (12, (1, 9, 0, 6), 1, 65), (18, (6, 0, 2, 0), 1, 46), (20, (3, 4, 0, 0), 1, 48), (21, (1, 9, 1, 6), 1, 68), (25, (1, 9, 2, 6), 1, 70), (29, (7, 54, 0, 0), 1, 59), (31, (1, 9, 3, 6), 1, 71), (35, (1, 9, 5, 0), 1, 74), (39, (2, 5, 3007, 0), 1, 61), (43, (1, 9, 4, 0), 1, 72), (46, (2, 26, 1009, 3), 2, 112), (50, (2, 109, 1007, 0), 5, 147), (54, (2, 190, 1000, 0), 5, 148), (57, (30, 0, 0, 0), 5, 153)]
def xpl11 : List (Nat × XP × Nat × Nat) := [(1, (5, 0, 0, 0), 1, 26), (7, (6, 9, 6, 0), 1, 29), (7, (7, 53, 0, 0), 1, 29), (9, (3, 2, 9, 0), 1, 31), (10, (1, 10, 0, 6), 2, 5), (16, (1, 10, 1, 6), 2, 6), (20, (6, 8, 2, 0), 1, 90), (22, (3, 6, 8, 0), 1, 92), (23, (1, 10, 2, 6), 2, 7), (27, (6, 3, 9, 0), 1, 103), (29, (3, 7, 1003, 0), 1, 105), (32, (1, 10, 3, 6), 2, 8), (36, (6, 6, 2, 0), 1, 156), (38, (3, 9, 6, 0), 1, 158), (39, (1, 10, 4, 6), 2, 9), (43, (6, 4, 10, 0), 1, 183), (45, (3, 11, 1004, 0), 1, 185), (48, (1, 10, 5, 6), 2, 10), (52, (6, 1, 4, 0), 1, 222), (54, (3, 12, 1, 0), 1, 224), (55, (1, 10, 6, 6), 2, 11), (59, (1, 10, 7, 6), 2, 12), (62, (6, 7, 1, 0), 2, 1), (64, (3, 3, 7, 0), 2, 2), (65, (1, 10, 8, 6), 2, 13), (69, (1, 10, 9, 6), 2, 14), (72, (1, 10, 10, 6), 2, 15), (75, (1, 10, 11, 6), 2, 16), (79, (1, 10, 12, 6), 2, 17), (83, (1, 10, 13, 6), 2, 18), (86, (9, 1, 0, 0), 2, 3), (89, (1, 10, 14, 6), 2, 19), (92, (1, 10, 16, 0), 2, 21), (96, (4, 14, 3, 1), 2, 64), (100, (2, 16, 1010, 1), 2, 70), (104, (1, 9, 0, 6), 1, 66), (107, (2, 17, 1007, 1), 2, 74), (110, (2, 19, 7, 1), 2, 82), (114, (2, 20, 1, 0), 2, 86), (117, (2, 21, 3007, 1), 2, 90), (121, (2, 22, 1010, 1), 2, 95), (124, (2, 24, 1007, 1), 2, 103), (128, (2, 18, 2007, 1), 2, 107), (132, (2, 25, 9, 3), 2, 108), (136, (2, 27, 3006, 1), 2, 116), (140, (2, 42, 1009, 1), 2, 185), (143, (4, 15, 2, 1), 2, 67), (147, (2, 44, 7, 1), 2, 193), (150, (2, 45, 2007, 1), 2, 197), (153, (2, 47, 1007, 1), 2, 205), (156, (2, 48, 3006, 1), 2, 209), (159, (2, 29, 2007, 1), 2, 217), (162, (2, 50, 4006, 1), 2, 218), (166, (2, 51, 4006, 1), 2, 222), (170, (2, 52, 4006, 1), 2, 226), (173, (2, 53, 4006, 1), 2, 231), (176, (2, 55, 3009, 1), 2, 239), (179, (9, 2, 0, 0), 3, 7), (182, (2, 5, 3007, 0), 3, 9), (186, (2, 58, 1008, 1), 3, 14), (189, (2, 59, 1008, 0), 3, 18), (193, (2, 60, 8, 1), 3, 22), (196, (2, 62, 1008, 1), 3, 30), (199, (1, 10, 15, 0), 2, 20), (202, (2, 64, 1010, 1), 3, 38), (205, (2, 66, 8, 0), 3, 46), (206, (1, 9, 4, 0), 1, 73), (209, (2, 69, 1003, 1), 3, 58), (213, (2, 104, 3, 3), 3, 226), (216, (2, 105, 5, 3), 3, 230), (221, (2, 107, 1009, 1), 4, 11), (225, (2, 109, 1007, 0), 4, 20), (229, (2, 110, 1001, 0), 4, 25), (232, (2, 32, 5, 1), 4, 30), (235, (2, 33, 2005, 1), 4, 31), (238, (2, 111, 10, 0), 4, 32), (241, (2, 112, 3006, 1), 4, 37), (245, (2, 113, 2010, 1), 4, 41), (249, (2, 131, 3, 1), 4, 123), (252, (2, 134, 1009, 1), 4, 135), (255, (1, 9, 5, 0), 1, 75), (258, (2, 125, 2010, 1), 4, 97), (261, (2, 136, 1010, 1), 4, 143), (264, (2, 121, 2010, 1), 4, 80), (267, (2, 124, 2010, 1), 4, 93), (270, (2, 114, 10, 1), 4, 45), (273, (2, 141, 1001, 1), 4, 163), (277, (2, 144, 3004, 1), 4, 175), (281, (4, 149, 1, 1), 4, 205), (286, (2, 150, 1004, 1), 4, 211), (289, (2, 152, 2010, 1), 4, 219), (292, (2, 154, 1004, 1), 4, 228), (296, (1, 9, 1, 6), 1, 69), (300, (2, 158, 0, 1), 5, 7), (305, (2, 159, 4000, 1), 5, 11), (308, (2, 161, 0, 0), 5, 19), (309, (2, 163, 2000, 1), 5, 27), (312, (2, 167, 1010, 1), 5, 43), (315, (2, 170, 3010, 1), 5, 56), (318, (2, 173, 1004, 1), 5, 68), (321, (2, 177, 3004, 1), 5, 87), (324, (21, 18446744073709551615, 0, 0), 5, 109), (326, (4, 182, 2, 0), 5, 110), (332, (21, 1000000000000, 0, 0), 5, 113), (334, (21, 10, 0, 0), 5, 114), (336, (2, 26, 1009, 3), 5, 119), (340, (20, 1000000, 0, 0), 5, 124), (341, (2, 30, 7, 1), 4, 36), (344, (4, 185, 1, 1), 5, 125), (347, (2, 186, 3010, 1), 5, 131), (351, (2, 122, 3006, 0), 4, 84), (355, (2, 117, 2006, 0), 4, 58), (359, (2, 189, 1009, 0), 5, 143), (362, (2, 193, 7, 1), 5, 162), (365, (2, 194, 1, 1), 5, 166), (366, (1, 10, 17, 0), 2, 22), (369, (21, 1103, 0, 0), 5, 128), (371, (21, 12345, 0, 0), 5, 129), (373, (21, 1000003, 0, 0), 5, 130), (375, (2, 65, 1008, 1), 3, 42), (378, (2, 126, 3010, 1), 4, 101), (381, (2, 115, 2001, 0), 4, 49), (385, (2, 127, 3007, 0), 4, 105), (388, (2, 119, 3006, 1), 4, 72), (391, (2, 120, 6, 1), 4, 76), (394, (2, 123, 2007, 0), 4, 223), (398, (2, 168, 1010, 1), 5, 47), (401, (2, 164, 2000, 1), 5, 51), (402, (4, 171, 2, 0), 5, 60), (405, (31, 0, 0, 0), 5, 63)]
def xpl12 : List (Nat × XP × Nat × Nat) := [(1, (5, 0, 0, 0), 5, 179), (7, (1, 11, 2, 6), 5, 203), (13, (1, 11, 3, 6), 5, 204), (16, (1, 11, 4, 6), 5, 205), (19, (1, 11, 5, 6), 5, 206), (23, (1, 11, 6, 6), 5, 207), (26, (1, 11, 7, 6), 5, 208), (29, (1, 11, 9, 6), 5, 210), (32, (1, 11, 10, 6), 5, 211), (35, (1, 11, 12, 6), 5, 213), (38, (1, 11, 18, 0), 5, 219), (42, (1, 11, 22, 6), 5, 223), (45, (1, 11, 24, 6), 5, 225), (48, (1, 11, 25, 6), 5, 226), (51, (1, 11, 27, 6), 5, 228), (54, (1, 11, 28, 6), 5, 229), (57, (21, 21017778, 0, 0), 5, 180), (59, (21, 569609861221, 0, 0), 5, 181), (61, (21, 290921650, 0, 0), 5, 182), (63, (21, 676774066, 0, 0), 5, 183), (65, (21, 441892441, 0, 0), 5, 184), (67, (21, 14863045, 0, 0), 5, 185), (69, (21, 431156, 0, 0), 5, 186), (71, (21, 21154, 0, 0), 5, 187), (73, (21, 4153, 0, 0), 5, 188), (75, (21, 441828, 0, 0), 5, 189), (77, (1, 11, 31, 6), 5, 232), (81, (21, 146885, 0, 0), 5, 190), (83, (21, 404362868, 0, 0), 5, 191), (85, (21, 51635, 0, 0), 5, 192), (87, (1, 11, 32, 6), 5, 233), (90, (21, 48469587, 0, 0), 5, 193), (92, (21, 9309492819, 0, 0), 5, 194), (94, (21, 526131, 0, 0), 5, 195), (96, (21, 67155, 0, 0), 5, 196), (98, (1, 11, 33, 6), 5, 234), (101, (1, 11, 35, 6), 5, 236), (104, (1, 11, 36, 6), 5, 237), (107, (1, 11, 37, 6), 5, 238), (110, (1, 11, 41, 6), 6, 2), (113, (1, 11, 42, 6), 6, 3), (116, (1, 11, 43, 6), 6, 4), (119, (1, 11, 44, 6), 6, 5), (122, (1, 11, 45, 6), 6, 6), (125, (1, 11, 46, 6), 6, 7), (128, (1, 11, 47, 6), 6, 8), (131, (1, 11, 48, 6), 6, 9), (134, (1, 11, 49, 6), 6, 10), (137, (21, 3736683, 0, 0), 5, 197), (139, (21, 201892, 0, 0), 5, 198), (141, (21, 442053, 0, 0), 5, 199), (143, (21, 525939, 0, 0), 5, 200), (145, (1, 11, 50, 6), 6, 11), (148, (1, 11, 51, 6), 6, 12), (151, (1, 11, 54, 0), 6, 15), (154, (1, 11, 57, 6), 6, 18), (157, (1, 11, 58, 0), 6, 19), (160, (1, 11, 59, 0), 6, 20), (163, (1, 11, 0, 0), 5, 201), (166, (1, 11, 1, 0), 5, 202), (169, (1, 11, 8, 0), 5, 209), (172, (2, 198, 1011, 1), 6, 147), (176, (2, 268, 1011, 0), 7, 204), (180, (2, 199, 1011, 0), 6, 151), (183, (4, 201, 3, 1), 6, 159), (187, (2, 203, 1011, 1), 6, 166), (190, (21, 7, 0, 0), 6, 182), (192, (21, 9, 0, 0), 6, 178), (194, (4, 206, 1, 1), 6, 179), (198, (2, 207, 1011, 1), 6, 183), (201, (2, 205, 3011, 1), 6, 174), (205, (2, 209, 1011, 1), 6, 191), (208, (2, 210, 1011, 1), 6, 195), (211, (21, 20, 0, 0), 6, 233), (213, (21, 99, 0, 0), 6, 234), (215, (2, 215, 1011, 1), 6, 216), (218, (2, 220, 1011, 1), 6, 239), (221, (2, 222, 2011, 1), 7, 8), (225, (2, 223, 2011, 1), 7, 12), (229, (2, 224, 2011, 1), 7, 16), (232, (2, 225, 2011, 1), 7, 20), (235, (21, 999, 0, 0), 7, 32), (237, (21, 10, 0, 0), 7, 33), (239, (2, 228, 2011, 1), 7, 34), (242, (1, 11, 13, 0), 5, 214), (245, (1, 11, 11, 0), 5, 212), (248, (2, 232, 1011, 0), 7, 50), (251, (1, 11, 15, 0), 5, 216), (254, (1, 11, 19, 3), 5, 220), (258, (2, 238, 11, 0), 7, 74), (261, (1, 11, 14, 0), 5, 215), (264, (1, 11, 17, 1), 5, 218), (268, (4, 239, 1, 1), 7, 78), (271, (4, 240, 1, 1), 7, 81), (274, (1, 11, 16, 0), 5, 217), (277, (21, 32, 0, 0), 7, 84), (279, (21, 96, 0, 0), 7, 85), (281, (21, 18446744073709551615, 0, 0), 6, 203), (283, (21, 1000000, 0, 0), 7, 86), (285, (21, 48, 0, 0), 7, 87), (287, (2, 243, 1011, 0), 7, 96), (291, (1, 11, 23, 0), 5, 224), (294, (1, 11, 29, 0), 5, 230), (297, (4, 256, 1, 1), 7, 151), (300, (2, 253, 2011, 0), 7, 138), (304, (21, 24, 0, 0), 7, 166), (306, (21, 25, 0, 0), 7, 167), (308, (21, 27, 0, 0), 7, 168), (310, (2, 242, 1011, 1), 7, 92), (314, (1, 11, 30, 0), 5, 231), (317, (2, 246, 2011, 0), 7, 109), (320, (1, 11, 26, 0), 5, 227), (323, (2, 247, 1011, 1), 7, 113), (326, (2, 248, 1011, 0), 7, 117), (329, (1, 11, 20, 3), 5, 221), (332, (2, 250, 11, 1), 7, 125), (336, (2, 251, 11, 1), 7, 129), (339, (21, 1000, 0, 0), 7, 133), (341, (2, 252, 3011, 0), 7, 134), (345, (21, 5, 0, 0), 7, 3), (347, (21, 3, 0, 0), 7, 142), (349, (2, 254, 2011, 1), 7, 143), (353, (21, 14836, 0, 0), 7, 108), (355, (2, 249, 11, 1), 7, 121), (358, (2, 257, 1011, 0), 7, 154), (361, (2, 258, 11, 1), 7, 158), (364, (2, 259, 11, 1), 7, 162), (368, (21, 1476, 0, 0), 7, 173), (370, (21, 498, 0, 0), 7, 174), (372, (2, 245, 11, 1), 7, 104), (375, (2, 255, 1011, 1), 7, 147), (379, (2, 260, 11, 1), 7, 169), (382, (2, 237, 11, 0), 7, 70), (385, (1, 11, 21, 0), 5, 222), (388, (2, 244, 1011, 0), 7, 100), (391, (21, 294, 0, 0), 7, 175), (393, (2, 236, 1011, 0), 7, 66), (396, (2, 241, 11, 0), 7, 88), (399, (2, 261, 11, 0), 7, 176), (402, (2, 263, 1011, 1), 7, 184), (405, (1, 11, 38, 3), 5, 239), (408, (1, 11, 34, 0), 5, 235), (411, (2, 214, 2011, 1), 6, 212), (414, (2, 216, 3011, 2), 6, 220), (418, (21, 18446744072709551616, 0, 0), 6, 224), (420, (21, 1000000000, 0, 0), 6, 225), (422, (1, 11, 39, 1), 6, 0), (425, (2, 213, 2011, 0), 6, 208), (428, (1, 11, 40, 1), 6, 1), (431, (2, 212, 1011, 1), 6, 204), (434, (2, 211, 4011, 2), 6, 199), (438, (4, 217, 3, 1), 6, 226), (442, (2, 270, 2011, 0), 7, 212), (445, (2, 266, 2011, 1), 7, 196), (448, (2, 267, 1011, 0), 7, 200), (451, (2, 269, 2011, 1), 7, 208), (454, (2, 265, 2011, 1), 7, 192), (457, (2, 273, 2011, 0), 7, 224), (460, (2, 272, 2011, 1), 7, 220), (463, (2, 275, 2011, 1), 7, 232), (466, (2, 278, 11, 0), 8, 4), (469, (2, 277, 11, 1), 8, 0), (472, (4, 281, 2, 1), 8, 16), (475, (20, 100000000, 0, 0), 8, 19), (476, (2, 282, 1011, 0), 8, 20), (479, (2, 283, 1011, 0), 8, 24), (482, (2, 284, 1011, 1), 8, 28), (485, (2, 280, 2011, 1), 8, 12), (488, (2, 286, 2011, 1), 8, 36), (491, (2, 289, 1011, 1), 8, 48), (494, (2, 288, 11, 1), 8, 44), (497, (21, 2, 0, 0), 8, 56), (499, (2, 293, 2011, 1), 8, 65), (502, (2, 295, 1011, 1), 8, 73), (505, (2, 297, 3011, 1), 8, 81), (508, (2, 300, 1011, 1), 8, 93), (511, (2, 299, 11, 1), 8, 89), (514, (2, 303, 1011, 1), 8, 106), (517, (2, 305, 1011, 1), 8, 114), (520, (21, 4, 0, 0), 8, 105), (522, (2, 304, 3011, 1), 8, 110), (525, (21, 1000000000000, 0, 0), 8, 122), (527, (2, 310, 1011, 0), 8, 135), (530, (21, 52, 0, 0), 8, 139), (532, (21, 655, 0, 0), 8, 140), (534, (21, 21279923, 0, 0), 8, 141), (536, (1, 11, 55, 3), 6, 16), (539, (1, 11, 52, 0), 6, 13), (542, (1, 11, 53, 0), 6, 14), (545, (2, 312, 1011, 1), 8, 146), (548, (2, 313, 3011, 1), 8, 150), (551, (2, 309, 11, 0), 8, 131), (554, (2, 311, 1011, 1), 8, 142), (557, (2, 314, 1011, 0), 8, 154), (560, (1, 11, 56, 1), 6, 17), (563, (21, 1103, 0, 0), 8, 171), (565, (21, 12345, 0, 0), 8, 172), (567, (21, 1000003, 0, 0), 8, 173), (569, (21, 60, 0, 0), 8, 166), (571, (2, 317, 1011, 1), 8, 167), (574, (2, 320, 11, 1), 8, 182), (577, (21, 13, 0, 0), 8, 186), (579, (21, 15, 0, 0), 8, 187)]
def xpl13 : List (Nat × XP × Nat × Nat) := [(265, (20, 1431655765, 0, 0), 4, 208), (266, (20, 858993459, 0, 0), 4, 209), (267, (20, 252645135, 0, 0), 4, 210)]
def xpl14 : List (Nat × XP × Nat × Nat) := [(9, (12, 0, 0, 0), 8, 192), (15, (12, 1, 0, 0), 8, 193), (38, (10, 1, 0, 0), 3, 98), (335, (13, 77, 0, 1), 3, 94), (492, (13, 79, 0, 1), 3, 104), (495, (4, 80, 2, 1), 3, 108), (1053, (9, 7, 0, 0), 3, 114), (1059, (4, 82, 3, 1), 3, 116)]
def xpl15 : List (Nat × XP × Nat × Nat) := [(9, (4, 81, 2, 0), 3, 111)]
def xpl16 : List (Nat × XP × Nat × Nat) := [(150, (30, 0, 0, 0), 4, 6), (304, (32, 0, 0, 0), 4, 5), (316, (34, 0, 0, 0), 3, 238), (317, (35, 0, 0, 0), 4, 4)]
def xpl17 : List (Nat × XP × Nat × Nat) := []
def xow : List (String × List (Nat × XP × Nat × Nat)) := [("TamerStateLaw", xpl0), ("TamerState$Deeds", xpl1), ("TamerState$Log", xpl2), ("TamerState$Machine", xpl3), ("TamerState$Parser", xpl4), ("TamerState$Plans", xpl5), ("TamerState$Program", xpl6), ("TamerState$Rules", xpl7), ("TamerState$Scene", xpl8), ("TamerState$Tape", xpl9), ("TamerState$World", xpl10), ("TamerState", xpl11), ("TamerStateModel", xpl12), ("java/lang/Integer", xpl13), ("java/lang/String", xpl14), ("java/lang/StringLatin1", xpl15), ("java/util/Arrays", xpl16), ("jdk/internal/util/Preconditions", xpl17)]
