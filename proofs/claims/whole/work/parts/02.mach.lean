/-! printed by wip/whole/gen02.py out of claim/Statement.lean: the methods, the pool, the cells of the law's prefix -/
def eF0 : u_T := fun k => match k with
  | 0 => ("LiarsCock$Aim", "byWhom", "[J", true)
  | _ => ("LiarsCock$Aim", "groups", "[J", true)
def eF1 : u_T := fun k => match k with
  | 0 => ("LiarsCock$Course", "starts", "[I", true)
  | 1 => ("LiarsCock$Course", "whom", "[I", true)
  | _ => ("LiarsCock$Course", "size", "I", false)
def eF2 : u_T := fun k => match k with
  | 0 => ("LiarsCock$Formula", "steps", "[I", true)
  | 1 => ("LiarsCock$Formula", "stack", "[I", true)
  | 2 => ("LiarsCock$Formula", "size", "I", false)
  | _ => ("LiarsCock$Formula", "height", "I", false)
def eF3 : u_T := fun k => match k with
  | 0 => ("LiarsCock$Looks", "cocks", "[I", true)
  | 1 => ("LiarsCock$Looks", "minutes", "[I", true)
  | 2 => ("LiarsCock$Looks", "froms", "[I", true)
  | 3 => ("LiarsCock$Looks", "tos", "[I", true)
  | _ => ("LiarsCock$Looks", "size", "I", false)
def eF4 : u_T := fun k => match k with
  | 0 => ("LiarsCock$Parish", "facts", "I", false)
  | 1 => ("LiarsCock$Parish", "places", "I", false)
  | 2 => ("LiarsCock$Parish", "people", "I", false)
  | 3 => ("LiarsCock$Parish", "commons", "I", false)
  | 4 => ("LiarsCock$Parish", "factNames", "[J", true)
  | 5 => ("LiarsCock$Parish", "chances", "[I", true)
  | 6 => ("LiarsCock$Parish", "placeNames", "[J", true)
  | 7 => ("LiarsCock$Parish", "placeBearings", "[I", true)
  | 8 => ("LiarsCock$Parish", "personNames", "[J", true)
  | 9 => ("LiarsCock$Parish", "homes", "[I", true)
  | 10 => ("LiarsCock$Parish", "bearings", "[I", true)
  | 11 => ("LiarsCock$Parish", "knowledge", "[I", true)
  | 12 => ("LiarsCock$Parish", "cockTold", "[Z", true)
  | 13 => ("LiarsCock$Parish", "laws", "[I", true)
  | 14 => ("LiarsCock$Parish", "lates", "[I", true)
  | _ => ("LiarsCock$Parish", "commonWorlds", "J", false)
def eF5 : u_T := fun k => match k with
  | 0 => ("LiarsCock$Search", "minutes", "[I", true)
  | 1 => ("LiarsCock$Search", "groups", "[J", true)
  | 2 => ("LiarsCock$Search", "before", "[J", true)
  | 3 => ("LiarsCock$Search", "picked", "[I", true)
  | 4 => ("LiarsCock$Search", "size", "I", false)
  | 5 => ("LiarsCock$Search", "asked", "J", false)
  | _ => ("LiarsCock$Search", "fact", "J", false)
def eF6 : u_T := fun k => match k with
  | 0 => ("LiarsCock$State", "parish", "LLiarsCock$Parish;", false)
  | 1 => ("LiarsCock$State", "said", "LLiarsCock$Talk;", true)
  | 2 => ("LiarsCock$State", "offered", "LLiarsCock$Talk;", true)
  | 3 => ("LiarsCock$State", "looks", "LLiarsCock$Looks;", true)
  | 4 => ("LiarsCock$State", "watches", "LLiarsCock$Looks;", true)
  | _ => ("LiarsCock$State", "truth", "I", false)
def eF7 : u_T := fun k => match k with
  | 0 => ("LiarsCock$Talk", "speakers", "[I", true)
  | 1 => ("LiarsCock$Talk", "minutes", "[I", true)
  | 2 => ("LiarsCock$Talk", "so", "[J", true)
  | 3 => ("LiarsCock$Talk", "plainLies", "[J", true)
  | 4 => ("LiarsCock$Talk", "knownLies", "[J", true)
  | _ => ("LiarsCock$Talk", "size", "I", false)
def eF8 : u_T := fun k => match k with
  | 0 => ("LiarsCock$Tape", "signs", "[C", true)
  | 1 => ("LiarsCock$Tape", "length", "I", false)
  | 2 => ("LiarsCock$Tape", "behind", "I", false)
  | 3 => ("LiarsCock$Tape", "kind", "I", false)
  | 4 => ("LiarsCock$Tape", "place", "I", false)
  | 5 => ("LiarsCock$Tape", "sign", "C", false)
  | 6 => ("LiarsCock$Tape", "number", "I", false)
  | 7 => ("LiarsCock$Tape", "word", "J", false)
  | _ => ("LiarsCock$Tape", "fault", "I", false)
def eF9 : u_T := fun k => match k with
  | 0 => ("LiarsCock", "tape", "LLiarsCock$Tape;", true)
  | 1 => ("LiarsCock", "formula", "LLiarsCock$Formula;", true)
  | 2 => ("LiarsCock", "now", "LLiarsCock$State;", true)
  | 3 => ("LiarsCock", "marks", "[LLiarsCock$State;", true)
  | 4 => ("LiarsCock", "laid", "[Z", true)
  | 5 => ("LiarsCock", "aim", "LLiarsCock$Aim;", true)
  | 6 => ("LiarsCock", "supposed", "LLiarsCock$Talk;", true)
  | 7 => ("LiarsCock", "course", "LLiarsCock$Course;", true)
  | 8 => ("LiarsCock", "otherCourse", "LLiarsCock$Course;", true)
  | 9 => ("LiarsCock", "search", "LLiarsCock$Search;", true)
  | 10 => ("LiarsCock", "lookFits", "[J", true)
  | _ => ("LiarsCock", "setFits", "[J", true)
def eF10 : u_T := fun k => match k with
  | 0 => ("LiarsCockModel", "thrown", "I", false)
  | 1 => ("LiarsCockModel", "taped", "I", false)
  | 2 => ("LiarsCockModel", "tape", "[I", true)
  | 3 => ("LiarsCockModel", "size", "I", false)
  | 4 => ("LiarsCockModel", "place", "I", false)
  | 5 => ("LiarsCockModel", "begin", "I", false)
  | 6 => ("LiarsCockModel", "token", "I", false)
  | 7 => ("LiarsCockModel", "word", "J", false)
  | 8 => ("LiarsCockModel", "told", "I", false)
  | 9 => ("LiarsCockModel", "wrong", "I", false)
  | 10 => ("LiarsCockModel", "many", "[I", true)
  | 11 => ("LiarsCockModel", "names", "[J", true)
  | 12 => ("LiarsCockModel", "chances", "[I", true)
  | 13 => ("LiarsCockModel", "bearings", "[I", true)
  | 14 => ("LiarsCockModel", "home", "[I", true)
  | 15 => ("LiarsCockModel", "known", "[I", true)
  | 16 => ("LiarsCockModel", "law", "[I", true)
  | 17 => ("LiarsCockModel", "late", "[I", true)
  | 18 => ("LiarsCockModel", "isCock", "[Z", true)
  | 19 => ("LiarsCockModel", "common", "[J", true)
  | 20 => ("LiarsCockModel", "codes", "[I", true)
  | 21 => ("LiarsCockModel", "lineFrom", "[I", true)
  | 22 => ("LiarsCockModel", "lineTo", "[I", true)
  | 23 => ("LiarsCockModel", "code", "I", false)
  | 24 => ("LiarsCockModel", "opened", "[I", true)
  | 25 => ("LiarsCockModel", "compared", "[Z", true)
  | 26 => ("LiarsCockModel", "kept", "[I", true)
  | 27 => ("LiarsCockModel", "keptBy", "[I", true)
  | 28 => ("LiarsCockModel", "ahead", "[I", true)
  | 29 => ("LiarsCockModel", "against", "[I", true)
  | 30 => ("LiarsCockModel", "sum", "[I", true)
  | 31 => ("LiarsCockModel", "sumBy", "[I", true)
  | 32 => ("LiarsCockModel", "term", "[I", true)
  | 33 => ("LiarsCockModel", "termBy", "[I", true)
  | 34 => ("LiarsCockModel", "byNot", "[I", true)
  | 35 => ("LiarsCockModel", "valueOf", "[I", true)
  | 36 => ("LiarsCockModel", "isToldCock", "[Z", true)
  | 37 => ("LiarsCockModel", "commons", "I", false)
  | 38 => ("LiarsCockModel", "newCommons", "I", false)
  | 39 => ("LiarsCockModel", "commonSet", "[J", true)
  | 40 => ("LiarsCockModel", "sayings", "I", false)
  | 41 => ("LiarsCockModel", "offers", "I", false)
  | 42 => ("LiarsCockModel", "looks", "I", false)
  | 43 => ("LiarsCockModel", "watches", "I", false)
  | 44 => ("LiarsCockModel", "truth", "I", false)
  | 45 => ("LiarsCockModel", "who", "[I", true)
  | 46 => ("LiarsCockModel", "when", "[I", true)
  | 47 => ("LiarsCockModel", "so", "[J", true)
  | 48 => ("LiarsCockModel", "isQuestion", "[Z", true)
  | 49 => ("LiarsCockModel", "row", "[I", true)
  | 50 => ("LiarsCockModel", "rowed", "I", false)
  | 51 => ("LiarsCockModel", "lies", "[J", true)
  | 52 => ("LiarsCockModel", "lookCock", "[I", true)
  | 53 => ("LiarsCockModel", "lookMinute", "[I", true)
  | 54 => ("LiarsCockModel", "lookFrom", "[I", true)
  | 55 => ("LiarsCockModel", "lookTo", "[I", true)
  | 56 => ("LiarsCockModel", "fits", "[J", true)
  | 57 => ("LiarsCockModel", "byBearing", "[I", true)
  | 58 => ("LiarsCockModel", "seen", "[I", true)
  | 59 => ("LiarsCockModel", "watchCock", "[I", true)
  | 60 => ("LiarsCockModel", "watchMinute", "[I", true)
  | 61 => ("LiarsCockModel", "turns0", "I", false)
  | 62 => ("LiarsCockModel", "turnMinute", "[I", true)
  | 63 => ("LiarsCockModel", "turnBearing", "[I", true)
  | 64 => ("LiarsCockModel", "lookout", "[I", true)
  | 65 => ("LiarsCockModel", "isLaid", "[Z", true)
  | 66 => ("LiarsCockModel", "marked", "[I", true)
  | 67 => ("LiarsCockModel", "markedLongs", "[J", true)
  | _ => ("LiarsCockModel", "markAt", "I", false)
def eCN : List String := ["LiarsCock$Aim", "LiarsCock$Course", "LiarsCock$Formula", "LiarsCock$Looks", "LiarsCock$Parish", "LiarsCock$Search", "LiarsCock$State", "LiarsCock$Talk",
  "LiarsCock$Tape", "LiarsCock", "LiarsCockModel", "LiarsCockLaw", "java/lang/Integer", "java/lang/Long", "java/lang/Math"]
def eCl : List vw_C := [("LiarsCock$Aim", eF0, 2), ("LiarsCock$Course", eF1, 3), ("LiarsCock$Formula", eF2, 4), ("LiarsCock$Looks", eF3, 5), ("LiarsCock$Parish", eF4, 16), ("LiarsCock$Search", eF5, 7), ("LiarsCock$State", eF6, 6), ("LiarsCock$Talk", eF7, 6),
  ("LiarsCock$Tape", eF8, 9), ("LiarsCock", eF9, 12), ("LiarsCockModel", eF10, 69)]
abbrev eMT : Type := MethodName × ByteArray × Nat × Option FieldType × Nat × Nat × Bool
/-- name, code, maxLocals, answer, class tag, values that it takes, static -/
def eMs_0 : List eMT := [(⟨"LiarsCock", "<init>", "()V"⟩, prog_1_method_1_code, 2, none, 9, 1, false),
  (⟨"LiarsCock$Tape", "<init>", "()V"⟩, prog_10_method_1_code, 1, none, 8, 1, false),
  (⟨"LiarsCock$Formula", "<init>", "()V"⟩, prog_4_method_1_code, 1, none, 2, 1, false),
  (⟨"LiarsCock$State", "<init>", "()V"⟩, prog_8_method_1_code, 1, none, 6, 1, false),
  (⟨"LiarsCock$Parish", "<init>", "()V"⟩, prog_6_method_1_code, 1, none, 4, 1, false),
  (⟨"LiarsCock$Talk", "<init>", "()V"⟩, prog_9_method_1_code, 1, none, 7, 1, false),
  (⟨"LiarsCock$Looks", "<init>", "()V"⟩, prog_5_method_1_code, 1, none, 3, 1, false),
  (⟨"LiarsCock$Aim", "<init>", "()V"⟩, prog_2_method_1_code, 1, none, 0, 1, false),
  (⟨"LiarsCock$Course", "<init>", "()V"⟩, prog_3_method_1_code, 1, none, 1, 1, false),
  (⟨"LiarsCock$Search", "<init>", "()V"⟩, prog_7_method_1_code, 1, none, 5, 1, false),
  (⟨"LiarsCock", "feed", "(JJJ)I"⟩, prog_1_method_2_code, 7, (some .int), 9, 4, false),
  (⟨"LiarsCock$Tape", "put", "(J)V"⟩, prog_10_method_4_code, 6, none, 8, 2, false),
  (⟨"LiarsCock$Tape", "length", "()I"⟩, prog_10_method_2_code, 1, (some .int), 8, 1, false),
  (⟨"LiarsCock", "parish", "()I"⟩, prog_1_method_3_code, 3, (some .int), 9, 1, false),
  (⟨"LiarsCock$Tape", "open", "()V"⟩, prog_10_method_5_code, 1, none, 8, 1, false),
  (⟨"LiarsCock$Tape", "step", "()V"⟩, prog_10_method_6_code, 3, none, 8, 1, false),
  (⟨"LiarsCock$Tape", "behindBlanks", "(I)I"⟩, prog_10_method_7_code, 3, (some .int), 8, 2, false),
  (⟨"LiarsCock$Tape", "runEnd", "(CC)I"⟩, prog_10_method_8_code, 4, (some .int), 8, 3, false),
  (⟨"LiarsCock$Tape", "readWord", "(I)V"⟩, prog_10_method_9_code, 3, none, 8, 2, false),
  (⟨"LiarsCock$Tape", "readNumber", "(I)V"⟩, prog_10_method_10_code, 3, none, 8, 2, false),
  (⟨"LiarsCock$Parish", "read", "(LLiarsCock$Tape;LLiarsCock$Formula;)Z"⟩, prog_6_method_2_code, 5, (some .boolean), 4, 3, false),
  (⟨"LiarsCock$Tape", "kind", "()I"⟩, prog_10_method_11_code, 1, (some .int), 8, 1, false),
  (⟨"LiarsCock$Tape", "isWord", "(J)Z"⟩, prog_10_method_14_code, 3, (some .boolean), 8, 2, false),
  (⟨"LiarsCock$Parish", "readFact", "(LLiarsCock$Tape;)Z"⟩, prog_6_method_4_code, 5, (some .boolean), 4, 2, false),
  (⟨"LiarsCock$Parish", "startLine", "(LLiarsCock$Tape;II)Z"⟩, prog_6_method_3_code, 4, (some .boolean), 4, 4, false),
  (⟨"LiarsCock$Tape", "wrong", "(I)Z"⟩, prog_10_method_17_code, 2, (some .boolean), 8, 2, false),
  (⟨"LiarsCock$Tape", "isName", "()Z"⟩, prog_10_method_16_code, 6, (some .boolean), 8, 1, false),
  (⟨"LiarsCock$Tape", "word", "()J"⟩, prog_10_method_13_code, 1, (some .long), 8, 1, false),
  (⟨"LiarsCock$Parish", "isTold", "(J)Z"⟩, prog_6_method_17_code, 3, (some .boolean), 4, 2, false),
  (⟨"LiarsCock$Parish", "find", "([JIJ)I"⟩, prog_6_method_16_code, 5, (some .int), 4, 3, true),
  (⟨"LiarsCock$Tape", "numberUpTo", "(I)Z"⟩, prog_10_method_21_code, 2, (some .boolean), 8, 2, false),
  (⟨"LiarsCock$Tape", "number", "()I"⟩, prog_10_method_12_code, 1, (some .int), 8, 1, false),
  (⟨"LiarsCock$Tape", "takeSign", "(C)Z"⟩, prog_10_method_20_code, 2, (some .boolean), 8, 2, false),
  (⟨"LiarsCock$Tape", "isSign", "(C)Z"⟩, prog_10_method_15_code, 2, (some .boolean), 8, 2, false),
  (⟨"LiarsCock$Parish", "addFact", "(JI)V"⟩, prog_6_method_5_code, 4, none, 4, 3, false),
  (⟨"LiarsCock$Parish", "readPlace", "(LLiarsCock$Tape;)Z"⟩, prog_6_method_6_code, 5, (some .boolean), 4, 2, false),
  (⟨"LiarsCock$Tape", "takeWord", "(J)Z"⟩, prog_10_method_19_code, 3, (some .boolean), 8, 2, false),
  (⟨"LiarsCock$Parish", "addPlace", "(JI)V"⟩, prog_6_method_7_code, 4, none, 4, 3, false),
  (⟨"LiarsCock$Parish", "readPerson", "(LLiarsCock$Tape;)Z"⟩, prog_6_method_8_code, 8, (some .boolean), 4, 2, false),
  (⟨"LiarsCock$Parish", "readTold", "(LLiarsCock$Tape;[JI)I"⟩, prog_6_method_9_code, 4, (some .int), 4, 3, true),
  (⟨"LiarsCock$Parish", "readKnown", "(LLiarsCock$Tape;I)I"⟩, prog_6_method_10_code, 4, (some .int), 4, 3, false),
  (⟨"LiarsCock$Parish", "factNamed", "(J)I"⟩, prog_6_method_18_code, 3, (some .int), 4, 2, false),
  (⟨"LiarsCock$Parish", "addPerson", "(JII)V"⟩, prog_6_method_11_code, 5, none, 4, 4, false),
  (⟨"LiarsCock$Parish", "readCommon", "(LLiarsCock$Tape;LLiarsCock$Formula;)Z"⟩, prog_6_method_12_code, 3, (some .boolean), 4, 3, false),
  (⟨"LiarsCock$Formula", "read", "(LLiarsCock$Tape;LLiarsCock$Parish;)Z"⟩, prog_4_method_2_code, 3, (some .boolean), 2, 3, false),
  (⟨"LiarsCock$Formula", "readTests", "(LLiarsCock$Tape;LLiarsCock$Parish;I)Z"⟩, prog_4_method_3_code, 6, (some .boolean), 2, 4, false),
  (⟨"LiarsCock$Formula", "readTest", "(LLiarsCock$Tape;LLiarsCock$Parish;I)Z"⟩, prog_4_method_4_code, 5, (some .boolean), 2, 4, false),
  (⟨"LiarsCock$Formula", "readSum", "(LLiarsCock$Tape;LLiarsCock$Parish;I)Z"⟩, prog_4_method_5_code, 6, (some .boolean), 2, 4, false),
  (⟨"LiarsCock$Formula", "readProduct", "(LLiarsCock$Tape;LLiarsCock$Parish;I)Z"⟩, prog_4_method_6_code, 5, (some .boolean), 2, 4, false),
  (⟨"LiarsCock$Formula", "readPart", "(LLiarsCock$Tape;LLiarsCock$Parish;I)Z"⟩, prog_4_method_7_code, 8, (some .boolean), 2, 4, false),
  (⟨"LiarsCock$Formula", "write", "(I)V"⟩, prog_4_method_10_code, 2, none, 2, 2, false),
  (⟨"LiarsCock$Formula", "readClosed", "(LLiarsCock$Tape;LLiarsCock$Parish;I)Z"⟩, prog_4_method_9_code, 4, (some .boolean), 2, 4, false),
  (⟨"LiarsCock$Formula", "readNot", "(LLiarsCock$Tape;LLiarsCock$Parish;I)Z"⟩, prog_4_method_8_code, 5, (some .boolean), 2, 4, false),
  (⟨"LiarsCock$Formula", "worldsSo", "(I)J"⟩, prog_4_method_11_code, 5, (some .long), 2, 2, false),
  (⟨"LiarsCock$Formula", "value", "(I)I"⟩, prog_4_method_12_code, 5, (some .int), 2, 2, false),
  (⟨"LiarsCock$Formula", "push", "(I)V"⟩, prog_4_method_14_code, 2, none, 2, 2, false),
  (⟨"LiarsCock$Formula", "pop", "()I"⟩, prog_4_method_15_code, 1, (some .int), 2, 1, false),
  (⟨"LiarsCock$Formula", "joined", "(III)I"⟩, prog_4_method_13_code, 3, (some .int), 2, 3, true),
  (⟨"LiarsCock$Parish", "readCock", "(LLiarsCock$Tape;)Z"⟩, prog_6_method_13_code, 5, (some .boolean), 4, 2, false),
  (⟨"LiarsCock$Parish", "isCock", "(I)Z"⟩, prog_6_method_15_code, 2, (some .boolean), 4, 2, false)]
def eMs_1 : List eMT := [(⟨"LiarsCock$Parish", "addCock", "(III)V"⟩, prog_6_method_14_code, 4, none, 4, 4, false),
  (⟨"LiarsCock$Tape", "clear", "()V"⟩, prog_10_method_3_code, 1, none, 8, 1, false),
  (⟨"LiarsCock$State", "begin", "(LLiarsCock$Parish;)V"⟩, prog_8_method_2_code, 2, none, 6, 2, false),
  (⟨"LiarsCock$Talk", "clear", "()V"⟩, prog_9_method_3_code, 1, none, 7, 1, false),
  (⟨"LiarsCock$Looks", "clear", "()V"⟩, prog_5_method_3_code, 1, none, 3, 1, false),
  (⟨"LiarsCock$Tape", "fault", "()I"⟩, prog_10_method_18_code, 1, (some .int), 8, 1, false),
  (⟨"LiarsCock", "say", "(II)I"⟩, prog_1_method_4_code, 4, (some .int), 9, 3, false),
  (⟨"LiarsCock", "isSpeaker", "(II)Z"⟩, prog_1_method_44_code, 3, (some .boolean), 9, 3, false),
  (⟨"LiarsCock$Parish", "isPerson", "(I)Z"⟩, prog_6_method_25_code, 2, (some .boolean), 4, 2, false),
  (⟨"LiarsCock", "isMinute", "(I)Z"⟩, prog_1_method_39_code, 1, (some .boolean), 9, 1, true),
  (⟨"LiarsCock$Talk", "size", "()I"⟩, prog_9_method_2_code, 1, (some .int), 7, 1, false),
  (⟨"LiarsCock$Talk", "lastMinute", "()I"⟩, prog_9_method_9_code, 1, (some .int), 7, 1, false),
  (⟨"LiarsCock$Talk", "minute", "(I)I"⟩, prog_9_method_6_code, 2, (some .int), 7, 2, false),
  (⟨"LiarsCock$Talk", "isIn", "(I)Z"⟩, prog_9_method_4_code, 2, (some .boolean), 7, 2, false),
  (⟨"LiarsCock", "hear", "(LLiarsCock$Talk;II)I"⟩, prog_1_method_55_code, 4, (some .int), 9, 4, false),
  (⟨"LiarsCock$Talk", "add", "(IIJJJ)V"⟩, prog_9_method_10_code, 9, none, 7, 6, false),
  (⟨"LiarsCock$Talk", "set", "(IIIJJJ)V"⟩, prog_9_method_11_code, 10, none, 7, 7, false),
  (⟨"LiarsCock$Tape", "ends", "()Z"⟩, prog_10_method_22_code, 1, (some .boolean), 8, 1, false),
  (⟨"LiarsCock$Parish", "facts", "()I"⟩, prog_6_method_19_code, 1, (some .int), 4, 1, false),
  (⟨"LiarsCock", "tell", "(LLiarsCock$Talk;IIJ)V"⟩, prog_1_method_56_code, 7, none, 9, 5, false),
  (⟨"LiarsCock$Parish", "lies", "(JII)J"⟩, prog_6_method_36_code, 8, (some .long), 4, 4, false),
  (⟨"LiarsCock$Parish", "allWorlds", "()J"⟩, prog_6_method_32_code, 1, (some .long), 4, 1, false),
  (⟨"LiarsCock$Parish", "known", "(I)I"⟩, prog_6_method_31_code, 2, (some .int), 4, 2, false),
  (⟨"LiarsCock$Parish", "eitherWay", "(JI)J"⟩, prog_6_method_37_code, 4, (some .long), 4, 2, true),
  (⟨"LiarsCock", "factSo", "(I)J"⟩, prog_1_method_47_code, 1, (some .long), 9, 1, true),
  (⟨"LiarsCock", "offer", "(II)I"⟩, prog_1_method_5_code, 4, (some .int), 9, 3, false),
  (⟨"LiarsCock", "truth", "(I)Z"⟩, prog_1_method_6_code, 2, (some .boolean), 9, 2, false),
  (⟨"LiarsCock$Parish", "isWorld", "(I)Z"⟩, prog_6_method_23_code, 2, (some .boolean), 4, 2, false),
  (⟨"LiarsCock", "look", "(IIII)I"⟩, prog_1_method_7_code, 5, (some .int), 9, 5, false),
  (⟨"LiarsCock$Parish", "isThere", "(I)Z"⟩, prog_6_method_26_code, 2, (some .boolean), 4, 2, false),
  (⟨"LiarsCock", "isBearing", "(I)Z"⟩, prog_1_method_41_code, 1, (some .boolean), 9, 1, true),
  (⟨"LiarsCock$Looks", "size", "()I"⟩, prog_5_method_2_code, 1, (some .int), 3, 1, false),
  (⟨"LiarsCock$Looks", "add", "(IIII)I"⟩, prog_5_method_9_code, 6, (some .int), 3, 5, false),
  (⟨"LiarsCock", "watch", "(II)I"⟩, prog_1_method_8_code, 3, (some .int), 9, 3, false),
  (⟨"LiarsCock", "world", "(I)I"⟩, prog_1_method_9_code, 2, (some .int), 9, 2, false),
  (⟨"LiarsCock$Parish", "commonWorlds", "()J"⟩, prog_6_method_33_code, 1, (some .long), 4, 1, false),
  (⟨"LiarsCock", "holds", "(JI)Z"⟩, prog_1_method_46_code, 3, (some .boolean), 9, 2, true),
  (⟨"LiarsCock", "possible", "()J"⟩, prog_1_method_58_code, 4, (some .long), 9, 1, false),
  (⟨"LiarsCock", "fitting", "(I)J"⟩, prog_1_method_57_code, 3, (some .long), 9, 2, false),
  (⟨"LiarsCock$Looks", "cock", "(I)I"⟩, prog_5_method_5_code, 2, (some .int), 3, 2, false),
  (⟨"LiarsCock$Looks", "isIn", "([II)Z"⟩, prog_5_method_4_code, 3, (some .boolean), 3, 3, false),
  (⟨"LiarsCock$Looks", "minute", "(I)I"⟩, prog_5_method_6_code, 2, (some .int), 3, 2, false),
  (⟨"LiarsCock$Aim", "take", "(LLiarsCock$Talk;LLiarsCock$Parish;IIJ)V"⟩, prog_2_method_2_code, 13, none, 0, 6, false),
  (⟨"LiarsCock$Parish", "late", "(I)I"⟩, prog_6_method_28_code, 2, (some .int), 4, 2, false),
  (⟨"LiarsCock$Parish", "law", "(I)I"⟩, prog_6_method_27_code, 2, (some .int), 4, 2, false),
  (⟨"LiarsCock$Talk", "lies", "(II)J"⟩, prog_9_method_8_code, 3, (some .long), 7, 3, false),
  (⟨"LiarsCock$Talk", "speaker", "(I)I"⟩, prog_9_method_5_code, 2, (some .int), 7, 2, false),
  (⟨"LiarsCock$Aim", "add", "([JIJ)V"⟩, prog_2_method_4_code, 4, none, 0, 3, true),
  (⟨"LiarsCock$Aim", "gather", "(LLiarsCock$Parish;)V"⟩, prog_2_method_3_code, 4, none, 0, 2, false),
  (⟨"LiarsCock$Parish", "bearing", "(I)I"⟩, prog_6_method_30_code, 2, (some .int), 4, 2, false),
  (⟨"LiarsCock$Looks", "from", "(I)I"⟩, prog_5_method_7_code, 2, (some .int), 3, 2, false),
  (⟨"LiarsCock$Looks", "to", "(I)I"⟩, prog_5_method_8_code, 2, (some .int), 3, 2, false),
  (⟨"LiarsCock$Aim", "within", "(LLiarsCock$Parish;II)J"⟩, prog_2_method_7_code, 7, (some .long), 0, 4, false),
  (⟨"LiarsCock", "isWithin", "(III)Z"⟩, prog_1_method_51_code, 3, (some .boolean), 9, 3, true),
  (⟨"LiarsCock", "lie", "(II)I"⟩, prog_1_method_10_code, 4, (some .int), 9, 3, false),
  (⟨"LiarsCock$Talk", "so", "(I)J"⟩, prog_9_method_7_code, 2, (some .long), 7, 2, false),
  (⟨"LiarsCock", "points", "(III)I"⟩, prog_1_method_11_code, 4, (some .int), 9, 4, false),
  (⟨"LiarsCock$Talk", "lastLiar", "(LLiarsCock$Parish;III)I"⟩, prog_9_method_15_code, 6, (some .int), 7, 5, false),
  (⟨"LiarsCock", "worlds", "(I)I"⟩, prog_1_method_12_code, 2, (some .int), 9, 2, false),
  (⟨"java/lang/Long", "bitCount", "(J)I"⟩, prog_16_method_50_code, 2, (some .int), 13, 1, true)]
def eMs_2 : List eMT := [(⟨"LiarsCock$Parish", "isFact", "(I)Z"⟩, prog_6_method_24_code, 2, (some .boolean), 4, 2, false),
  (⟨"LiarsCock", "sureFact", "(I)I"⟩, prog_1_method_13_code, 2, (some .int), 9, 2, false),
  (⟨"LiarsCock", "sureness", "(JJ)I"⟩, prog_1_method_48_code, 4, (some .int), 9, 2, true),
  (⟨"LiarsCock", "sure", "(I)I"⟩, prog_1_method_14_code, 2, (some .int), 9, 2, false),
  (⟨"LiarsCock", "odds", "(II)J"⟩, prog_1_method_15_code, 11, (some .long), 9, 3, false),
  (⟨"LiarsCock", "isWhat", "(I)Z"⟩, prog_1_method_42_code, 1, (some .boolean), 9, 1, true),
  (⟨"LiarsCock$Parish", "weight", "(J)J"⟩, prog_6_method_38_code, 6, (some .long), 4, 2, false),
  (⟨"LiarsCock$Parish", "weightOf", "(I)J"⟩, prog_6_method_39_code, 5, (some .long), 4, 2, false),
  (⟨"LiarsCock", "greatestDivisor", "(JJ)J"⟩, prog_1_method_53_code, 11, (some .long), 9, 2, true),
  (⟨"LiarsCock", "proof", "(II)I"⟩, prog_1_method_16_code, 6, (some .int), 9, 3, false),
  (⟨"LiarsCock", "fewestLooksWithout", "(J)I"⟩, prog_1_method_59_code, 6, (some .int), 9, 2, false),
  (⟨"LiarsCock", "fittingSet", "(I)J"⟩, prog_1_method_60_code, 4, (some .long), 9, 2, false),
  (⟨"java/lang/Integer", "numberOfTrailingZeros", "(I)I"⟩, prog_15_method_48_code, 2, (some .int), 12, 1, true),
  (⟨"LiarsCock", "isFewer", "(II)Z"⟩, prog_1_method_49_code, 2, (some .boolean), 9, 2, true),
  (⟨"java/lang/Integer", "bitCount", "(I)I"⟩, prog_15_method_49_code, 1, (some .int), 12, 1, true),
  (⟨"LiarsCock", "sizeOrSet", "(II)I"⟩, prog_1_method_50_code, 2, (some .int), 9, 2, true),
  (⟨"LiarsCock", "clash", "(I)I"⟩, prog_1_method_17_code, 2, (some .int), 9, 2, false),
  (⟨"LiarsCock", "next", "(IIII)I"⟩, prog_1_method_18_code, 5, (some .int), 9, 5, false),
  (⟨"LiarsCock", "bestMinute", "(IIIIZ)I"⟩, prog_1_method_61_code, 13, (some .int), 9, 6, false),
  (⟨"LiarsCock", "isSpan", "(II)Z"⟩, prog_1_method_40_code, 2, (some .boolean), 9, 2, true),
  (⟨"LiarsCock", "worth", "(IIJZ)I"⟩, prog_1_method_62_code, 6, (some .int), 9, 5, false),
  (⟨"LiarsCock$Aim", "bearings", "()I"⟩, prog_2_method_9_code, 7, (some .int), 0, 1, false),
  (⟨"LiarsCock$Aim", "largest", "()I"⟩, prog_2_method_10_code, 7, (some .int), 0, 1, false),
  (⟨"LiarsCock", "fog", "(IIII)I"⟩, prog_1_method_19_code, 5, (some .int), 9, 5, false),
  (⟨"LiarsCock", "learns", "(IIZII)I"⟩, prog_1_method_20_code, 9, (some .int), 9, 6, false),
  (⟨"LiarsCock$Parish", "alike", "(II)J"⟩, prog_6_method_35_code, 6, (some .long), 4, 3, false),
  (⟨"LiarsCock$Parish", "factIs", "(IZ)J"⟩, prog_6_method_34_code, 3, (some .long), 4, 3, false),
  (⟨"LiarsCock$Talk", "copy", "(LLiarsCock$Talk;)V"⟩, prog_9_method_13_code, 3, none, 7, 2, false),
  (⟨"LiarsCock$Talk", "setFrom", "(ILLiarsCock$Talk;I)V"⟩, prog_9_method_12_code, 4, none, 7, 4, false),
  (⟨"LiarsCock$Aim", "tells", "(J)Z"⟩, prog_2_method_11_code, 8, (some .boolean), 0, 2, false),
  (⟨"LiarsCock", "lookout", "(III)I"⟩, prog_1_method_21_code, 7, (some .int), 9, 4, false),
  (⟨"LiarsCock$Search", "ask", "(LLiarsCock$Aim;LLiarsCock$State;IJ)V"⟩, prog_7_method_2_code, 8, none, 5, 5, false),
  (⟨"LiarsCock$Search", "note", "(LLiarsCock$Aim;I)V"⟩, prog_7_method_3_code, 5, none, 5, 3, false),
  (⟨"LiarsCock$Aim", "at", "(I)J"⟩, prog_2_method_5_code, 2, (some .long), 0, 2, false),
  (⟨"LiarsCock$Aim", "group", "(I)J"⟩, prog_2_method_6_code, 2, (some .long), 0, 2, false),
  (⟨"LiarsCock$Search", "fewestMinutes", "(J)I"⟩, prog_7_method_4_code, 4, (some .int), 5, 2, false),
  (⟨"LiarsCock$Search", "pick", "(III)Z"⟩, prog_7_method_5_code, 5, (some .boolean), 5, 4, false),
  (⟨"LiarsCock$Search", "tell", "(IIJ)Z"⟩, prog_7_method_6_code, 6, (some .boolean), 5, 4, false),
  (⟨"LiarsCock$Search", "groupAt", "(I)J"⟩, prog_7_method_7_code, 2, (some .long), 5, 2, false),
  (⟨"LiarsCock$Search", "minute", "(I)I"⟩, prog_7_method_8_code, 3, (some .int), 5, 2, false),
  (⟨"LiarsCock", "judged", "()I"⟩, prog_1_method_22_code, 2, (some .int), 9, 1, false),
  (⟨"LiarsCock", "turned", "(II)I"⟩, prog_1_method_23_code, 3, (some .int), 9, 3, false),
  (⟨"LiarsCock$Course", "follow", "(LLiarsCock$State;I)V"⟩, prog_3_method_2_code, 6, none, 1, 3, false),
  (⟨"LiarsCock$Course", "add", "(II)V"⟩, prog_3_method_3_code, 3, none, 1, 3, false),
  (⟨"LiarsCock$Course", "whom", "(I)I"⟩, prog_3_method_4_code, 2, (some .int), 1, 2, false),
  (⟨"LiarsCock$Course", "turns", "(I)I"⟩, prog_3_method_7_code, 4, (some .int), 1, 2, false),
  (⟨"LiarsCock$Course", "start", "(I)I"⟩, prog_3_method_5_code, 2, (some .int), 1, 2, false),
  (⟨"LiarsCock", "pointed", "(IIII)I"⟩, prog_1_method_24_code, 5, (some .int), 9, 5, false),
  (⟨"LiarsCock$Course", "minutesAt", "(III)I"⟩, prog_3_method_9_code, 6, (some .int), 1, 4, false),
  (⟨"LiarsCock$Course", "minutesOf", "(III)I"⟩, prog_3_method_6_code, 4, (some .int), 1, 4, false),
  (⟨"LiarsCock", "round", "(II)I"⟩, prog_1_method_25_code, 3, (some .int), 9, 3, false),
  (⟨"LiarsCock$Course", "degrees", "(LLiarsCock$Parish;I)I"⟩, prog_3_method_8_code, 6, (some .int), 1, 3, false),
  (⟨"LiarsCock", "shorterWay", "(II)I"⟩, prog_1_method_52_code, 3, (some .int), 9, 2, true),
  (⟨"LiarsCock", "longest", "(IIII)I"⟩, prog_1_method_26_code, 6, (some .int), 9, 5, false),
  (⟨"LiarsCock$Course", "longestPart", "(II)I"⟩, prog_3_method_10_code, 7, (some .int), 1, 3, false),
  (⟨"LiarsCock", "differ", "(II)I"⟩, prog_1_method_27_code, 3, (some .int), 9, 3, false),
  (⟨"LiarsCock$Course", "minutesUnlike", "(LLiarsCock$Course;II)I"⟩, prog_3_method_11_code, 9, (some .int), 1, 4, false),
  (⟨"LiarsCock", "move", "(II)I"⟩, prog_1_method_28_code, 6, (some .int), 9, 3, false),
  (⟨"LiarsCock$Parish", "people", "()I"⟩, prog_6_method_21_code, 1, (some .int), 4, 1, false),
  (⟨"LiarsCock", "firstLie", "(II)I"⟩, prog_1_method_64_code, 6, (some .int), 9, 3, false)]
def eMs_3 : List eMT := [(⟨"LiarsCock", "hidden", "(II)I"⟩, prog_1_method_29_code, 3, (some .int), 9, 3, false),
  (⟨"LiarsCock", "isPlainLie", "(I)Z"⟩, prog_1_method_45_code, 2, (some .boolean), 9, 2, false),
  (⟨"LiarsCock", "isSet", "(II)Z"⟩, prog_1_method_43_code, 2, (some .boolean), 9, 2, true),
  (⟨"LiarsCock", "isHidden", "(II)Z"⟩, prog_1_method_63_code, 6, (some .boolean), 9, 3, false),
  (⟨"LiarsCock$Talk", "insert", "(LLiarsCock$Talk;I)V"⟩, prog_9_method_14_code, 4, none, 7, 3, false),
  (⟨"LiarsCock$Aim", "groupOf", "(I)J"⟩, prog_2_method_8_code, 7, (some .long), 0, 2, false),
  (⟨"LiarsCock", "hide", "(II)I"⟩, prog_1_method_30_code, 5, (some .int), 9, 3, false),
  (⟨"LiarsCock", "sector", "(II)I"⟩, prog_1_method_32_code, 5, (some .int), 9, 3, false),
  (⟨"LiarsCock", "blind", "(II)I"⟩, prog_1_method_33_code, 6, (some .int), 9, 3, false),
  (⟨"LiarsCock$Parish", "near", "(II)I"⟩, prog_6_method_41_code, 7, (some .int), 4, 3, false),
  (⟨"LiarsCock", "crowd", "(II)I"⟩, prog_1_method_65_code, 5, (some .int), 9, 3, false),
  (⟨"LiarsCock", "told", "(I)I"⟩, prog_1_method_34_code, 2, (some .int), 9, 2, false),
  (⟨"LiarsCock$Parish", "factsTold", "(II)I"⟩, prog_6_method_40_code, 8, (some .int), 4, 3, false),
  (⟨"LiarsCock", "fewest", "(II)I"⟩, prog_1_method_35_code, 5, (some .int), 9, 3, false),
  (⟨"LiarsCock", "person", "(II)I"⟩, prog_1_method_36_code, 3, (some .int), 9, 3, false),
  (⟨"LiarsCock$Parish", "home", "(I)I"⟩, prog_6_method_29_code, 2, (some .int), 4, 2, false),
  (⟨"LiarsCock", "mark", "(IZ)Z"⟩, prog_1_method_37_code, 3, (some .boolean), 9, 3, false),
  (⟨"LiarsCock$State", "copy", "(LLiarsCock$State;)V"⟩, prog_8_method_3_code, 2, none, 6, 2, false),
  (⟨"LiarsCock$Looks", "copy", "(LLiarsCock$Looks;)V"⟩, prog_5_method_10_code, 3, none, 3, 2, false),
  (⟨"LiarsCock", "count", "(I)I"⟩, prog_1_method_38_code, 2, (some .int), 9, 2, false),
  (⟨"LiarsCock$Parish", "places", "()I"⟩, prog_6_method_20_code, 1, (some .int), 4, 1, false),
  (⟨"LiarsCock$Parish", "commons", "()I"⟩, prog_6_method_22_code, 1, (some .int), 4, 1, false),
  (⟨"LiarsCock", "secret", "(IIIII)J"⟩, prog_1_method_31_code, 11, (some .long), 9, 6, false),
  (⟨"LiarsCock", "power", "(JI)J"⟩, prog_1_method_54_code, 6, (some .long), 9, 2, true),
  (⟨"LiarsCockModel", "<init>", "()V"⟩, prog_12_method_1_code, 1, none, 10, 1, false),
  (⟨"LiarsCockModel", "forgets", "()V"⟩, prog_12_method_34_code, 2, none, 10, 1, false),
  (⟨"LiarsCockModel", "thrown", "()I"⟩, prog_12_method_2_code, 1, (some .int), 10, 1, false),
  (⟨"LiarsCockModel", "feed", "(JJJ)I"⟩, prog_12_method_7_code, 11, (some .int), 10, 4, false),
  (⟨"LiarsCockModel", "parish", "()I"⟩, prog_12_method_35_code, 2, (some .int), 10, 1, false),
  (⟨"LiarsCockModel", "starts", "()V"⟩, prog_12_method_32_code, 1, none, 10, 1, false),
  (⟨"LiarsCockModel", "nextToken", "()V"⟩, prog_12_method_9_code, 2, none, 10, 1, false),
  (⟨"LiarsCockModel", "signAt", "(I)I"⟩, prog_12_method_8_code, 2, (some .int), 10, 2, false),
  (⟨"LiarsCockModel", "readsParish", "()Z"⟩, prog_12_method_31_code, 2, (some .boolean), 10, 1, false),
  (⟨"LiarsCockModel", "isWord", "(J)Z"⟩, prog_12_method_10_code, 3, (some .boolean), 10, 2, false),
  (⟨"LiarsCockModel", "readsFact", "()Z"⟩, prog_12_method_26_code, 2, (some .boolean), 10, 1, false),
  (⟨"LiarsCockModel", "fails", "(I)Z"⟩, prog_12_method_12_code, 2, (some .boolean), 10, 2, false),
  (⟨"LiarsCockModel", "needsNew", "(I)Z"⟩, prog_12_method_25_code, 2, (some .boolean), 10, 2, false),
  (⟨"LiarsCockModel", "isKept", "()Z"⟩, prog_12_method_14_code, 1, (some .boolean), 10, 1, false),
  (⟨"LiarsCockModel", "whichOf", "(I)I"⟩, prog_12_method_15_code, 3, (some .int), 10, 2, false),
  (⟨"LiarsCockModel", "needsNumber", "(I)Z"⟩, prog_12_method_24_code, 2, (some .boolean), 10, 2, false),
  (⟨"LiarsCockModel", "ends", "()Z"⟩, prog_12_method_22_code, 1, (some .boolean), 10, 1, false),
  (⟨"LiarsCockModel", "isSign", "(I)Z"⟩, prog_12_method_11_code, 2, (some .boolean), 10, 2, false),
  (⟨"LiarsCockModel", "readsPlace", "()Z"⟩, prog_12_method_27_code, 1, (some .boolean), 10, 1, false),
  (⟨"LiarsCockModel", "needsWord", "(J)Z"⟩, prog_12_method_23_code, 3, (some .boolean), 10, 2, false),
  (⟨"LiarsCockModel", "readsPerson", "()Z"⟩, prog_12_method_28_code, 3, (some .boolean), 10, 1, false),
  (⟨"LiarsCockModel", "readsCock", "()Z"⟩, prog_12_method_29_code, 2, (some .boolean), 10, 1, false),
  (⟨"LiarsCockModel", "readsCommon", "()Z"⟩, prog_12_method_30_code, 1, (some .boolean), 10, 1, false),
  (⟨"LiarsCockModel", "reads", "(Z)Z"⟩, prog_12_method_16_code, 8, (some .boolean), 10, 2, false),
  (⟨"LiarsCockModel", "puts", "(I)V"⟩, prog_12_method_13_code, 2, none, 10, 2, false),
  (⟨"LiarsCockModel", "soIn", "(I)J"⟩, prog_12_method_21_code, 6, (some .long), 10, 2, false),
  (⟨"LiarsCockModel", "worked", "(I)I"⟩, prog_12_method_20_code, 6, (some .int), 10, 2, false),
  (⟨"LiarsCockModel", "opens", "(I)V"⟩, prog_12_method_17_code, 2, none, 10, 2, false),
  (⟨"LiarsCockModel", "sums", "(I)V"⟩, prog_12_method_18_code, 2, none, 10, 2, false),
  (⟨"LiarsCockModel", "tests", "(I)V"⟩, prog_12_method_19_code, 3, none, 10, 2, false),
  (⟨"LiarsCockModel", "allWorlds", "()J"⟩, prog_12_method_33_code, 1, (some .long), 10, 1, false),
  (⟨"LiarsCockModel", "say", "(II)I"⟩, prog_12_method_42_code, 4, (some .int), 10, 3, false),
  (⟨"LiarsCockModel", "isPerson", "(I)Z"⟩, prog_12_method_36_code, 2, (some .boolean), 10, 2, false),
  (⟨"LiarsCockModel", "isMinute", "(I)Z"⟩, prog_12_method_40_code, 1, (some .boolean), 10, 1, true),
  (⟨"LiarsCockModel", "lays", "(III)I"⟩, prog_12_method_41_code, 5, (some .int), 10, 4, false),
  (⟨"LiarsCockModel", "offer", "(II)I"⟩, prog_12_method_43_code, 4, (some .int), 10, 3, false)]
def eMs_4 : List eMT := [(⟨"LiarsCockModel", "truth", "(I)Z"⟩, prog_12_method_44_code, 2, (some .boolean), 10, 2, false),
  (⟨"LiarsCockModel", "isWorld", "(I)Z"⟩, prog_12_method_38_code, 2, (some .boolean), 10, 2, false),
  (⟨"LiarsCockModel", "lie", "(II)I"⟩, prog_12_method_47_code, 3, (some .int), 10, 3, false),
  (⟨"LiarsCockModel", "isIn", "(JI)Z"⟩, prog_12_method_5_code, 3, (some .boolean), 10, 2, true),
  (⟨"LiarsCockModel", "isLie", "(III)Z"⟩, prog_12_method_46_code, 4, (some .boolean), 10, 4, false),
  (⟨"LiarsCockModel", "likeFor", "(II)J"⟩, prog_12_method_45_code, 6, (some .long), 10, 3, false),
  (⟨"LiarsCockModel", "points", "(III)I"⟩, prog_12_method_52_code, 4, (some .int), 10, 4, false),
  (⟨"LiarsCockModel", "isThere", "(I)Z"⟩, prog_12_method_39_code, 2, (some .boolean), 10, 2, false),
  (⟨"LiarsCockModel", "rows", "(I)V"⟩, prog_12_method_49_code, 4, none, 10, 2, false),
  (⟨"LiarsCockModel", "liesOf", "(I)V"⟩, prog_12_method_48_code, 4, none, 10, 2, false),
  (⟨"LiarsCockModel", "pointsTo", "(III)I"⟩, prog_12_method_50_code, 5, (some .int), 10, 4, false),
  (⟨"LiarsCockModel", "look", "(IIII)I"⟩, prog_12_method_55_code, 5, (some .int), 10, 5, false),
  (⟨"LiarsCockModel", "isBearing", "(I)Z"⟩, prog_12_method_53_code, 1, (some .boolean), 10, 1, true),
  (⟨"LiarsCockModel", "world", "(I)I"⟩, prog_12_method_58_code, 2, (some .int), 10, 2, false),
  (⟨"LiarsCockModel", "canBe", "()J"⟩, prog_12_method_57_code, 5, (some .long), 10, 1, false),
  (⟨"LiarsCockModel", "fitsIn", "(II)Z"⟩, prog_12_method_56_code, 3, (some .boolean), 10, 3, false),
  (⟨"LiarsCockModel", "bearingAt", "(III)I"⟩, prog_12_method_51_code, 5, (some .int), 10, 4, false),
  (⟨"LiarsCockModel", "isWithin", "(III)Z"⟩, prog_12_method_54_code, 3, (some .boolean), 10, 3, true),
  (⟨"LiarsCockModel", "worlds", "(I)I"⟩, prog_12_method_60_code, 4, (some .int), 10, 2, false),
  (⟨"LiarsCockModel", "isFact", "(I)Z"⟩, prog_12_method_37_code, 2, (some .boolean), 10, 2, false),
  (⟨"LiarsCockModel", "factSet", "(I)J"⟩, prog_12_method_59_code, 5, (some .long), 10, 2, false),
  (⟨"LiarsCockModel", "bits", "(J)I"⟩, prog_12_method_4_code, 4, (some .int), 10, 1, true),
  (⟨"LiarsCockModel", "sureFact", "(I)I"⟩, prog_12_method_62_code, 2, (some .int), 10, 2, false),
  (⟨"LiarsCockModel", "sureOf", "(JJ)I"⟩, prog_12_method_61_code, 4, (some .int), 10, 2, true),
  (⟨"LiarsCockModel", "sure", "(I)I"⟩, prog_12_method_63_code, 2, (some .int), 10, 2, false),
  (⟨"LiarsCockModel", "odds", "(II)J"⟩, prog_12_method_65_code, 10, (some .long), 10, 3, false),
  (⟨"LiarsCockModel", "within", "(III)Z"⟩, prog_12_method_3_code, 3, (some .boolean), 10, 3, true),
  (⟨"LiarsCockModel", "weight", "(I)J"⟩, prog_12_method_64_code, 5, (some .long), 10, 2, false),
  (⟨"LiarsCockModel", "lowest", "(JJI)J"⟩, prog_12_method_6_code, 11, (some .long), 10, 3, true),
  (⟨"LiarsCockModel", "proof", "(II)I"⟩, prog_12_method_67_code, 6, (some .int), 10, 3, false),
  (⟨"LiarsCockModel", "withLooks", "(I)J"⟩, prog_12_method_66_code, 5, (some .long), 10, 2, false),
  (⟨"LiarsCockModel", "clash", "(I)I"⟩, prog_12_method_68_code, 4, (some .int), 10, 2, false),
  (⟨"LiarsCockModel", "next", "(IIII)I"⟩, prog_12_method_72_code, 11, (some .int), 10, 5, false),
  (⟨"LiarsCockModel", "isSpan", "(III)Z"⟩, prog_12_method_70_code, 4, (some .boolean), 10, 4, false),
  (⟨"LiarsCockModel", "isAsBefore", "(III)Z"⟩, prog_12_method_71_code, 5, (some .boolean), 10, 4, false),
  (⟨"LiarsCockModel", "classes", "(IIJZ)I"⟩, prog_12_method_69_code, 10, (some .int), 10, 5, false),
  (⟨"LiarsCockModel", "fog", "(IIII)I"⟩, prog_12_method_73_code, 11, (some .int), 10, 5, false),
  (⟨"LiarsCockModel", "learns", "(IIZII)I"⟩, prog_12_method_74_code, 11, (some .int), 10, 6, false),
  (⟨"LiarsCockModel", "judged", "()I"⟩, prog_12_method_75_code, 2, (some .int), 10, 1, false),
  (⟨"LiarsCockModel", "turned", "(II)I"⟩, prog_12_method_76_code, 7, (some .int), 10, 3, false),
  (⟨"LiarsCockModel", "pointed", "(IIII)I"⟩, prog_12_method_77_code, 7, (some .int), 10, 5, false),
  (⟨"LiarsCockModel", "round", "(II)I"⟩, prog_12_method_79_code, 7, (some .int), 10, 3, false),
  (⟨"LiarsCockModel", "apart", "(II)I"⟩, prog_12_method_78_code, 3, (some .int), 10, 2, true),
  (⟨"LiarsCockModel", "watch", "(II)I"⟩, prog_12_method_80_code, 3, (some .int), 10, 3, false),
  (⟨"LiarsCockModel", "hidden", "(II)I"⟩, prog_12_method_83_code, 3, (some .int), 10, 3, false),
  (⟨"LiarsCockModel", "isToldLie", "(II)Z"⟩, prog_12_method_82_code, 3, (some .boolean), 10, 3, false),
  (⟨"LiarsCockModel", "isHidden", "(II)Z"⟩, prog_12_method_81_code, 7, (some .boolean), 10, 3, false),
  (⟨"LiarsCockModel", "hide", "(II)I"⟩, prog_12_method_84_code, 5, (some .int), 10, 3, false),
  (⟨"LiarsCockModel", "secret", "(IIIII)J"⟩, prog_12_method_85_code, 11, (some .long), 10, 6, false),
  (⟨"LiarsCockModel", "sector", "(II)I"⟩, prog_12_method_86_code, 5, (some .int), 10, 3, false),
  (⟨"LiarsCockModel", "blind", "(II)I"⟩, prog_12_method_87_code, 10, (some .int), 10, 3, false),
  (⟨"LiarsCockModel", "told", "(I)I"⟩, prog_12_method_89_code, 2, (some .int), 10, 2, false),
  (⟨"LiarsCockModel", "toldBy", "(I)I"⟩, prog_12_method_88_code, 7, (some .int), 10, 2, false),
  (⟨"LiarsCockModel", "fewest", "(II)I"⟩, prog_12_method_90_code, 5, (some .int), 10, 3, false),
  (⟨"LiarsCockModel", "person", "(II)I"⟩, prog_12_method_91_code, 3, (some .int), 10, 3, false),
  (⟨"LiarsCockModel", "lookout", "(III)I"⟩, prog_12_method_96_code, 7, (some .int), 10, 4, false),
  (⟨"LiarsCockModel", "turnsOut", "(IJ)V"⟩, prog_12_method_93_code, 7, none, 10, 3, false),
  (⟨"LiarsCockModel", "turnsIn", "(IIJ)Z"⟩, prog_12_method_92_code, 6, (some .boolean), 10, 4, false),
  (⟨"LiarsCockModel", "finds", "(IIIJ)Z"⟩, prog_12_method_95_code, 7, (some .boolean), 10, 5, false),
  (⟨"LiarsCockModel", "tells", "(IIJ)Z"⟩, prog_12_method_94_code, 9, (some .boolean), 10, 4, false)]
def eMs_5 : List eMT := [(⟨"LiarsCockModel", "move", "(II)I"⟩, prog_12_method_97_code, 5, (some .int), 10, 3, false),
  (⟨"LiarsCockModel", "longest", "(IIII)I"⟩, prog_12_method_98_code, 11, (some .int), 10, 5, false),
  (⟨"LiarsCockModel", "differ", "(II)I"⟩, prog_12_method_99_code, 5, (some .int), 10, 3, false),
  (⟨"LiarsCockModel", "mark", "(IZ)Z"⟩, prog_12_method_103_code, 4, (some .boolean), 10, 3, false),
  (⟨"LiarsCockModel", "keepsRow", "([IIZ)V"⟩, prog_12_method_101_code, 5, none, 10, 4, false),
  (⟨"LiarsCockModel", "keeps", "(IZ)I"⟩, prog_12_method_100_code, 4, (some .int), 10, 3, false),
  (⟨"LiarsCockModel", "keepsLongs", "([JIIZ)V"⟩, prog_12_method_102_code, 6, none, 10, 5, false),
  (⟨"LiarsCockModel", "count", "(I)I"⟩, prog_12_method_104_code, 2, (some .int), 10, 2, false),
  (⟨"LiarsCockLaw", "secret", "(LLiarsCock;IIIII[J)I"⟩, method_3_code, 8, (some .int), 11, 7, true),
  (⟨"LiarsCockLaw", "law", "([I)Z"⟩, code, 8, (some .boolean), 11, 1, true)]
def eMs : List eMT := eMs_0 ++ (eMs_1 ++ (eMs_2 ++ (eMs_3 ++ (eMs_4 ++ (eMs_5)))))
/-- own class, pool index, method -/
def eMr_0 : List (Nat × Nat × Nat) := [(11, 15, 0), (11, 21, 10), (9, 76, 11), (9, 80, 12), (11, 26, 13), (9, 87, 14),
  (8, 25, 15), (8, 28, 16), (8, 39, 17), (8, 46, 18), (8, 50, 19), (9, 90, 20),
  (4, 53, 21), (4, 59, 22), (4, 63, 23), (4, 113, 24), (4, 91, 25), (4, 95, 15),
  (4, 98, 26), (4, 102, 27), (4, 106, 28), (4, 163, 29), (4, 119, 30), (8, 68, 25),
  (4, 122, 31), (4, 125, 32), (8, 72, 33), (4, 129, 34), (4, 69, 35), (4, 85, 36),
  (8, 64, 22), (4, 138, 37), (4, 74, 38), (4, 146, 39), (4, 152, 33), (4, 155, 40),
  (4, 167, 41), (4, 159, 42), (4, 79, 43), (4, 174, 44), (2, 24, 45), (2, 28, 46),
  (2, 46, 47), (2, 53, 48), (2, 56, 49), (2, 33, 22), (2, 49, 33), (2, 61, 26),
  (2, 65, 21), (2, 69, 25), (2, 73, 27), (2, 77, 41), (2, 83, 31), (2, 42, 50),
  (2, 39, 15), (2, 86, 51), (2, 89, 52), (4, 180, 53), (2, 92, 54), (2, 99, 55),
  (2, 102, 56), (2, 105, 57), (4, 88, 58), (4, 184, 59), (4, 191, 60), (9, 94, 61),
  (9, 97, 62), (6, 36, 63), (6, 39, 64), (9, 101, 65), (11, 31, 66), (9, 104, 67),
  (9, 283, 68), (9, 139, 69), (9, 111, 70), (9, 114, 71), (7, 36, 72), (7, 32, 73),
  (9, 117, 74), (9, 396, 21), (9, 399, 75), (7, 46, 76), (9, 402, 44), (9, 405, 77),
  (9, 378, 78), (9, 409, 53), (9, 251, 79), (9, 412, 80), (4, 200, 81), (4, 210, 82),
  (4, 195, 68), (4, 214, 83), (11, 36, 85), (11, 40, 86), (9, 128, 87), (11, 45, 88),
  (9, 136, 89), (9, 142, 90), (9, 149, 91), (9, 152, 92)]
def eMr_1 : List (Nat × Nat × Nat) := [(11, 50, 93), (11, 54, 94), (9, 159, 95), (9, 163, 96), (9, 167, 97), (9, 273, 98),
  (9, 415, 99), (3, 28, 100), (9, 418, 101), (9, 226, 81), (9, 255, 102), (0, 18, 70),
  (0, 24, 72), (0, 28, 103), (0, 33, 104), (0, 36, 105), (0, 40, 106), (0, 43, 107),
  (0, 49, 108), (0, 53, 68), (0, 57, 109), (9, 419, 110), (9, 422, 111), (9, 425, 112),
  (11, 59, 114), (9, 170, 73), (9, 173, 115), (9, 177, 105), (11, 63, 116), (9, 181, 117),
  (7, 64, 103), (7, 69, 104), (7, 56, 105), (7, 50, 106), (11, 68, 118), (9, 185, 119),
  (9, 191, 120), (9, 194, 84), (11, 72, 121), (9, 197, 122), (11, 76, 123), (11, 80, 124),
  (9, 201, 125), (9, 206, 126), (4, 222, 127), (9, 210, 128), (11, 85, 129), (9, 219, 130),
  (9, 429, 131), (9, 432, 132), (9, 328, 133), (9, 362, 134), (9, 222, 135), (11, 89, 136),
  (11, 93, 137), (9, 229, 138), (9, 286, 139), (9, 435, 140), (9, 439, 141), (9, 442, 142),
  (0, 68, 119), (9, 338, 72), (9, 233, 103), (11, 97, 143), (11, 101, 144), (9, 237, 82),
  (9, 240, 145), (4, 206, 146), (9, 243, 147), (7, 60, 148), (7, 53, 115), (9, 247, 146),
  (9, 259, 149), (11, 159, 150), (9, 263, 151), (5, 39, 70), (5, 44, 72), (5, 52, 103),
  (5, 57, 102), (5, 63, 152), (5, 67, 153), (5, 71, 154), (9, 267, 155), (5, 77, 156),
  (5, 81, 157), (5, 89, 158), (9, 270, 159), (11, 106, 160), (11, 110, 161), (9, 276, 162),
  (1, 22, 163), (1, 32, 70), (1, 37, 72), (1, 45, 103), (1, 53, 117), (1, 57, 164),
  (9, 280, 165), (1, 59, 166), (11, 114, 167), (9, 289, 168)]
def eMr_2 : List (Nat × Nat × Nat) := [(1, 77, 169), (11, 118, 170), (9, 293, 171), (1, 71, 109), (11, 167, 173), (9, 297, 174),
  (9, 300, 169), (9, 303, 164), (11, 171, 175), (9, 306, 176), (1, 81, 168), (11, 163, 177),
  (9, 310, 178), (9, 313, 104), (9, 316, 179), (11, 122, 180), (9, 319, 181), (9, 322, 182),
  (9, 325, 183), (9, 445, 184), (9, 449, 185), (11, 126, 186), (11, 139, 187), (9, 352, 109),
  (9, 355, 113), (11, 143, 188), (9, 359, 189), (4, 233, 109), (9, 366, 190), (11, 147, 191),
  (9, 369, 192), (4, 225, 145), (11, 151, 193), (11, 155, 194), (9, 372, 195), (11, 175, 196),
  (9, 375, 197), (6, 44, 147), (6, 48, 198), (3, 32, 99), (3, 36, 101), (3, 39, 110),
  (3, 42, 111), (3, 45, 92), (11, 180, 199), (9, 381, 200), (9, 384, 201), (11, 130, 308),
  (11, 7, 202), (9, 341, 106), (9, 348, 203), (11, 18, 204), (10, 159, 205), (11, 136, 206),
  (11, 25, 207), (11, 30, 208), (10, 309, 209), (10, 254, 210), (10, 190, 211), (10, 312, 212),
  (10, 239, 213), (10, 292, 214), (10, 247, 215), (10, 269, 216), (10, 232, 217), (10, 236, 218),
  (10, 272, 219), (10, 275, 220), (10, 243, 221), (10, 295, 222), (10, 278, 223), (10, 298, 224),
  (10, 301, 225), (10, 304, 226), (10, 284, 227), (10, 250, 228), (10, 288, 229), (10, 266, 230),
  (10, 260, 231), (10, 257, 232), (10, 263, 233), (10, 318, 234), (11, 35, 235), (10, 337, 236),
  (10, 340, 237), (10, 343, 238), (11, 39, 239), (11, 44, 240), (10, 347, 241), (11, 62, 242),
  (10, 350, 243), (10, 358, 244), (10, 354, 245), (11, 67, 246), (10, 371, 247), (10, 374, 248),
  (10, 365, 249), (10, 368, 250), (11, 49, 251), (10, 377, 252)]
def eMr_3 : List (Nat × Nat × Nat) := [(11, 58, 253), (10, 390, 254), (10, 386, 255), (10, 380, 256), (10, 383, 257), (11, 71, 258),
  (10, 393, 259), (10, 396, 260), (10, 399, 261), (11, 75, 262), (10, 403, 263), (11, 79, 264),
  (11, 84, 265), (10, 407, 266), (10, 410, 267), (10, 413, 268), (11, 88, 269), (10, 417, 270),
  (11, 92, 271), (11, 96, 272), (10, 426, 273), (10, 429, 274), (10, 432, 275), (11, 100, 276),
  (11, 105, 277), (11, 109, 278), (11, 113, 279), (11, 117, 280), (11, 121, 281), (10, 439, 282),
  (11, 53, 283), (11, 125, 284), (10, 442, 285), (10, 445, 286), (11, 129, 287), (11, 135, 288),
  (11, 142, 289), (11, 146, 290), (11, 150, 291), (10, 450, 292), (11, 154, 293), (11, 158, 294),
  (11, 162, 295), (10, 467, 296), (10, 456, 297), (10, 463, 298), (10, 460, 299), (11, 166, 300),
  (11, 170, 301), (11, 174, 302), (11, 179, 303), (10, 478, 304), (10, 474, 305), (10, 482, 306),
  (11, 183, 307)]
def eMr : List (Nat × Nat × Nat) := eMr_0 ++ (eMr_1 ++ (eMr_2 ++ (eMr_3)))
def eMn : List (Nat × Nat × Nat) := [(9, 11, 1), (9, 18, 2), (9, 25, 3), (6, 9, 4), (6, 18, 5), (6, 28, 6), (9, 40, 7), (9, 47, 5),
  (9, 54, 8), (9, 64, 9), (9, 86, 4), (4, 203, 84), (0, 60, 113), (7, 72, 96), (4, 218, 96), (0, 80, 122),
  (5, 85, 122), (1, 74, 172), (0, 64, 96), (4, 236, 172), (4, 229, 122)]
def eOi : List (Nat × Nat) := [(9, 3), (8, 1), (2, 5), (6, 1), (4, 3), (7, 3), (3, 3), (0, 3),
  (1, 3), (5, 3), (10, 1)]
/-- own class, pool index, class, field, its type (0 int, 1 long, 2 reference, 3 boolean, 4 char), final -/
def eFr_0 : List (Nat × Nat × Nat × Nat × Nat × Bool) := [(8, 9, 8, 0, 2, true), (8, 13, 8, 1, 0, false), (8, 19, 8, 2, 0, false), (8, 43, 8, 3, 0, false), (8, 32, 8, 4, 0, false), (8, 35, 8, 5, 4, false),
  (8, 57, 8, 6, 0, false), (8, 53, 8, 7, 1, false), (8, 22, 8, 8, 0, false), (2, 13, 2, 0, 2, true), (2, 17, 2, 1, 2, true), (2, 20, 2, 2, 0, false),
  (2, 96, 2, 3, 0, false), (4, 109, 4, 0, 0, false), (4, 133, 4, 1, 0, false), (4, 141, 4, 2, 0, false), (4, 171, 4, 3, 0, false), (4, 9, 4, 4, 2, true),
  (4, 15, 4, 5, 2, true), (4, 19, 4, 6, 2, true), (4, 22, 4, 7, 2, true), (4, 25, 4, 8, 2, true), (4, 28, 4, 9, 2, true), (4, 31, 4, 10, 2, true),
  (4, 34, 4, 11, 2, true), (4, 37, 4, 12, 2, true), (4, 41, 4, 13, 2, true), (4, 44, 4, 14, 2, true), (4, 47, 4, 15, 1, false), (7, 11, 7, 0, 2, true),
  (7, 15, 7, 1, 2, true), (7, 18, 7, 2, 2, true), (7, 22, 7, 3, 2, true), (7, 25, 7, 4, 2, true), (7, 28, 7, 5, 0, false), (3, 9, 3, 0, 2, true),
  (3, 15, 3, 1, 2, true), (3, 18, 3, 2, 2, true), (3, 21, 3, 3, 2, true), (3, 24, 3, 4, 0, false), (6, 10, 6, 0, 2, false), (6, 19, 6, 1, 2, true),
  (6, 23, 6, 2, 2, true), (6, 29, 6, 3, 2, true), (6, 33, 6, 4, 2, true), (6, 40, 6, 5, 0, false), (0, 9, 0, 0, 2, true), (0, 15, 0, 1, 2, true),
  (1, 11, 1, 0, 2, true), (1, 15, 1, 1, 2, true), (1, 18, 1, 2, 0, false), (5, 9, 5, 0, 2, true), (5, 15, 5, 1, 2, true), (5, 19, 5, 2, 2, true),
  (5, 22, 5, 3, 2, true), (5, 25, 5, 4, 0, false), (5, 29, 5, 5, 1, false), (5, 74, 5, 6, 1, false), (9, 12, 9, 0, 2, true), (9, 19, 9, 1, 2, true),
  (9, 26, 9, 2, 2, true), (9, 30, 9, 3, 2, true), (9, 34, 9, 4, 2, true), (9, 41, 9, 5, 2, true), (9, 48, 9, 6, 2, true), (9, 55, 9, 7, 2, true),
  (9, 59, 9, 8, 2, true), (9, 65, 9, 9, 2, true), (9, 69, 9, 10, 2, true), (9, 73, 9, 11, 2, true), (10, 162, 10, 0, 0, false), (10, 168, 10, 1, 0, false),
  (10, 7, 10, 2, 2, true), (10, 171, 10, 3, 0, false), (10, 174, 10, 4, 0, false), (10, 177, 10, 5, 0, false), (10, 187, 10, 6, 0, false), (10, 180, 10, 7, 1, false),
  (10, 184, 10, 8, 0, false), (10, 198, 10, 9, 0, false), (10, 13, 10, 10, 2, true), (10, 16, 10, 11, 2, true), (10, 20, 10, 12, 2, true), (10, 23, 10, 13, 2, true),
  (10, 26, 10, 14, 2, true), (10, 29, 10, 15, 2, true), (10, 32, 10, 16, 2, true), (10, 35, 10, 17, 2, true), (10, 38, 10, 18, 2, true), (10, 42, 10, 19, 2, true),
  (10, 45, 10, 20, 2, true), (10, 48, 10, 21, 2, true), (10, 51, 10, 22, 2, true), (10, 201, 10, 23, 0, false), (10, 54, 10, 24, 2, true), (10, 57, 10, 25, 2, true),
  (10, 60, 10, 26, 2, true), (10, 63, 10, 27, 2, true), (10, 66, 10, 28, 2, true), (10, 69, 10, 29, 2, true)]
def eFr_1 : List (Nat × Nat × Nat × Nat × Nat × Bool) := [(10, 72, 10, 30, 2, true), (10, 75, 10, 31, 2, true), (10, 78, 10, 32, 2, true), (10, 81, 10, 33, 2, true), (10, 84, 10, 34, 2, true), (10, 87, 10, 35, 2, true),
  (10, 90, 10, 36, 2, true), (10, 315, 10, 37, 0, false), (10, 281, 10, 38, 0, false), (10, 93, 10, 39, 2, true), (10, 322, 10, 40, 0, false), (10, 325, 10, 41, 0, false),
  (10, 328, 10, 42, 0, false), (10, 331, 10, 43, 0, false), (10, 334, 10, 44, 0, false), (10, 96, 10, 45, 2, true), (10, 99, 10, 46, 2, true), (10, 102, 10, 47, 2, true),
  (10, 105, 10, 48, 2, true), (10, 108, 10, 49, 2, true), (10, 362, 10, 50, 0, false), (10, 111, 10, 51, 2, true), (10, 114, 10, 52, 2, true), (10, 117, 10, 53, 2, true),
  (10, 120, 10, 54, 2, true), (10, 123, 10, 55, 2, true), (10, 126, 10, 56, 2, true), (10, 129, 10, 57, 2, true), (10, 132, 10, 58, 2, true), (10, 135, 10, 59, 2, true),
  (10, 138, 10, 60, 2, true), (10, 453, 10, 61, 0, false), (10, 141, 10, 62, 2, true), (10, 144, 10, 63, 2, true), (10, 147, 10, 64, 2, true), (10, 150, 10, 65, 2, true),
  (10, 153, 10, 66, 2, true), (10, 156, 10, 67, 2, true), (10, 471, 10, 68, 0, false)]
def eFr : List (Nat × Nat × Nat × Nat × Nat × Bool) := eFr_0 ++ (eFr_1)
def eFn : List (Nat × Nat × Nat × Nat × Nat × Bool) := [(1, 41, 6, 0, 2, false), (5, 48, 6, 0, 2, false), (9, 124, 6, 0, 2, false), (1, 26, 6, 1, 2, true), (5, 33, 6, 1, 2, true), (9, 108, 6, 1, 2, true), (9, 121, 6, 2, 2, true), (9, 145, 6, 3, 2, true),
  (9, 156, 6, 4, 2, true), (1, 50, 6, 5, 0, false), (9, 132, 6, 5, 0, false)]
def eNr : List (Nat × Nat × Nat) := [(11, 8, 9), (9, 9, 8), (9, 16, 2), (9, 23, 6), (6, 7, 4), (6, 16, 7), (6, 26, 3), (9, 38, 0),
  (9, 45, 7), (9, 52, 1), (9, 62, 5), (9, 84, 4), (11, 16, 10)]
def eKi : List (Nat × Nat × Int32) := [(12, 264, 65536), (12, 265, 1431655765), (12, 266, 858993459), (12, 267, 252645135)]
def eKl : List (Nat × Nat × Int64) := [(8, 17, 255), (4, 57, 1717658484), (4, 117, 109299962372965), (4, 67, 482854658917),
  (4, 136, 27696016923389543), (4, 72, 123581014175598), (4, 144, 24948), (4, 150, 461414299507),
  (4, 77, 109330228408174), (2, 59, 7237492), (2, 31, 6385252), (2, 37, 28530),
  (4, 83, 1668244331), (4, 187, 7102839), (4, 189, 1818326117), (4, 198, (-1)),
  (0, 47, (-1)), (13, 314, 6148914691236517205), (13, 316, 3689348814741910323), (13, 318, 1085102592571150095),
  (9, 204, (-1)), (9, 344, 10), (10, 166, 255), (10, 194, 27),
  (10, 196, 96), (10, 204, 118928), (10, 206, 47328224), (10, 208, 8740067),
  (10, 210, 847478194), (10, 212, 232608281), (10, 214, 47), (10, 216, 6132988),
  (10, 218, 51284111), (10, 220, 70076), (10, 222, 8798), (10, 224, 237470),
  (10, 226, 10631), (10, 228, 1111), (10, 230, 423), (10, 307, (-1)),
  (10, 448, 10), (11, 19, 4294967295)]
/-- kind and length of the cells that are there from the start -/
def eKd_0 : List (Nat × Nat) := [(20, 0), (21, 6), (21, 14), (9, 12), (8, 9), (22, 1000), (2, 4), (20, 1000), (20, 64), (6, 6), (4, 16), (21, 6),
  (20, 6), (21, 6), (20, 6), (21, 6), (20, 6), (20, 6), (20, 6), (23, 2), (20, 2), (20, 2), (7, 6), (20, 31),
  (20, 31), (21, 31), (21, 31), (21, 31), (7, 6), (20, 31), (20, 31), (21, 31), (21, 31), (21, 31), (3, 5), (20, 12),
  (20, 12), (20, 12), (20, 12), (3, 5), (20, 12), (20, 12), (20, 12), (20, 12), (24, 4), (23, 4), (0, 2), (21, 7),
  (21, 7), (7, 6), (20, 31), (20, 31), (21, 31), (21, 31), (21, 31), (1, 3), (20, 25), (20, 25), (1, 3), (20, 25)]
def eKd_1 : List (Nat × Nat) := [(20, 25), (5, 7), (20, 24), (21, 168), (21, 7), (20, 3), (21, 12), (21, 4096), (6, 6), (4, 16), (21, 6), (20, 6),
  (21, 6), (20, 6), (21, 6), (20, 6), (20, 6), (20, 6), (23, 2), (20, 2), (20, 2), (7, 6), (20, 31), (20, 31),
  (21, 31), (21, 31), (21, 31), (7, 6), (20, 31), (20, 31), (21, 31), (21, 31), (21, 31), (3, 5), (20, 12), (20, 12),
  (20, 12), (20, 12), (3, 5), (20, 12), (20, 12), (20, 12), (20, 12), (6, 6), (4, 16), (21, 6), (20, 6), (21, 6),
  (20, 6), (21, 6), (20, 6), (20, 6), (20, 6), (23, 2), (20, 2), (20, 2), (7, 6), (20, 31), (20, 31), (21, 31)]
def eKd_2 : List (Nat × Nat) := [(21, 31), (21, 31), (7, 6), (20, 31), (20, 31), (21, 31), (21, 31), (21, 31), (3, 5), (20, 12), (20, 12), (20, 12),
  (20, 12), (3, 5), (20, 12), (20, 12), (20, 12), (20, 12), (6, 6), (4, 16), (21, 6), (20, 6), (21, 6), (20, 6),
  (21, 6), (20, 6), (20, 6), (20, 6), (23, 2), (20, 2), (20, 2), (7, 6), (20, 31), (20, 31), (21, 31), (21, 31),
  (21, 31), (7, 6), (20, 31), (20, 31), (21, 31), (21, 31), (21, 31), (3, 5), (20, 12), (20, 12), (20, 12), (20, 12),
  (3, 5), (20, 12), (20, 12), (20, 12), (20, 12), (6, 6), (4, 16), (21, 6), (20, 6), (21, 6), (20, 6), (21, 6)]
def eKd_3 : List (Nat × Nat) := [(20, 6), (20, 6), (20, 6), (23, 2), (20, 2), (20, 2), (7, 6), (20, 31), (20, 31), (21, 31), (21, 31), (21, 31),
  (7, 6), (20, 31), (20, 31), (21, 31), (21, 31), (21, 31), (3, 5), (20, 12), (20, 12), (20, 12), (20, 12), (3, 5),
  (20, 12), (20, 12), (20, 12), (20, 12), (10, 69), (20, 1000), (20, 6), (21, 36), (20, 12), (20, 12), (20, 12), (20, 12),
  (20, 4), (20, 4), (23, 4), (21, 2), (20, 1000), (20, 1), (20, 1), (20, 7), (23, 7), (20, 7), (20, 7), (20, 7),
  (20, 7), (20, 7), (20, 7), (20, 7), (20, 7), (20, 7), (20, 20), (23, 2), (21, 4), (20, 31), (20, 31), (21, 31)]
def eKd_4 : List (Nat × Nat) := [(23, 31), (20, 31), (21, 62), (20, 12), (20, 12), (20, 12), (20, 12), (21, 12), (20, 360), (20, 360), (20, 4), (20, 4),
  (20, 24), (20, 1536), (20, 3), (23, 4), (20, 1200), (21, 400), (21, 1)]
def eKd : List (Nat × Nat) := eKd_0 ++ (eKd_1 ++ (eKd_2 ++ (eKd_3 ++ (eKd_4))))
def ePd : List (Nat × Nat) := [(4, 16), (21, 6), (20, 6), (21, 6), (20, 6), (21, 6), (20, 6), (20, 6),
  (20, 6), (23, 2), (20, 2), (20, 2)]
def eSt : List (Nat × Nat × Nat) := [(8, 60, 2), (9, 387, 1)]
def eEx : List (Nat × Nat) := [(11, 13), (9, 331)]
abbrev eN0 : Nat := 259
/-- own class, pool index, which of the library: 0 max, 1 min, 2 abs, 3 max of longs -/
def eMa : List (Nat × Nat × Nat) := [(7, 40, 1), (9, 214, 3), (9, 393, 1), (0, 74, 0), (9, 390, 2), (1, 62, 1), (1, 68, 0), (9, 346, 0),
  (10, 420, 0), (10, 436, 1)]
abbrev eNC : Nat := 308
/-- the method of the law that catches; the law -/
abbrev eSec : Nat := 308
abbrev eThr : Nat := 202
def eSites : List (Nat × Nat) := [(202, 64), (202, 142)]
def eCx : List (String × String) := [("java/util/NoSuchElementException", "java/util/NoSuchElementException"), ("LiarsCock", "java/lang/Object"),
  ("LiarsCock$Tape", "java/lang/Object"), ("LiarsCock$Formula", "java/lang/Object"),
  ("LiarsCock$State", "java/lang/Object"), ("LiarsCock$Parish", "java/lang/Object"),
  ("LiarsCock$Talk", "java/lang/Object"), ("LiarsCock$Looks", "java/lang/Object"),
  ("LiarsCock$Aim", "java/lang/Object"), ("LiarsCock$Course", "java/lang/Object"),
  ("LiarsCock$Search", "java/lang/Object"), ("LiarsCockModel", "java/lang/Object"),
  ("java/util/NoSuchElementException", "java/lang/Object"), ("java/lang/Throwable", "java/lang/Object"),
  ("java/lang/String", "java/lang/Object")]
def eDx : List MethodName := [⟨"java/lang/RuntimeException", "<init>", "()V"⟩, ⟨"java/lang/RuntimeException", "<init>", "(Ljava/lang/String;)V"⟩,
  ⟨"java/lang/Exception", "<init>", "()V"⟩, ⟨"java/lang/Exception", "<init>", "(Ljava/lang/String;)V"⟩,
  ⟨"java/lang/Throwable", "<init>", "()V"⟩, ⟨"java/lang/Throwable", "<init>", "(Ljava/lang/String;)V"⟩]
abbrev eLaw : Nat := 309
/-! ===== the interpreter over a mathematical memory ===== -/
/-- a local that holds nothing (or the second half of a long) -/
def eU : Value := .retAddr 0
/-- ints, longs, references (by the numbers of the cells), next cell's number, how many cells and slots were made, the script's length -/
abbrev eM : Type := (Nat → Nat → Int32) × (Nat → Nat → Int64) × (Nat → Nat → Option Nat) × Nat × Nat × Nat × Nat
def gI (m : eM) : Nat → Nat → Int32 := m.1
def gL (m : eM) : Nat → Nat → Int64 := m.2.1
def gR (m : eM) : Nat → Nat → Option Nat := m.2.2.1
def gX (m : eM) : Nat := m.2.2.2.1
def gH (m : eM) : Nat := m.2.2.2.2.1
def gS (m : eM) : Nat := m.2.2.2.2.2.1
def gN (m : eM) : Nat := m.2.2.2.2.2.2
def sI (m : eM) (a i : Nat) (v : Int32) : eM := (fun b j => if b = a ∧ j = i then v else gI m b j, m.2)
def sL (m : eM) (a i : Nat) (v : Int64) : eM := (m.1, fun b j => if b = a ∧ j = i then v else gL m b j, m.2.2)
def sR (m : eM) (a i : Nat) (v : Option Nat) : eM := (m.1, m.2.1, fun b j => if b = a ∧ j = i then v else gR m b j, m.2.2.2)
/-- a new cell of n slots, with a number -/
def sN (m : eM) (n : Nat) : eM := (m.1, m.2.1, m.2.2.1, gX m + 1, gH m + 1, gS m + n, gN m)
/-- a new cell of n slots that nobody names -/
def sX (m : eM) (n : Nat) : eM := (m.1, m.2.1, m.2.2.1, gX m, gH m + 1, gS m + n, gN m)
def eM0 : eMT := (⟨"", "", ""⟩, ⟨#[]⟩, 0, none, 99, 0, true)
def mE (μ : Nat) : eMT := eMs.getD μ eM0
def mN (μ : Nat) : MethodName := (mE μ).1
def mB (μ : Nat) : ByteArray := (mE μ).2.1
def mL (μ : Nat) : Nat := (mE μ).2.2.1
def mR (μ : Nat) : Option FieldType := (mE μ).2.2.2.1
def mC (μ : Nat) : Nat := (mE μ).2.2.2.2.1
def mP (μ : Nat) : Nat := (mE μ).2.2.2.2.2.1
def mS (μ : Nat) : Bool := (mE μ).2.2.2.2.2.2
def mIni (μ : Nat) : Bool := (mN μ).name == "<init>"
def cN (c : Nat) : String := eCN.getD c ""
def kk (a : Nat) : Nat × Nat := if a < eN0 then eKd.getD a (99, 0) else ePd.getD ((a - eN0) % 12) (99, 0)
def kd (a : Nat) : Nat := (kk a).1
def kl (a : Nat) : Nat := (kk a).2
/-- how many cells an array has -/
def aln (m : eM) (a : Nat) : Nat := if a = 0 then gN m else kl a
def vr : Option Nat → Value
  | none => .null
  | some a => .ref a
def eR2 {α : Type} (t : List (Nat × Nat × α)) (c k : Nat) : Option α := (t.find? (fun q => q.1 == c && q.2.1 == k)).map (fun q => q.2.2)
def mRes (c k : Nat) : Option Nat := eR2 eMr c k
def mRn (c k : Nat) : Option Nat := eR2 eMn c k
def fRes (c k : Nat) : Option (Nat × Nat × Nat × Bool) := eR2 eFr c k
def fRn (c k : Nat) : Option (Nat × Nat × Nat × Bool) := eR2 eFn c k
def fAny (c k : Nat) : Option (Nat × Nat × Nat × Bool) := (fRes c k).or (fRn c k)
def nRes (c k : Nat) : Option Nat := eR2 eNr c k
def iRes (c k : Nat) : Option Int32 := eR2 eKi c k
def lRes (c k : Nat) : Option Int64 := eR2 eKl c k
def sRes (c k : Nat) : Option Nat := eR2 eSt c k
def oRes (c k : Nat) : Bool := eOi.contains (c, k)
def aRes (c k : Nat) : Option Nat := eR2 eMa c k
def xRes (c k : Nat) : Bool := eEx.contains (c, k)
def eNf (ci : Nat) : Nat := ((eCl[ci]?).map (fun q => q.2.2)).getD 0
/-- a field's value, by its type -/
def gF (m : eM) (a j ty : Nat) : Value := if ty = 1 then .long (gL m a j) else if ty = 2 then vr (gR m a j) else .int (gI m a j)
def eOut : Type := Nat × List Value × List Value × eM
def eGo (pc : Nat) (ls st : List Value) (m : eM) : Option (Nat × List Value × List Value × eM) := some (pc, ls, st, m)
def e1I (f : Int32 → Value) (pc : Nat) (ls st : List Value) (m : eM) : Option (Nat × List Value × List Value × eM) := match st with
  | .int x :: r => eGo pc ls (f x :: r) m
  | _ => none
def e2I (f : Int32 → Int32 → Value) (pc : Nat) (ls st : List Value) (m : eM) : Option (Nat × List Value × List Value × eM) := match st with
  | .int y :: .int x :: r => eGo pc ls (f x y :: r) m
  | _ => none
def e1L (f : Int64 → Value) (pc : Nat) (ls st : List Value) (m : eM) : Option (Nat × List Value × List Value × eM) := match st with
  | .long x :: r => eGo pc ls (f x :: r) m
  | _ => none
def e2L (f : Int64 → Int64 → Value) (pc : Nat) (ls st : List Value) (m : eM) : Option (Nat × List Value × List Value × eM) := match st with
  | .long y :: .long x :: r => eGo pc ls (f x y :: r) m
  | _ => none
def eLI (f : Int64 → Int32 → Value) (pc : Nat) (ls st : List Value) (m : eM) : Option (Nat × List Value × List Value × eM) := match st with
  | .int y :: .long x :: r => eGo pc ls (f x y :: r) m
  | _ => none
/-- storing a value of one slot: a long behind whose second half it lies is gone -/
def eSet1 (ls : List Value) (i : Nat) (v : Value) : List Value := match i with
  | 0 => ls.set 0 v
  | k + 1 => (if (ls.getD k eU).category = 2 then ls.set k eU else ls).set (k + 1) v
def eSet2 (ls : List Value) (i : Nat) (v : Value) : List Value := (eSet1 ls i v).set (i + 1) eU
def eH (c : Jvm.ClassFile.Cond) (x y : Int32) : Bool := match c with
  | .eq => decide (x = y)
  | .ne => decide (¬ x = y)
  | .lt => decide (x < y)
  | .ge => decide (y ≤ x)
  | .gt => decide (y < x)
  | .le => decide (x ≤ y)
def eT (pc : Nat) (off : Int) : Nat := ((pc : Int) + off).toNat
def eLd (i len pc : Nat) (k : Nat) (ls st : List Value) (m : eM) : Option (Nat × List Value × List Value × eM) := match ls[i]?, k with
  | some (.int x), 0 => eGo (pc + len) ls (.int x :: st) m
  | some (.long x), 1 => eGo (pc + len) ls (.long x :: st) m
  | some (.ref x), 2 => eGo (pc + len) ls (.ref x :: st) m
  | _, _ => none
def eSt1 (i len pc : Nat) (k : Nat) (ls st : List Value) (m : eM) : Option (Nat × List Value × List Value × eM) := match st, k with
  | .int x :: r, 0 => if i < ls.length then eGo (pc + len) (eSet1 ls i (.int x)) r m else none
  | .long x :: r, 1 => if i + 1 < ls.length then eGo (pc + len) (eSet2 ls i (.long x)) r m else none
  | .ref x :: r, 2 => if i < ls.length then eGo (pc + len) (eSet1 ls i (.ref x)) r m else none
  | _, _ => none
/-- an index lies in an array -/
def eIn (m : eM) (a : Nat) (j : Int32) : Bool := decide (¬ (j < 0 ∨ aln m a ≤ j.toNatClampNeg))
def eAld (k pc : Nat) (ls st : List Value) (m : eM) : Option (Nat × List Value × List Value × eM) := match st with
  | .int j :: .ref a :: r => if kd a = k ∧ eIn m a j = true ∧ (k = 24 → (gR m a j.toNatClampNeg).isSome = true) then eGo (pc + 1) ls ((if k = 21 then .long (gL m a j.toNatClampNeg) else if k = 24 then vr (gR m a j.toNatClampNeg) else .int (gI m a j.toNatClampNeg)) :: r) m else none
  | _ => none
def eAst (k pc : Nat) (f : Int32 → Int32) (ls st : List Value) (m : eM) : Option (Nat × List Value × List Value × eM) := match st with
  | .int x :: .int j :: .ref a :: r => if kd a = k ∧ eIn m a j = true ∧ 3 ≤ a then eGo (pc + 1) ls r (sI m a j.toNatClampNeg (f x)) else none
  | _ => none
def eAstL (pc : Nat) (ls st : List Value) (m : eM) : Option (Nat × List Value × List Value × eM) := match st with
  | .long x :: .int j :: .ref a :: r => if kd a = 21 ∧ eIn m a j = true ∧ 3 ≤ a then eGo (pc + 1) ls r (sL m a j.toNatClampNeg x) else none
  | _ => none
def eAstR (pc : Nat) (ls st : List Value) (m : eM) : Option (Nat × List Value × List Value × eM) := match st with
  | .ref x :: .int j :: .ref a :: r => if kd a = 24 ∧ kd x = 6 ∧ eIn m a j = true ∧ 3 ≤ a then eGo (pc + 1) ls r (sR m a j.toNatClampNeg (some x)) else none
  | _ => none
/-- whether a value may be stored in a field of a type, and the memory then -/
def ePut (m : eM) (a j ty : Nat) (v : Value) : Option eM := match v with
  | .int x => if ty = 0 then some (sI m a j x) else if ty = 3 then (if x = 0 ∨ x = 1 then some (sI m a j x) else none) else if ty = 4 then (if 0 ≤ x ∧ x ≤ 65535 then some (sI m a j x) else none) else none
  | .long x => if ty = 1 then some (sL m a j x) else none
  | .ref b => if ty = 2 then some (sR m a j (some b)) else none
  | _ => none
def eGetF (o : Option (Nat × Nat × Nat × Bool)) (pc : Nat) (ls st : List Value) (m : eM) : Option (Nat × List Value × List Value × eM) := match o, st with
  | some (ci, j, ty, _), .ref a :: r => if kd a = ci ∧ (ty = 2 → (gR m a j).isSome = true) then eGo (pc + 3) ls (gF m a j ty :: r) m else none
  | _, _ => none
def ePutF (o : Option (Nat × Nat × Nat × Bool)) (c : Nat) (ini : Bool) (pc : Nat) (ls st : List Value) (m : eM) : Option (Nat × List Value × List Value × eM) := match o, st with
  | some (ci, j, ty, fin), v :: .ref a :: r => if kd a = ci ∧ 3 ≤ a ∧ (fin = false ∨ (ini = true ∧ c = ci)) then (match ePut m a j ty v with
    | some m' => eGo (pc + 3) ls r m'
    | none => none) else none
  | _, _ => none
def eCat (vs : List Value) : Nat := (vs.map fun v => v.category).sum
def eAlen (pc : Nat) (ls st : List Value) (m : eM) : Option (Nat × List Value × List Value × eM) := match st with
  | .ref a :: r => if 20 ≤ kd a ∧ kd a ≤ 24 then eGo (pc + 1) ls (.int (aln m a).toInt32 :: r) m else none
  | _ => none
def eNew (o : Option Nat) (pc : Nat) (ls st : List Value) (m : eM) : Option (Nat × List Value × List Value × eM) := match o with
  | some ci => if kd (gX m) = ci ∧ ci < 11 then eGo (pc + 3) ls (.ref (gX m) :: st) (sN m (eNf ci)) else none
  | none => none
def eNewA (k pc len : Nat) (ls st : List Value) (m : eM) : Option (Nat × List Value × List Value × eM) := match st with
  | .int n :: r => if kd (gX m) = k ∧ kl (gX m) = n.toNatClampNeg ∧ ¬ n < 0 ∧ n ≤ 100000 ∧ k ≤ 24 then eGo (pc + len) ls (.ref (gX m) :: r) (sN m n.toNatClampNeg) else none
  | _ => none
def eATy (t : ArrayType) : Nat := match t with
  | .int => 20
  | .long => 21
  | .char => 22
  | .boolean => 23
  | _ => 98
def eDup (pc : Nat) (ls st : List Value) (m : eM) : Option (Nat × List Value × List Value × eM) := match st with
  | v :: r => if v.category = 1 then eGo (pc + 1) ls (v :: v :: r) m else none
  | _ => none
def eDup2 (pc : Nat) (ls st : List Value) (m : eM) : Option (Nat × List Value × List Value × eM) := match st with
  | v :: r => if v.category = 2 then eGo (pc + 1) ls (v :: v :: r) m else (match r with
    | w :: r2 => if w.category = 1 then eGo (pc + 1) ls (v :: w :: v :: w :: r2) m else none
    | _ => none)
  | _ => none
def ePop (pc : Nat) (ls st : List Value) (m : eM) : Option (Nat × List Value × List Value × eM) := match st with
  | v :: r => if v.category = 1 then eGo (pc + 1) ls r m else none
  | _ => none
def eJmp (pc : Nat) (off : Int) (ls st : List Value) (m : eM) : Option (Nat × List Value × List Value × eM) := if 0 ≤ (pc : Int) + off then eGo (eT pc off) ls st m else none
def eIf (b : Int32 → Bool) (pc : Nat) (off : Int) (ls st : List Value) (m : eM) : Option (Nat × List Value × List Value × eM) := match st with
  | .int x :: r => if 0 ≤ (pc : Int) + off then eGo (if b x = true then eT pc off else pc + 3) ls r m else none
  | _ => none
def eIf2 (b : Int32 → Int32 → Bool) (pc : Nat) (off : Int) (ls st : List Value) (m : eM) : Option (Nat × List Value × List Value × eM) := match st with
  | .int y :: .int x :: r => if 0 ≤ (pc : Int) + off then eGo (if b x y = true then eT pc off else pc + 3) ls r m else none
  | _ => none
def eNn (pc : Nat) (off : Int) (ls st : List Value) (m : eM) : Option (Nat × List Value × List Value × eM) := match st with
  | .ref _ :: r => if 0 ≤ (pc : Int) + off then eGo (eT pc off) ls r m else none
  | _ => none
def eTab (dflt lo hi : Int) (offs : Array Int) (pc : Nat) (ls st : List Value) (m : eM) : Option (Nat × List Value × List Value × eM) := match st with
  | .int x :: r => if x.toInt < lo ∨ hi < x.toInt then eJmp pc dflt ls r m else (match offs[(x.toInt - lo).toNat]? with
    | some off => eJmp pc off ls r m
    | none => none)
  | _ => none
def eC {α : Type} (o : Option α) (f : α → Value) (pc : Nat) (ls st : List Value) (m : eM) : Option (Nat × List Value × List Value × eM) := match o with
  | some v => eGo pc ls (f v :: st) m
  | none => none
def eObj (b : Bool) (d pc : Nat) (ls st : List Value) (m : eM) : Option (Nat × List Value × List Value × eM) := match st with
  | .ref _ :: r => if b = true ∧ 1 ≤ d ∧ eCat r ≤ 8 then eGo (pc + 3) ls r m else none
  | _ => none
def eDiv (pc : Nat) (f : Int32 → Int32 → Value) (ls st : List Value) (m : eM) : Option (Nat × List Value × List Value × eM) := match st with
  | .int y :: .int x :: r => if y = 0 then none else eGo pc ls (f x y :: r) m
  | _ => none
def eDivL (pc : Nat) (f : Int64 → Int64 → Value) (ls st : List Value) (m : eM) : Option (Nat × List Value × List Value × eM) := match st with
  | .long y :: .long x :: r => if y = 0 then none else eGo pc ls (f x y :: r) m
  | _ => none
def eMath (o : Option Nat) (d pc : Nat) (ls st : List Value) (m : eM) : Option (Nat × List Value × List Value × eM) := match o, st with
  | some 0, .int y :: .int x :: r => if 1 ≤ d ∧ eCat r ≤ 8 then eGo (pc + 3) ls (.int (if x < y then y else x) :: r) m else none
  | some 1, .int y :: .int x :: r => if 1 ≤ d ∧ eCat r ≤ 8 then eGo (pc + 3) ls (.int (if y < x then y else x) :: r) m else none
  | some 2, .int x :: r => if 1 ≤ d ∧ eCat r ≤ 8 then eGo (pc + 3) ls (.int (if 0 ≤ x then x else 0 - x) :: r) m else none
  | some 3, .long y :: .long x :: r => if 1 ≤ d ∧ eCat r ≤ 8 then eGo (pc + 3) ls (.long (if y < x then x else y) :: r) m else none
  | _, _ => none
def lenOK (i : Instr) (n : Nat) : Bool := match i with
  | .tableswitch .. => true
  | .bipush _ | .ldc _ | .newarray _ | .iload _ | .lload _ | .aload _ | .istore _ | .lstore _ | .astore _ => n == 2
  | .sipush _ | .ldc_w _ | .ldc2_w _ | .iinc .. | .ifCond .. | .if_icmp .. | .goto _ | .ifnonnull _ | .getfield _ | .putfield _ | .getstatic _ | .new _ | .anewarray _ | .invokevirtual _ | .invokestatic _ | .invokespecial _ => n == 3
  | _ => n == 1
/-- one instruction that is no call, no return and no throw: c the class, ini whether it is a constructor, d how deep one may call -/
def alu (c : Nat) (ini : Bool) (d : Nat) (i : Instr) (pc : Nat) (ls st : List Value) (m : eM) : Option (Nat × List Value × List Value × eM) := match i with
  | .iconst n => eGo (pc + 1) ls (.int (Int32.ofInt n) :: st) m
  | .bipush n => eGo (pc + 2) ls (.int (Int8.ofInt n).toInt32 :: st) m
  | .sipush n => eGo (pc + 3) ls (.int (Int16.ofInt n).toInt32 :: st) m
  | .lconst n => eGo (pc + 1) ls (.long (Int64.ofNat (n : Nat)) :: st) m
  | .ldc k => eC (iRes c k) .int (pc + 2) ls st m
  | .ldc_w k => eC (iRes c k) .int (pc + 3) ls st m
  | .ldc2_w k => eC (lRes c k) .long (pc + 3) ls st m
  | .iload i => eLd i 2 pc 0 ls st m
  | .iload_n i => eLd i 1 pc 0 ls st m
  | .lload i => eLd i 2 pc 1 ls st m
  | .lload_n i => eLd i 1 pc 1 ls st m
  | .aload i => eLd i 2 pc 2 ls st m
  | .aload_n i => eLd i 1 pc 2 ls st m
  | .istore i => eSt1 i 2 pc 0 ls st m
  | .istore_n i => eSt1 i 1 pc 0 ls st m
  | .lstore i => eSt1 i 2 pc 1 ls st m
  | .lstore_n i => eSt1 i 1 pc 1 ls st m
  | .astore i => eSt1 i 2 pc 2 ls st m
  | .astore_n i => eSt1 i 1 pc 2 ls st m
  | .iinc i n => (match ls[i]? with
    | some (.int x) => eGo (pc + 3) (eSet1 ls i (.int (x + Int32.ofInt n))) st m
    | _ => none)
  | .iadd => e2I (fun x y => .int (x + y)) (pc + 1) ls st m
  | .isub => e2I (fun x y => .int (x - y)) (pc + 1) ls st m
  | .imul => e2I (fun x y => .int (x * y)) (pc + 1) ls st m
  | .iand => e2I (fun x y => .int (x &&& y)) (pc + 1) ls st m
  | .ior => e2I (fun x y => .int (x ||| y)) (pc + 1) ls st m
  | .ixor => e2I (fun x y => .int (x ^^^ y)) (pc + 1) ls st m
  | .ishl => e2I (fun x y => .int (x <<< (y &&& 31))) (pc + 1) ls st m
  | .ishr => e2I (fun x y => .int (x >>> (y &&& 31))) (pc + 1) ls st m
  | .iushr => e2I (fun x y => .int (x.toUInt32 >>> (y.toUInt32 &&& Int32.toUInt32 31)).toInt32) (pc + 1) ls st m
  | .idiv => eDiv (pc + 1) (fun x y => .int (x / y)) ls st m
  | .irem => eDiv (pc + 1) (fun x y => .int (x - x / y * y)) ls st m
  | .ineg => e1I (fun x => .int (-x)) (pc + 1) ls st m
  | .ladd => e2L (fun x y => .long (x + y)) (pc + 1) ls st m
  | .lsub => e2L (fun x y => .long (x - y)) (pc + 1) ls st m
  | .lmul => e2L (fun x y => .long (x * y)) (pc + 1) ls st m
  | .land => e2L (fun x y => .long (x &&& y)) (pc + 1) ls st m
  | .lor => e2L (fun x y => .long (x ||| y)) (pc + 1) ls st m
  | .lxor => e2L (fun x y => .long (x ^^^ y)) (pc + 1) ls st m
  | .ldiv => eDivL (pc + 1) (fun x y => .long (x / y)) ls st m
  | .lrem => eDivL (pc + 1) (fun x y => .long (x - x / y * y)) ls st m
  | .lcmp => e2L (fun x y => .int (lg_cmp x y)) (pc + 1) ls st m
  | .lshl => eLI (fun x y => .long (x <<< (y.toInt64 &&& 63))) (pc + 1) ls st m
  | .lshr => eLI (fun x y => .long (x >>> (y.toInt64 &&& 63))) (pc + 1) ls st m
  | .lushr => eLI (fun x y => .long (x.toUInt64 >>> (y.toInt64.toUInt64 &&& Int64.toUInt64 63)).toInt64) (pc + 1) ls st m
  | .i2l => e1I (fun x => .long x.toInt64) (pc + 1) ls st m
  | .l2i => e1L (fun x => .int x.toInt32) (pc + 1) ls st m
  | .i2c => e1I (fun x => .int (x.toUInt32 % 65536).toInt32) (pc + 1) ls st m
  | .dup => eDup (pc) ls st m
  | .dup2 => eDup2 pc ls st m
  | .pop => ePop pc ls st m
  | .goto off => eJmp pc off ls st m
  | .ifCond k off => eIf (fun x => eH k x 0) pc off ls st m
  | .if_icmp k off => eIf2 (fun x y => eH k x y) pc off ls st m
  | .ifnonnull off => eNn pc off ls st m
  | .tableswitch dflt lo hi offs => eTab dflt lo hi offs pc ls st m
  | .getfield k => eGetF (fAny c k) pc ls st m
  | .putfield k => ePutF (fAny c k) c ini pc ls st m
  | .getstatic k => eC (sRes c k) .ref (pc + 3) ls st m
  | .arraylength => eAlen pc ls st m
  | .iaload => eAld 20 pc ls st m
  | .laload => eAld 21 pc ls st m
  | .caload => eAld 22 pc ls st m
  | .baload => eAld 23 pc ls st m
  | .aaload => eAld 24 pc ls st m
  | .iastore => eAst 20 pc (fun x => x) ls st m
  | .lastore => eAstL pc ls st m
  | .castore => eAst 22 pc (fun x => x.toUInt32.toUInt16.toUInt32.toInt32) ls st m
  | .bastore => eAst 23 pc (fun x => x &&& 1) ls st m
  | .aastore => eAstR pc ls st m
  | .new k => eNew (nRes c k) pc ls st m
  | .newarray t => eNewA (eATy t) pc 2 ls st m
  | .anewarray k => if nRes c k = some 6 then eNewA 24 pc 3 ls st m else none
  | .invokespecial k => eObj (oRes c k) d pc ls st m
  | .invokestatic k => eMath (aRes c k) d pc ls st m
  | _ => none
/-- a return: the answer -/
def eFin (r : Option FieldType) (i : Instr) (st : List Value) : Option (Option Value) := match i, st with
  | .ireturn, [.int v] => (match r with
    | some ty => if narrow ty (.int v) = .int v ∧ ty ≠ .long then some (some (.int v)) else none
    | none => none)
  | .lreturn, [.long v] => if r = some .long then some (some (.long v)) else none
  | .return_, [] => if r = none then some none else none
  | _, _ => none
/-- a call: the method; 0 virtual, 1 a constructor, 2 static -/
def eCall (c : Nat) (i : Instr) : Option (Nat × Nat) := match i with
  | .invokevirtual k => ((mRes c k).or (mRn c k)).map (fun q => (q, 0))
  | .invokespecial k => ((mRes c k).or (mRn c k)).map (fun q => (q, 1))
  | .invokestatic k => ((mRes c k).or (mRn c k)).map (fun q => (q, 2))
  | _ => none
/-- the locals with which a method begins -/
def eArg : List Value → List Value
  | [] => []
  | v :: vs => if v.category = 2 then v :: eU :: eArg vs else v :: eArg vs
def eIni (n : Nat) (vs : List Value) : List Value := eArg vs ++ List.replicate (n - (eArg vs).length) eU
/-- whether a call may be made: args in order (the receiver first), what is left on the stack -/
def eOK (μ kind : Nat) (as rest : List Value) : Bool :=
  decide (as.length = mP μ) && decide (eCat rest ≤ 8) && decide ((eArg as).length ≤ mL μ) && (if kind = 2 then mS μ else !mS μ && (match as with
    | .ref a :: _ => decide (kd a = mC μ)
    | _ => false)) && (decide (kind = 1) == mIni μ)
def eThrow (μ pc : Nat) (i : Instr) : Bool := match i with
  | .new k => xRes (mC μ) k && eSites.contains (μ, pc)
  | _ => false
/-- fuel, depth, method, pc, locals, stack, memory: 'some (some v)' an answer, 'some none' an exception -/
def run : Nat → Nat → Nat → Nat → List Value → List Value → eM → Option (Option (Option Value) × eM)
  | 0, _, _, _, _, _, _ => none
  | n + 1, d, μ, pc, ls, st, m => match decode (mB μ) pc with
    | .error _ => none
    | .ok (i, len) => if lenOK i len = true then (match eFin (mR μ) i st with
      | some v => some (some v, m)
      | none => (match eCall (mC μ) i with
        | some (y, kind) => (match d with
          | 0 => none
          | d + 1 => if eOK y kind (st.take (mP y)).reverse (st.drop (mP y)) = true then (match run n d y 0 (eIni (mL y) (st.take (mP y)).reverse) [] m with
            | some (some v, m') => run n (d + 1) μ (pc + 3) ls (v.toList ++ st.drop (mP y)) m'
            | some (none, m') => if μ = eSec ∧ pc = 11 then some (some (some (.int 1)), m') else none
            | none => none) else none)
        | none => if eThrow μ pc i = true ∧ eCat st ≤ 8 ∧ 10 ≤ d then some (none, sX m 6) else (match alu (mC μ) (mIni μ) d i pc ls st m with
          | some (pc', ls', st', m') => run n d μ pc' ls' st' m'
          | none => none))) else none
