/-! ===== the methods and the heads of their loops as functions of the memory (printed by wip/whole/gen17.py out of claim/Statement.lean) ===== -/
noncomputable def LC_init (d : Nat) (a0 : Nat) (m : eM) : oX := X d 0 0 [.ref a0, eU] [] m
noncomputable def LC_init_126 (d : Nat) (a0 : Nat) (x1 : Int32) (m : eM) : oX := X d 0 126 [.ref a0, .int x1] [] m
noncomputable def Ta_init (d : Nat) (a0 : Nat) (m : eM) : oX := X d 1 0 [.ref a0] [] m
noncomputable def Fo_init (d : Nat) (a0 : Nat) (m : eM) : oX := X d 2 0 [.ref a0] [] m
noncomputable def St_init (d : Nat) (a0 : Nat) (m : eM) : oX := X d 3 0 [.ref a0] [] m
noncomputable def Pa_init (d : Nat) (a0 : Nat) (m : eM) : oX := X d 4 0 [.ref a0] [] m
noncomputable def Tk_init (d : Nat) (a0 : Nat) (m : eM) : oX := X d 5 0 [.ref a0] [] m
noncomputable def Lo_init (d : Nat) (a0 : Nat) (m : eM) : oX := X d 6 0 [.ref a0] [] m
noncomputable def Ai_init (d : Nat) (a0 : Nat) (m : eM) : oX := X d 7 0 [.ref a0] [] m
noncomputable def Co_init (d : Nat) (a0 : Nat) (m : eM) : oX := X d 8 0 [.ref a0] [] m
noncomputable def Se_init (d : Nat) (a0 : Nat) (m : eM) : oX := X d 9 0 [.ref a0] [] m
noncomputable def LC_feed (d : Nat) (a0 : Nat) (y1 : Int64) (y3 : Int64) (y5 : Int64) (m : eM) : oX := X d 10 0 [.ref a0, .long y1, eU, .long y3, eU, .long y5, eU] [] m
noncomputable def Ta_put (d : Nat) (a0 : Nat) (y1 : Int64) (m : eM) : oX := X d 11 0 [.ref a0, .long y1, eU, eU, eU, eU] [] m
noncomputable def Ta_put_3 (d : Nat) (a0 : Nat) (y1 : Int64) (x3 : Int32) (w4 : Value) (w5 : Value) (m : eM) : oX := X d 11 3 [.ref a0, .long y1, eU, .int x3, w4, w5] [] m
noncomputable def Ta_put_44 (d : Nat) (a0 : Nat) (y1 : Int64) (x3 : Int32) (x4 : Int32) (w5 : Value) (p0 : Int32) (m : eM) : oX := X d 11 44 [.ref a0, .long y1, eU, .int x3, .int x4, w5] [.int p0] m
noncomputable def Ta_length (d : Nat) (a0 : Nat) (m : eM) : oX := X d 12 0 [.ref a0] [] m
noncomputable def LC_parish (d : Nat) (a0 : Nat) (m : eM) : oX := X d 13 0 [.ref a0, eU, eU] [] m
noncomputable def Ta_open (d : Nat) (a0 : Nat) (m : eM) : oX := X d 14 0 [.ref a0] [] m
noncomputable def Ta_step (d : Nat) (a0 : Nat) (m : eM) : oX := X d 15 0 [.ref a0, eU, eU] [] m
noncomputable def Ta_step_57 (d : Nat) (a0 : Nat) (b0 : Nat) (p1 : Int32) (m : eM) : oX := X d 15 57 [.ref a0, eU, eU] [.int p1, .ref b0] m
noncomputable def Ta_behindBlanks (d : Nat) (a0 : Nat) (x1 : Int32) (m : eM) : oX := X d 16 0 [.ref a0, .int x1, eU] [] m
noncomputable def Ta_behindBlanks_2 (d : Nat) (a0 : Nat) (x1 : Int32) (x2 : Int32) (m : eM) : oX := X d 16 2 [.ref a0, .int x1, .int x2] [] m
noncomputable def Ta_runEnd (d : Nat) (a0 : Nat) (x1 : Int32) (x2 : Int32) (m : eM) : oX := X d 17 0 [.ref a0, .int x1, .int x2, eU] [] m
noncomputable def Ta_runEnd_5 (d : Nat) (a0 : Nat) (x1 : Int32) (x2 : Int32) (x3 : Int32) (m : eM) : oX := X d 17 5 [.ref a0, .int x1, .int x2, .int x3] [] m
noncomputable def Ta_readWord (d : Nat) (a0 : Nat) (x1 : Int32) (m : eM) : oX := X d 18 0 [.ref a0, .int x1, eU] [] m
noncomputable def Ta_readWord_10 (d : Nat) (a0 : Nat) (x1 : Int32) (x2 : Int32) (m : eM) : oX := X d 18 10 [.ref a0, .int x1, .int x2] [] m
noncomputable def Ta_readWord_53 (d : Nat) (a0 : Nat) (x1 : Int32) (x2 : Int32) (m : eM) : oX := X d 18 53 [.ref a0, .int x1, .int x2] [] m
noncomputable def Ta_readNumber (d : Nat) (a0 : Nat) (x1 : Int32) (m : eM) : oX := X d 19 0 [.ref a0, .int x1, eU] [] m
noncomputable def Ta_readNumber_10 (d : Nat) (a0 : Nat) (x1 : Int32) (x2 : Int32) (m : eM) : oX := X d 19 10 [.ref a0, .int x1, .int x2] [] m
noncomputable def Ta_readNumber_55 (d : Nat) (a0 : Nat) (x1 : Int32) (x2 : Int32) (m : eM) : oX := X d 19 55 [.ref a0, .int x1, .int x2] [] m
noncomputable def Pa_read (d : Nat) (a0 : Nat) (a1 : Nat) (a2 : Nat) (m : eM) : oX := X d 20 0 [.ref a0, .ref a1, .ref a2, eU, eU] [] m
noncomputable def Pa_read_5 (d : Nat) (a0 : Nat) (a1 : Nat) (a2 : Nat) (x3 : Int32) (x4 : Int32) (m : eM) : oX := X d 20 5 [.ref a0, .ref a1, .ref a2, .int x3, .int x4] [] m
noncomputable def Ta_kind (d : Nat) (a0 : Nat) (m : eM) : oX := X d 21 0 [.ref a0] [] m
noncomputable def Ta_isWord (d : Nat) (a0 : Nat) (y1 : Int64) (m : eM) : oX := X d 22 0 [.ref a0, .long y1, eU] [] m
noncomputable def Pa_readFact (d : Nat) (a0 : Nat) (a1 : Nat) (m : eM) : oX := X d 23 0 [.ref a0, .ref a1, eU, eU, eU] [] m
noncomputable def Pa_startLine (d : Nat) (a0 : Nat) (a1 : Nat) (x2 : Int32) (x3 : Int32) (m : eM) : oX := X d 24 0 [.ref a0, .ref a1, .int x2, .int x3] [] m
noncomputable def Ta_wrong (d : Nat) (a0 : Nat) (x1 : Int32) (m : eM) : oX := X d 25 0 [.ref a0, .int x1] [] m
noncomputable def Ta_isName (d : Nat) (a0 : Nat) (m : eM) : oX := X d 26 0 [.ref a0, eU, eU, eU, eU, eU] [] m
noncomputable def Ta_isName_19 (d : Nat) (a0 : Nat) (a1 : Nat) (x2 : Int32) (x3 : Int32) (w4 : Value) (m : eM) : oX := X d 26 19 [.ref a0, .ref a1, .int x2, .int x3, w4, eU] [] m
noncomputable def Ta_word (d : Nat) (a0 : Nat) (m : eM) : oX := X d 27 0 [.ref a0] [] m
noncomputable def Pa_isTold (d : Nat) (a0 : Nat) (y1 : Int64) (m : eM) : oX := X d 28 0 [.ref a0, .long y1, eU] [] m
noncomputable def Pa_find (d : Nat) (a0 : Nat) (x1 : Int32) (y2 : Int64) (m : eM) : oX := X d 29 0 [.ref a0, .int x1, .long y2, eU, eU] [] m
noncomputable def Pa_find_3 (d : Nat) (a0 : Nat) (x1 : Int32) (y2 : Int64) (x4 : Int32) (m : eM) : oX := X d 29 3 [.ref a0, .int x1, .long y2, eU, .int x4] [] m
noncomputable def Ta_numberUpTo (d : Nat) (a0 : Nat) (x1 : Int32) (m : eM) : oX := X d 30 0 [.ref a0, .int x1] [] m
noncomputable def Ta_number (d : Nat) (a0 : Nat) (m : eM) : oX := X d 31 0 [.ref a0] [] m
noncomputable def Ta_takeSign (d : Nat) (a0 : Nat) (x1 : Int32) (m : eM) : oX := X d 32 0 [.ref a0, .int x1] [] m
noncomputable def Ta_isSign (d : Nat) (a0 : Nat) (x1 : Int32) (m : eM) : oX := X d 33 0 [.ref a0, .int x1] [] m
noncomputable def Pa_addFact (d : Nat) (a0 : Nat) (y1 : Int64) (x3 : Int32) (m : eM) : oX := X d 34 0 [.ref a0, .long y1, eU, .int x3] [] m
noncomputable def Pa_readPlace (d : Nat) (a0 : Nat) (a1 : Nat) (m : eM) : oX := X d 35 0 [.ref a0, .ref a1, eU, eU, eU] [] m
noncomputable def Ta_takeWord (d : Nat) (a0 : Nat) (y1 : Int64) (m : eM) : oX := X d 36 0 [.ref a0, .long y1, eU] [] m
noncomputable def Pa_addPlace (d : Nat) (a0 : Nat) (y1 : Int64) (x3 : Int32) (m : eM) : oX := X d 37 0 [.ref a0, .long y1, eU, .int x3] [] m
noncomputable def Pa_readPerson (d : Nat) (a0 : Nat) (a1 : Nat) (m : eM) : oX := X d 38 0 [.ref a0, .ref a1, eU, eU, eU, eU, eU, eU] [] m
noncomputable def Pa_readPerson_75 (d : Nat) (a0 : Nat) (a1 : Nat) (y2 : Int64) (x4 : Int32) (x5 : Int32) (x6 : Int32) (w7 : Value) (m : eM) : oX := X d 38 75 [.ref a0, .ref a1, .long y2, eU, .int x4, .int x5, .int x6, w7] [] m
noncomputable def Pa_readTold (d : Nat) (a0 : Nat) (a1 : Nat) (x2 : Int32) (m : eM) : oX := X d 39 0 [.ref a0, .ref a1, .int x2, eU] [] m
noncomputable def Pa_readKnown (d : Nat) (a0 : Nat) (a1 : Nat) (x2 : Int32) (m : eM) : oX := X d 40 0 [.ref a0, .ref a1, .int x2, eU] [] m
noncomputable def Pa_readKnown_19 (d : Nat) (a0 : Nat) (a1 : Nat) (x2 : Int32) (p0 : Int32) (m : eM) : oX := X d 40 19 [.ref a0, .ref a1, .int x2, eU] [.int p0] m
noncomputable def Pa_factNamed (d : Nat) (a0 : Nat) (y1 : Int64) (m : eM) : oX := X d 41 0 [.ref a0, .long y1, eU] [] m
noncomputable def Pa_addPerson (d : Nat) (a0 : Nat) (y1 : Int64) (x3 : Int32) (x4 : Int32) (m : eM) : oX := X d 42 0 [.ref a0, .long y1, eU, .int x3, .int x4] [] m
noncomputable def Pa_readCommon (d : Nat) (a0 : Nat) (a1 : Nat) (a2 : Nat) (m : eM) : oX := X d 43 0 [.ref a0, .ref a1, .ref a2] [] m
noncomputable def Fo_read (d : Nat) (a0 : Nat) (a1 : Nat) (a2 : Nat) (m : eM) : oX := X d 44 0 [.ref a0, .ref a1, .ref a2] [] m
noncomputable def Fo_readTests (d : Nat) (a0 : Nat) (a1 : Nat) (a2 : Nat) (x3 : Int32) (m : eM) : oX := X d 45 0 [.ref a0, .ref a1, .ref a2, .int x3, eU, eU] [] m
noncomputable def Fo_readTests_15 (d : Nat) (a0 : Nat) (a1 : Nat) (a2 : Nat) (x3 : Int32) (x4 : Int32) (w5 : Value) (m : eM) : oX := X d 45 15 [.ref a0, .ref a1, .ref a2, .int x3, .int x4, w5] [] m
noncomputable def Fo_readTests_60 (d : Nat) (a0 : Nat) (a1 : Nat) (a2 : Nat) (x3 : Int32) (x4 : Int32) (w5 : Value) (p0 : Int32) (m : eM) : oX := X d 45 60 [.ref a0, .ref a1, .ref a2, .int x3, .int x4, w5] [.int p0] m
noncomputable def Fo_readTest (d : Nat) (a0 : Nat) (a1 : Nat) (a2 : Nat) (x3 : Int32) (m : eM) : oX := X d 46 0 [.ref a0, .ref a1, .ref a2, .int x3, eU] [] m
noncomputable def Fo_readTest_48 (d : Nat) (a0 : Nat) (a1 : Nat) (a2 : Nat) (x3 : Int32) (p0 : Int32) (m : eM) : oX := X d 46 48 [.ref a0, .ref a1, .ref a2, .int x3, eU] [.int p0] m
noncomputable def Fo_readSum (d : Nat) (a0 : Nat) (a1 : Nat) (a2 : Nat) (x3 : Int32) (m : eM) : oX := X d 47 0 [.ref a0, .ref a1, .ref a2, .int x3, eU, eU] [] m
noncomputable def Fo_readSum_15 (d : Nat) (a0 : Nat) (a1 : Nat) (a2 : Nat) (x3 : Int32) (x4 : Int32) (w5 : Value) (m : eM) : oX := X d 47 15 [.ref a0, .ref a1, .ref a2, .int x3, .int x4, w5] [] m
noncomputable def Fo_readSum_57 (d : Nat) (a0 : Nat) (a1 : Nat) (a2 : Nat) (x3 : Int32) (x4 : Int32) (w5 : Value) (p0 : Int32) (m : eM) : oX := X d 47 57 [.ref a0, .ref a1, .ref a2, .int x3, .int x4, w5] [.int p0] m
noncomputable def Fo_readProduct (d : Nat) (a0 : Nat) (a1 : Nat) (a2 : Nat) (x3 : Int32) (m : eM) : oX := X d 48 0 [.ref a0, .ref a1, .ref a2, .int x3, eU] [] m
noncomputable def Fo_readProduct_15 (d : Nat) (a0 : Nat) (a1 : Nat) (a2 : Nat) (x3 : Int32) (x4 : Int32) (m : eM) : oX := X d 48 15 [.ref a0, .ref a1, .ref a2, .int x3, .int x4] [] m
noncomputable def Fo_readPart (d : Nat) (a0 : Nat) (a1 : Nat) (a2 : Nat) (x3 : Int32) (m : eM) : oX := X d 49 0 [.ref a0, .ref a1, .ref a2, .int x3, eU, eU, eU, eU] [] m
noncomputable def Fo_readPart_52 (d : Nat) (a0 : Nat) (a1 : Nat) (a2 : Nat) (x3 : Int32) (x4 : Int32) (x5 : Int32) (x6 : Int32) (m : eM) : oX := X d 49 52 [.ref a0, .ref a1, .ref a2, .int x3, .int x4, .int x5, .int x6, eU] [] m
noncomputable def Fo_readPart_88 (d : Nat) (a0 : Nat) (a1 : Nat) (a2 : Nat) (x3 : Int32) (x4 : Int32) (x5 : Int32) (x6 : Int32) (x7 : Int32) (m : eM) : oX := X d 49 88 [.ref a0, .ref a1, .ref a2, .int x3, .int x4, .int x5, .int x6, .int x7] [] m
noncomputable def Fo_readPart_135 (d : Nat) (a0 : Nat) (a1 : Nat) (a2 : Nat) (x3 : Int32) (x4 : Int32) (x5 : Int32) (x6 : Int32) (x7 : Int32) (m : eM) : oX := X d 49 135 [.ref a0, .ref a1, .ref a2, .int x3, .int x4, .int x5, .int x6, .int x7] [] m
noncomputable def Fo_write (d : Nat) (a0 : Nat) (x1 : Int32) (m : eM) : oX := X d 50 0 [.ref a0, .int x1] [] m
noncomputable def Fo_readClosed (d : Nat) (a0 : Nat) (a1 : Nat) (a2 : Nat) (x3 : Int32) (m : eM) : oX := X d 51 0 [.ref a0, .ref a1, .ref a2, .int x3] [] m
noncomputable def Fo_readNot (d : Nat) (a0 : Nat) (a1 : Nat) (a2 : Nat) (x3 : Int32) (m : eM) : oX := X d 52 0 [.ref a0, .ref a1, .ref a2, .int x3, eU] [] m
noncomputable def Fo_worldsSo (d : Nat) (a0 : Nat) (x1 : Int32) (m : eM) : oX := X d 53 0 [.ref a0, .int x1, eU, eU, eU] [] m
noncomputable def Fo_worldsSo_5 (d : Nat) (a0 : Nat) (x1 : Int32) (y2 : Int64) (x4 : Int32) (m : eM) : oX := X d 53 5 [.ref a0, .int x1, .long y2, eU, .int x4] [] m
noncomputable def Fo_value (d : Nat) (a0 : Nat) (x1 : Int32) (m : eM) : oX := X d 54 0 [.ref a0, .int x1, eU, eU, eU] [] m
noncomputable def Fo_value_7 (d : Nat) (a0 : Nat) (x1 : Int32) (x2 : Int32) (w3 : Value) (w4 : Value) (m : eM) : oX := X d 54 7 [.ref a0, .int x1, .int x2, w3, w4] [] m
noncomputable def Fo_push (d : Nat) (a0 : Nat) (x1 : Int32) (m : eM) : oX := X d 55 0 [.ref a0, .int x1] [] m
noncomputable def Fo_pop (d : Nat) (a0 : Nat) (m : eM) : oX := X d 56 0 [.ref a0] [] m
noncomputable def Fo_joined (d : Nat) (x0 : Int32) (x1 : Int32) (x2 : Int32) (m : eM) : oX := X d 57 0 [.int x0, .int x1, .int x2] [] m
noncomputable def Pa_readCock (d : Nat) (a0 : Nat) (a1 : Nat) (m : eM) : oX := X d 58 0 [.ref a0, .ref a1, eU, eU, eU] [] m
noncomputable def Pa_readCock_38 (d : Nat) (a0 : Nat) (a1 : Nat) (x2 : Int32) (m : eM) : oX := X d 58 38 [.ref a0, .ref a1, .int x2, eU, eU] [] m
noncomputable def Pa_isCock (d : Nat) (a0 : Nat) (x1 : Int32) (m : eM) : oX := X d 59 0 [.ref a0, .int x1] [] m
noncomputable def Pa_addCock (d : Nat) (a0 : Nat) (x1 : Int32) (x2 : Int32) (x3 : Int32) (m : eM) : oX := X d 60 0 [.ref a0, .int x1, .int x2, .int x3] [] m
noncomputable def Ta_clear (d : Nat) (a0 : Nat) (m : eM) : oX := X d 61 0 [.ref a0] [] m
noncomputable def St_begin (d : Nat) (a0 : Nat) (a1 : Nat) (m : eM) : oX := X d 62 0 [.ref a0, .ref a1] [] m
noncomputable def Tk_clear (d : Nat) (a0 : Nat) (m : eM) : oX := X d 63 0 [.ref a0] [] m
noncomputable def Lo_clear (d : Nat) (a0 : Nat) (m : eM) : oX := X d 64 0 [.ref a0] [] m
noncomputable def Ta_fault (d : Nat) (a0 : Nat) (m : eM) : oX := X d 65 0 [.ref a0] [] m
noncomputable def LC_say (d : Nat) (a0 : Nat) (x1 : Int32) (x2 : Int32) (m : eM) : oX := X d 66 0 [.ref a0, .int x1, .int x2, eU] [] m
noncomputable def LC_isSpeaker (d : Nat) (a0 : Nat) (x1 : Int32) (x2 : Int32) (m : eM) : oX := X d 67 0 [.ref a0, .int x1, .int x2] [] m
noncomputable def Pa_isPerson (d : Nat) (a0 : Nat) (x1 : Int32) (m : eM) : oX := X d 68 0 [.ref a0, .int x1] [] m
noncomputable def LC_isMinute (d : Nat) (x0 : Int32) (m : eM) : oX := X d 69 0 [.int x0] [] m
noncomputable def Tk_size (d : Nat) (a0 : Nat) (m : eM) : oX := X d 70 0 [.ref a0] [] m
noncomputable def Tk_lastMinute (d : Nat) (a0 : Nat) (m : eM) : oX := X d 71 0 [.ref a0] [] m
noncomputable def Tk_minute (d : Nat) (a0 : Nat) (x1 : Int32) (m : eM) : oX := X d 72 0 [.ref a0, .int x1] [] m
noncomputable def Tk_isIn (d : Nat) (a0 : Nat) (x1 : Int32) (m : eM) : oX := X d 73 0 [.ref a0, .int x1] [] m
noncomputable def LC_hear (d : Nat) (a0 : Nat) (a1 : Nat) (x2 : Int32) (x3 : Int32) (m : eM) : oX := X d 74 0 [.ref a0, .ref a1, .int x2, .int x3] [] m
noncomputable def Tk_add (d : Nat) (a0 : Nat) (x1 : Int32) (x2 : Int32) (y3 : Int64) (y5 : Int64) (y7 : Int64) (m : eM) : oX := X d 75 0 [.ref a0, .int x1, .int x2, .long y3, eU, .long y5, eU, .long y7, eU] [] m
noncomputable def Tk_set (d : Nat) (a0 : Nat) (x1 : Int32) (x2 : Int32) (x3 : Int32) (y4 : Int64) (y6 : Int64) (y8 : Int64) (m : eM) : oX := X d 76 0 [.ref a0, .int x1, .int x2, .int x3, .long y4, eU, .long y6, eU, .long y8, eU] [] m
noncomputable def Ta_ends (d : Nat) (a0 : Nat) (m : eM) : oX := X d 77 0 [.ref a0] [] m
noncomputable def Pa_facts (d : Nat) (a0 : Nat) (m : eM) : oX := X d 78 0 [.ref a0] [] m
noncomputable def LC_tell (d : Nat) (a0 : Nat) (a1 : Nat) (x2 : Int32) (x3 : Int32) (y4 : Int64) (m : eM) : oX := X d 79 0 [.ref a0, .ref a1, .int x2, .int x3, .long y4, eU, eU] [] m
noncomputable def Pa_lies (d : Nat) (a0 : Nat) (y1 : Int64) (x3 : Int32) (x4 : Int32) (m : eM) : oX := X d 80 0 [.ref a0, .long y1, eU, .int x3, .int x4, eU, eU, eU] [] m
noncomputable def Pa_lies_26 (d : Nat) (a0 : Nat) (y1 : Int64) (x3 : Int32) (x4 : Int32) (y5 : Int64) (x7 : Int32) (m : eM) : oX := X d 80 26 [.ref a0, .long y1, eU, .int x3, .int x4, .long y5, eU, .int x7] [] m
noncomputable def Pa_allWorlds (d : Nat) (a0 : Nat) (m : eM) : oX := X d 81 0 [.ref a0] [] m
noncomputable def Pa_known (d : Nat) (a0 : Nat) (x1 : Int32) (m : eM) : oX := X d 82 0 [.ref a0, .int x1] [] m
noncomputable def Pa_eitherWay (d : Nat) (y0 : Int64) (x2 : Int32) (m : eM) : oX := X d 83 0 [.long y0, eU, .int x2, eU] [] m
noncomputable def LC_factSo (d : Nat) (x0 : Int32) (m : eM) : oX := X d 84 0 [.int x0] [] m
noncomputable def LC_offer (d : Nat) (a0 : Nat) (x1 : Int32) (x2 : Int32) (m : eM) : oX := X d 85 0 [.ref a0, .int x1, .int x2, eU] [] m
noncomputable def LC_truth (d : Nat) (a0 : Nat) (x1 : Int32) (m : eM) : oX := X d 86 0 [.ref a0, .int x1] [] m
noncomputable def Pa_isWorld (d : Nat) (a0 : Nat) (x1 : Int32) (m : eM) : oX := X d 87 0 [.ref a0, .int x1] [] m
noncomputable def LC_look (d : Nat) (a0 : Nat) (x1 : Int32) (x2 : Int32) (x3 : Int32) (x4 : Int32) (m : eM) : oX := X d 88 0 [.ref a0, .int x1, .int x2, .int x3, .int x4] [] m
noncomputable def Pa_isThere (d : Nat) (a0 : Nat) (x1 : Int32) (m : eM) : oX := X d 89 0 [.ref a0, .int x1] [] m
noncomputable def LC_isBearing (d : Nat) (x0 : Int32) (m : eM) : oX := X d 90 0 [.int x0] [] m
noncomputable def Lo_size (d : Nat) (a0 : Nat) (m : eM) : oX := X d 91 0 [.ref a0] [] m
noncomputable def Lo_add (d : Nat) (a0 : Nat) (x1 : Int32) (x2 : Int32) (x3 : Int32) (x4 : Int32) (m : eM) : oX := X d 92 0 [.ref a0, .int x1, .int x2, .int x3, .int x4, eU] [] m
noncomputable def LC_watch (d : Nat) (a0 : Nat) (x1 : Int32) (x2 : Int32) (m : eM) : oX := X d 93 0 [.ref a0, .int x1, .int x2] [] m
noncomputable def LC_world (d : Nat) (a0 : Nat) (x1 : Int32) (m : eM) : oX := X d 94 0 [.ref a0, .int x1] [] m
noncomputable def Pa_commonWorlds (d : Nat) (a0 : Nat) (m : eM) : oX := X d 95 0 [.ref a0] [] m
noncomputable def LC_holds (d : Nat) (y0 : Int64) (x2 : Int32) (m : eM) : oX := X d 96 0 [.long y0, eU, .int x2] [] m
noncomputable def LC_possible (d : Nat) (a0 : Nat) (m : eM) : oX := X d 97 0 [.ref a0, eU, eU, eU] [] m
noncomputable def LC_possible_13 (d : Nat) (a0 : Nat) (y1 : Int64) (x3 : Int32) (m : eM) : oX := X d 97 13 [.ref a0, .long y1, eU, .int x3] [] m
noncomputable def LC_fitting (d : Nat) (a0 : Nat) (x1 : Int32) (m : eM) : oX := X d 98 0 [.ref a0, .int x1, eU] [] m
noncomputable def Lo_cock (d : Nat) (a0 : Nat) (x1 : Int32) (m : eM) : oX := X d 99 0 [.ref a0, .int x1] [] m
noncomputable def Lo_isIn (d : Nat) (a0 : Nat) (a1 : Nat) (x2 : Int32) (m : eM) : oX := X d 100 0 [.ref a0, .ref a1, .int x2] [] m
noncomputable def Lo_minute (d : Nat) (a0 : Nat) (x1 : Int32) (m : eM) : oX := X d 101 0 [.ref a0, .int x1] [] m
noncomputable def Ai_take (d : Nat) (a0 : Nat) (a1 : Nat) (a2 : Nat) (x3 : Int32) (x4 : Int32) (y5 : Int64) (m : eM) : oX := X d 102 0 [.ref a0, .ref a1, .ref a2, .int x3, .int x4, .long y5, eU, eU, eU, eU, eU, eU, eU] [] m
noncomputable def Ai_take_3 (d : Nat) (a0 : Nat) (a1 : Nat) (a2 : Nat) (x3 : Int32) (x4 : Int32) (y5 : Int64) (x7 : Int32) (m : eM) : oX := X d 102 3 [.ref a0, .ref a1, .ref a2, .int x3, .int x4, .long y5, eU, .int x7, eU, eU, eU, eU, eU] [] m
noncomputable def Ai_take_39 (d : Nat) (a0 : Nat) (a1 : Nat) (a2 : Nat) (x3 : Int32) (x4 : Int32) (y5 : Int64) (y7 : Int64) (x9 : Int32) (w10 : Value) (w11 : Value) (m : eM) : oX := X d 102 39 [.ref a0, .ref a1, .ref a2, .int x3, .int x4, .long y5, eU, .long y7, eU, .int x9, w10, w11, eU] [] m
noncomputable def Ai_take_98 (d : Nat) (a0 : Nat) (a1 : Nat) (a2 : Nat) (x3 : Int32) (x4 : Int32) (y5 : Int64) (y7 : Int64) (x9 : Int32) (x10 : Int32) (w11 : Value) (q0 : Int64) (m : eM) : oX := X d 102 98 [.ref a0, .ref a1, .ref a2, .int x3, .int x4, .long y5, eU, .long y7, eU, .int x9, .int x10, w11, eU] [.long q0] m
noncomputable def Pa_late (d : Nat) (a0 : Nat) (x1 : Int32) (m : eM) : oX := X d 103 0 [.ref a0, .int x1] [] m
noncomputable def Pa_law (d : Nat) (a0 : Nat) (x1 : Int32) (m : eM) : oX := X d 104 0 [.ref a0, .int x1] [] m
noncomputable def Tk_lies (d : Nat) (a0 : Nat) (x1 : Int32) (x2 : Int32) (m : eM) : oX := X d 105 0 [.ref a0, .int x1, .int x2] [] m
noncomputable def Tk_speaker (d : Nat) (a0 : Nat) (x1 : Int32) (m : eM) : oX := X d 106 0 [.ref a0, .int x1] [] m
noncomputable def Ai_add (d : Nat) (a0 : Nat) (x1 : Int32) (y2 : Int64) (m : eM) : oX := X d 107 0 [.ref a0, .int x1, .long y2, eU] [] m
noncomputable def Ai_gather (d : Nat) (a0 : Nat) (a1 : Nat) (m : eM) : oX := X d 108 0 [.ref a0, .ref a1, eU, eU] [] m
noncomputable def Ai_gather_2 (d : Nat) (a0 : Nat) (a1 : Nat) (x2 : Int32) (m : eM) : oX := X d 108 2 [.ref a0, .ref a1, .int x2, eU] [] m
noncomputable def Ai_gather_26 (d : Nat) (a0 : Nat) (a1 : Nat) (x2 : Int32) (w3 : Value) (m : eM) : oX := X d 108 26 [.ref a0, .ref a1, .int x2, w3] [] m
noncomputable def Ai_gather_37 (d : Nat) (a0 : Nat) (a1 : Nat) (x2 : Int32) (x3 : Int32) (m : eM) : oX := X d 108 37 [.ref a0, .ref a1, .int x2, .int x3] [] m
noncomputable def Pa_bearing (d : Nat) (a0 : Nat) (x1 : Int32) (m : eM) : oX := X d 109 0 [.ref a0, .int x1] [] m
noncomputable def Lo_from (d : Nat) (a0 : Nat) (x1 : Int32) (m : eM) : oX := X d 110 0 [.ref a0, .int x1] [] m
noncomputable def Lo_to (d : Nat) (a0 : Nat) (x1 : Int32) (m : eM) : oX := X d 111 0 [.ref a0, .int x1] [] m
noncomputable def Ai_within (d : Nat) (a0 : Nat) (a1 : Nat) (x2 : Int32) (x3 : Int32) (m : eM) : oX := X d 112 0 [.ref a0, .ref a1, .int x2, .int x3, eU, eU, eU] [] m
noncomputable def Ai_within_6 (d : Nat) (a0 : Nat) (a1 : Nat) (x2 : Int32) (x3 : Int32) (y4 : Int64) (x6 : Int32) (m : eM) : oX := X d 112 6 [.ref a0, .ref a1, .int x2, .int x3, .long y4, eU, .int x6] [] m
noncomputable def LC_isWithin (d : Nat) (x0 : Int32) (x1 : Int32) (x2 : Int32) (m : eM) : oX := X d 113 0 [.int x0, .int x1, .int x2] [] m
noncomputable def LC_lie (d : Nat) (a0 : Nat) (x1 : Int32) (x2 : Int32) (m : eM) : oX := X d 114 0 [.ref a0, .int x1, .int x2, eU] [] m
noncomputable def LC_lie_79 (d : Nat) (a0 : Nat) (x1 : Int32) (x2 : Int32) (x3 : Int32) (p0 : Int32) (p1 : Int32) (m : eM) : oX := X d 114 79 [.ref a0, .int x1, .int x2, .int x3] [.int p1, .int p0] m
noncomputable def Tk_so (d : Nat) (a0 : Nat) (x1 : Int32) (m : eM) : oX := X d 115 0 [.ref a0, .int x1] [] m
noncomputable def LC_points (d : Nat) (a0 : Nat) (x1 : Int32) (x2 : Int32) (x3 : Int32) (m : eM) : oX := X d 116 0 [.ref a0, .int x1, .int x2, .int x3] [] m
noncomputable def Tk_lastLiar (d : Nat) (a0 : Nat) (a1 : Nat) (x2 : Int32) (x3 : Int32) (x4 : Int32) (m : eM) : oX := X d 117 0 [.ref a0, .ref a1, .int x2, .int x3, .int x4, eU] [] m
noncomputable def Tk_lastLiar_8 (d : Nat) (a0 : Nat) (a1 : Nat) (x2 : Int32) (x3 : Int32) (x4 : Int32) (x5 : Int32) (m : eM) : oX := X d 117 8 [.ref a0, .ref a1, .int x2, .int x3, .int x4, .int x5] [] m
noncomputable def LC_worlds (d : Nat) (a0 : Nat) (x1 : Int32) (m : eM) : oX := X d 118 0 [.ref a0, .int x1] [] m
noncomputable def Lg_bitCount (d : Nat) (y0 : Int64) (m : eM) : oX := X d 119 0 [.long y0, eU] [] m
noncomputable def Pa_isFact (d : Nat) (a0 : Nat) (x1 : Int32) (m : eM) : oX := X d 120 0 [.ref a0, .int x1] [] m
noncomputable def LC_sureFact (d : Nat) (a0 : Nat) (x1 : Int32) (m : eM) : oX := X d 121 0 [.ref a0, .int x1] [] m
noncomputable def LC_sureness (d : Nat) (y0 : Int64) (y2 : Int64) (m : eM) : oX := X d 122 0 [.long y0, eU, .long y2, eU] [] m
noncomputable def LC_sure (d : Nat) (a0 : Nat) (x1 : Int32) (m : eM) : oX := X d 123 0 [.ref a0, .int x1] [] m
noncomputable def LC_odds (d : Nat) (a0 : Nat) (x1 : Int32) (x2 : Int32) (m : eM) : oX := X d 124 0 [.ref a0, .int x1, .int x2, eU, eU, eU, eU, eU, eU, eU, eU] [] m
noncomputable def LC_isWhat (d : Nat) (x0 : Int32) (m : eM) : oX := X d 125 0 [.int x0] [] m
noncomputable def Pa_weight (d : Nat) (a0 : Nat) (y1 : Int64) (m : eM) : oX := X d 126 0 [.ref a0, .long y1, eU, eU, eU, eU] [] m
noncomputable def Pa_weight_5 (d : Nat) (a0 : Nat) (y1 : Int64) (y3 : Int64) (x5 : Int32) (m : eM) : oX := X d 126 5 [.ref a0, .long y1, eU, .long y3, eU, .int x5] [] m
noncomputable def Pa_weightOf (d : Nat) (a0 : Nat) (x1 : Int32) (m : eM) : oX := X d 127 0 [.ref a0, .int x1, eU, eU, eU] [] m
noncomputable def Pa_weightOf_5 (d : Nat) (a0 : Nat) (x1 : Int32) (y2 : Int64) (x4 : Int32) (m : eM) : oX := X d 127 5 [.ref a0, .int x1, .long y2, eU, .int x4] [] m
noncomputable def LC_greatestDivisor (d : Nat) (y0 : Int64) (y2 : Int64) (m : eM) : oX := X d 128 0 [.long y0, eU, .long y2, eU, eU, eU, eU, eU, eU, eU, eU] [] m
noncomputable def LC_greatestDivisor_9 (d : Nat) (y0 : Int64) (y2 : Int64) (y4 : Int64) (y6 : Int64) (x8 : Int32) (w9 : Value) (m : eM) : oX := X d 128 9 [.long y0, eU, .long y2, eU, .long y4, eU, .long y6, eU, .int x8, w9, eU] [] m
noncomputable def LC_proof (d : Nat) (a0 : Nat) (x1 : Int32) (x2 : Int32) (m : eM) : oX := X d 129 0 [.ref a0, .int x1, .int x2, eU, eU, eU] [] m
noncomputable def LC_fewestLooksWithout (d : Nat) (a0 : Nat) (y1 : Int64) (m : eM) : oX := X d 130 0 [.ref a0, .long y1, eU, eU, eU, eU] [] m
noncomputable def LC_fewestLooksWithout_22 (d : Nat) (a0 : Nat) (y1 : Int64) (x3 : Int32) (x4 : Int32) (m : eM) : oX := X d 130 22 [.ref a0, .long y1, eU, .int x3, .int x4, eU] [] m
noncomputable def LC_fewestLooksWithout_53 (d : Nat) (a0 : Nat) (y1 : Int64) (x3 : Int32) (x4 : Int32) (x5 : Int32) (m : eM) : oX := X d 130 53 [.ref a0, .long y1, eU, .int x3, .int x4, .int x5] [] m
noncomputable def LC_fittingSet (d : Nat) (a0 : Nat) (x1 : Int32) (m : eM) : oX := X d 131 0 [.ref a0, .int x1, eU, eU] [] m
noncomputable def In_numberOfTrailingZeros (d : Nat) (x0 : Int32) (m : eM) : oX := X d 132 0 [.int x0, eU] [] m
noncomputable def In_numberOfTrailingZeros_34 (d : Nat) (x0 : Int32) (x1 : Int32) (m : eM) : oX := X d 132 34 [.int x0, .int x1] [] m
noncomputable def In_numberOfTrailingZeros_62 (d : Nat) (x0 : Int32) (x1 : Int32) (m : eM) : oX := X d 132 62 [.int x0, .int x1] [] m
noncomputable def LC_isFewer (d : Nat) (x0 : Int32) (x1 : Int32) (m : eM) : oX := X d 133 0 [.int x0, .int x1] [] m
noncomputable def In_bitCount (d : Nat) (x0 : Int32) (m : eM) : oX := X d 134 0 [.int x0] [] m
noncomputable def LC_sizeOrSet (d : Nat) (x0 : Int32) (x1 : Int32) (m : eM) : oX := X d 135 0 [.int x0, .int x1] [] m
noncomputable def LC_clash (d : Nat) (a0 : Nat) (x1 : Int32) (m : eM) : oX := X d 136 0 [.ref a0, .int x1] [] m
noncomputable def LC_next (d : Nat) (a0 : Nat) (x1 : Int32) (x2 : Int32) (x3 : Int32) (x4 : Int32) (m : eM) : oX := X d 137 0 [.ref a0, .int x1, .int x2, .int x3, .int x4] [] m
noncomputable def LC_bestMinute (d : Nat) (a0 : Nat) (x1 : Int32) (x2 : Int32) (x3 : Int32) (x4 : Int32) (x5 : Int32) (m : eM) : oX := X d 138 0 [.ref a0, .int x1, .int x2, .int x3, .int x4, .int x5, eU, eU, eU, eU, eU, eU, eU] [] m
noncomputable def LC_bestMinute_65 (d : Nat) (a0 : Nat) (x1 : Int32) (x2 : Int32) (x3 : Int32) (x4 : Int32) (x5 : Int32) (y6 : Int64) (x8 : Int32) (x9 : Int32) (x10 : Int32) (w11 : Value) (w12 : Value) (m : eM) : oX := X d 138 65 [.ref a0, .int x1, .int x2, .int x3, .int x4, .int x5, .long y6, eU, .int x8, .int x9, .int x10, w11, w12] [] m
noncomputable def LC_isSpan (d : Nat) (x0 : Int32) (x1 : Int32) (m : eM) : oX := X d 139 0 [.int x0, .int x1] [] m
noncomputable def LC_worth (d : Nat) (a0 : Nat) (x1 : Int32) (x2 : Int32) (y3 : Int64) (x5 : Int32) (m : eM) : oX := X d 140 0 [.ref a0, .int x1, .int x2, .long y3, eU, .int x5] [] m
noncomputable def Ai_bearings (d : Nat) (a0 : Nat) (m : eM) : oX := X d 141 0 [.ref a0, eU, eU, eU, eU, eU, eU] [] m
noncomputable def Ai_bearings_13 (d : Nat) (a0 : Nat) (x1 : Int32) (a2 : Nat) (x3 : Int32) (x4 : Int32) (w5 : Value) (m : eM) : oX := X d 141 13 [.ref a0, .int x1, .ref a2, .int x3, .int x4, w5, eU] [] m
noncomputable def Ai_largest (d : Nat) (a0 : Nat) (m : eM) : oX := X d 142 0 [.ref a0, eU, eU, eU, eU, eU, eU] [] m
noncomputable def Ai_largest_13 (d : Nat) (a0 : Nat) (x1 : Int32) (a2 : Nat) (x3 : Int32) (x4 : Int32) (w5 : Value) (m : eM) : oX := X d 142 13 [.ref a0, .int x1, .ref a2, .int x3, .int x4, w5, eU] [] m
noncomputable def LC_fog (d : Nat) (a0 : Nat) (x1 : Int32) (x2 : Int32) (x3 : Int32) (x4 : Int32) (m : eM) : oX := X d 143 0 [.ref a0, .int x1, .int x2, .int x3, .int x4] [] m
noncomputable def LC_learns (d : Nat) (a0 : Nat) (x1 : Int32) (x2 : Int32) (x3 : Int32) (x4 : Int32) (x5 : Int32) (m : eM) : oX := X d 144 0 [.ref a0, .int x1, .int x2, .int x3, .int x4, .int x5, eU, eU, eU] [] m
noncomputable def Pa_alike (d : Nat) (a0 : Nat) (x1 : Int32) (x2 : Int32) (m : eM) : oX := X d 145 0 [.ref a0, .int x1, .int x2, eU, eU, eU] [] m
noncomputable def Pa_alike_8 (d : Nat) (a0 : Nat) (x1 : Int32) (x2 : Int32) (y3 : Int64) (x5 : Int32) (m : eM) : oX := X d 145 8 [.ref a0, .int x1, .int x2, .long y3, eU, .int x5] [] m
noncomputable def Pa_factIs (d : Nat) (a0 : Nat) (x1 : Int32) (x2 : Int32) (m : eM) : oX := X d 146 0 [.ref a0, .int x1, .int x2] [] m
noncomputable def Tk_copy (d : Nat) (a0 : Nat) (a1 : Nat) (m : eM) : oX := X d 147 0 [.ref a0, .ref a1, eU] [] m
noncomputable def Tk_copy_15 (d : Nat) (a0 : Nat) (a1 : Nat) (x2 : Int32) (m : eM) : oX := X d 147 15 [.ref a0, .ref a1, .int x2] [] m
noncomputable def Tk_setFrom (d : Nat) (a0 : Nat) (x1 : Int32) (a2 : Nat) (x3 : Int32) (m : eM) : oX := X d 148 0 [.ref a0, .int x1, .ref a2, .int x3] [] m
noncomputable def Ai_tells (d : Nat) (a0 : Nat) (y1 : Int64) (m : eM) : oX := X d 149 0 [.ref a0, .long y1, eU, eU, eU, eU, eU, eU] [] m
noncomputable def Ai_tells_12 (d : Nat) (a0 : Nat) (y1 : Int64) (a3 : Nat) (x4 : Int32) (x5 : Int32) (w6 : Value) (m : eM) : oX := X d 149 12 [.ref a0, .long y1, eU, .ref a3, .int x4, .int x5, w6, eU] [] m
noncomputable def LC_lookout (d : Nat) (a0 : Nat) (x1 : Int32) (x2 : Int32) (x3 : Int32) (m : eM) : oX := X d 150 0 [.ref a0, .int x1, .int x2, .int x3, eU, eU, eU] [] m
noncomputable def Se_ask (d : Nat) (a0 : Nat) (a1 : Nat) (a2 : Nat) (x3 : Int32) (y4 : Int64) (m : eM) : oX := X d 151 0 [.ref a0, .ref a1, .ref a2, .int x3, .long y4, eU, eU, eU] [] m
noncomputable def Se_ask_14 (d : Nat) (a0 : Nat) (a1 : Nat) (a2 : Nat) (x3 : Int32) (y4 : Int64) (x6 : Int32) (m : eM) : oX := X d 151 14 [.ref a0, .ref a1, .ref a2, .int x3, .long y4, eU, .int x6, eU] [] m
noncomputable def Se_ask_53 (d : Nat) (a0 : Nat) (a1 : Nat) (a2 : Nat) (x3 : Int32) (y4 : Int64) (x6 : Int32) (w7 : Value) (m : eM) : oX := X d 151 53 [.ref a0, .ref a1, .ref a2, .int x3, .long y4, eU, .int x6, w7] [] m
noncomputable def Se_note (d : Nat) (a0 : Nat) (a1 : Nat) (x2 : Int32) (m : eM) : oX := X d 152 0 [.ref a0, .ref a1, .int x2, eU, eU] [] m
noncomputable def Se_note_5 (d : Nat) (a0 : Nat) (a1 : Nat) (x2 : Int32) (x3 : Int32) (x4 : Int32) (m : eM) : oX := X d 152 5 [.ref a0, .ref a1, .int x2, .int x3, .int x4] [] m
noncomputable def Se_note_96 (d : Nat) (a0 : Nat) (a1 : Nat) (x2 : Int32) (x3 : Int32) (x4 : Int32) (m : eM) : oX := X d 152 96 [.ref a0, .ref a1, .int x2, .int x3, .int x4] [] m
noncomputable def Ai_at (d : Nat) (a0 : Nat) (x1 : Int32) (m : eM) : oX := X d 153 0 [.ref a0, .int x1] [] m
noncomputable def Ai_group (d : Nat) (a0 : Nat) (x1 : Int32) (m : eM) : oX := X d 154 0 [.ref a0, .int x1] [] m
noncomputable def Se_fewestMinutes (d : Nat) (a0 : Nat) (y1 : Int64) (m : eM) : oX := X d 155 0 [.ref a0, .long y1, eU, eU] [] m
noncomputable def Se_fewestMinutes_7 (d : Nat) (a0 : Nat) (y1 : Int64) (x3 : Int32) (m : eM) : oX := X d 155 7 [.ref a0, .long y1, eU, .int x3] [] m
noncomputable def Se_pick (d : Nat) (a0 : Nat) (x1 : Int32) (x2 : Int32) (x3 : Int32) (m : eM) : oX := X d 156 0 [.ref a0, .int x1, .int x2, .int x3, eU] [] m
noncomputable def Se_pick_28 (d : Nat) (a0 : Nat) (x1 : Int32) (x2 : Int32) (x3 : Int32) (x4 : Int32) (m : eM) : oX := X d 156 28 [.ref a0, .int x1, .int x2, .int x3, .int x4] [] m
noncomputable def Se_tell (d : Nat) (a0 : Nat) (x1 : Int32) (x2 : Int32) (y3 : Int64) (m : eM) : oX := X d 157 0 [.ref a0, .int x1, .int x2, .long y3, eU, eU] [] m
noncomputable def Se_tell_33 (d : Nat) (a0 : Nat) (x1 : Int32) (x2 : Int32) (y3 : Int64) (x5 : Int32) (m : eM) : oX := X d 157 33 [.ref a0, .int x1, .int x2, .long y3, eU, .int x5] [] m
noncomputable def Se_groupAt (d : Nat) (a0 : Nat) (x1 : Int32) (m : eM) : oX := X d 158 0 [.ref a0, .int x1] [] m
noncomputable def Se_minute (d : Nat) (a0 : Nat) (x1 : Int32) (m : eM) : oX := X d 159 0 [.ref a0, .int x1, eU] [] m
noncomputable def Se_minute_23 (d : Nat) (a0 : Nat) (x1 : Int32) (p0 : Int32) (m : eM) : oX := X d 159 23 [.ref a0, .int x1, eU] [.int p0] m
noncomputable def LC_judged (d : Nat) (a0 : Nat) (m : eM) : oX := X d 160 0 [.ref a0, eU] [] m
noncomputable def LC_judged_2 (d : Nat) (a0 : Nat) (x1 : Int32) (m : eM) : oX := X d 160 2 [.ref a0, .int x1] [] m
noncomputable def LC_turned (d : Nat) (a0 : Nat) (x1 : Int32) (x2 : Int32) (m : eM) : oX := X d 161 0 [.ref a0, .int x1, .int x2] [] m
noncomputable def Co_follow (d : Nat) (a0 : Nat) (a1 : Nat) (x2 : Int32) (m : eM) : oX := X d 162 0 [.ref a0, .ref a1, .int x2, eU, eU, eU] [] m
noncomputable def Co_follow_13 (d : Nat) (a0 : Nat) (a1 : Nat) (x2 : Int32) (x3 : Int32) (w4 : Value) (w5 : Value) (m : eM) : oX := X d 162 13 [.ref a0, .ref a1, .int x2, .int x3, w4, w5] [] m
noncomputable def Co_add (d : Nat) (a0 : Nat) (x1 : Int32) (x2 : Int32) (m : eM) : oX := X d 163 0 [.ref a0, .int x1, .int x2] [] m
noncomputable def Co_whom (d : Nat) (a0 : Nat) (x1 : Int32) (m : eM) : oX := X d 164 0 [.ref a0, .int x1] [] m
noncomputable def Co_turns (d : Nat) (a0 : Nat) (x1 : Int32) (m : eM) : oX := X d 165 0 [.ref a0, .int x1, eU, eU] [] m
noncomputable def Co_turns_4 (d : Nat) (a0 : Nat) (x1 : Int32) (x2 : Int32) (x3 : Int32) (m : eM) : oX := X d 165 4 [.ref a0, .int x1, .int x2, .int x3] [] m
noncomputable def Co_start (d : Nat) (a0 : Nat) (x1 : Int32) (m : eM) : oX := X d 166 0 [.ref a0, .int x1] [] m
noncomputable def LC_pointed (d : Nat) (a0 : Nat) (x1 : Int32) (x2 : Int32) (x3 : Int32) (x4 : Int32) (m : eM) : oX := X d 167 0 [.ref a0, .int x1, .int x2, .int x3, .int x4] [] m
noncomputable def LC_pointed_33 (d : Nat) (a0 : Nat) (x1 : Int32) (x2 : Int32) (x3 : Int32) (x4 : Int32) (m : eM) : oX := X d 167 33 [.ref a0, .int x1, .int x2, .int x3, .int x4] [] m
noncomputable def Co_minutesAt (d : Nat) (a0 : Nat) (x1 : Int32) (x2 : Int32) (x3 : Int32) (m : eM) : oX := X d 168 0 [.ref a0, .int x1, .int x2, .int x3, eU, eU] [] m
noncomputable def Co_minutesAt_6 (d : Nat) (a0 : Nat) (x1 : Int32) (x2 : Int32) (x3 : Int32) (x4 : Int32) (x5 : Int32) (m : eM) : oX := X d 168 6 [.ref a0, .int x1, .int x2, .int x3, .int x4, .int x5] [] m
noncomputable def Co_minutesOf (d : Nat) (a0 : Nat) (x1 : Int32) (x2 : Int32) (x3 : Int32) (m : eM) : oX := X d 169 0 [.ref a0, .int x1, .int x2, .int x3] [] m
noncomputable def LC_round (d : Nat) (a0 : Nat) (x1 : Int32) (x2 : Int32) (m : eM) : oX := X d 170 0 [.ref a0, .int x1, .int x2] [] m
noncomputable def Co_degrees (d : Nat) (a0 : Nat) (a1 : Nat) (x2 : Int32) (m : eM) : oX := X d 171 0 [.ref a0, .ref a1, .int x2, eU, eU, eU] [] m
noncomputable def Co_degrees_5 (d : Nat) (a0 : Nat) (a1 : Nat) (x2 : Int32) (x3 : Int32) (x4 : Int32) (w5 : Value) (m : eM) : oX := X d 171 5 [.ref a0, .ref a1, .int x2, .int x3, .int x4, w5] [] m
noncomputable def LC_shorterWay (d : Nat) (x0 : Int32) (x1 : Int32) (m : eM) : oX := X d 172 0 [.int x0, .int x1, eU] [] m
noncomputable def LC_longest (d : Nat) (a0 : Nat) (x1 : Int32) (x2 : Int32) (x3 : Int32) (x4 : Int32) (m : eM) : oX := X d 173 0 [.ref a0, .int x1, .int x2, .int x3, .int x4, eU] [] m
noncomputable def Co_longestPart (d : Nat) (a0 : Nat) (x1 : Int32) (x2 : Int32) (m : eM) : oX := X d 174 0 [.ref a0, .int x1, .int x2, eU, eU, eU, eU] [] m
noncomputable def Co_longestPart_8 (d : Nat) (a0 : Nat) (x1 : Int32) (x2 : Int32) (x3 : Int32) (x4 : Int32) (x5 : Int32) (w6 : Value) (m : eM) : oX := X d 174 8 [.ref a0, .int x1, .int x2, .int x3, .int x4, .int x5, w6] [] m
noncomputable def LC_differ (d : Nat) (a0 : Nat) (x1 : Int32) (x2 : Int32) (m : eM) : oX := X d 175 0 [.ref a0, .int x1, .int x2] [] m
noncomputable def Co_minutesUnlike (d : Nat) (a0 : Nat) (a1 : Nat) (x2 : Int32) (x3 : Int32) (m : eM) : oX := X d 176 0 [.ref a0, .ref a1, .int x2, .int x3, eU, eU, eU, eU, eU] [] m
noncomputable def Co_minutesUnlike_6 (d : Nat) (a0 : Nat) (a1 : Nat) (x2 : Int32) (x3 : Int32) (x4 : Int32) (x5 : Int32) (w6 : Value) (w7 : Value) (w8 : Value) (m : eM) : oX := X d 176 6 [.ref a0, .ref a1, .int x2, .int x3, .int x4, .int x5, w6, w7, w8] [] m
noncomputable def LC_move (d : Nat) (a0 : Nat) (x1 : Int32) (x2 : Int32) (m : eM) : oX := X d 177 0 [.ref a0, .int x1, .int x2, eU, eU, eU] [] m
noncomputable def LC_move_34 (d : Nat) (a0 : Nat) (x1 : Int32) (x2 : Int32) (a3 : Nat) (x4 : Int32) (w5 : Value) (m : eM) : oX := X d 177 34 [.ref a0, .int x1, .int x2, .ref a3, .int x4, w5] [] m
noncomputable def Pa_people (d : Nat) (a0 : Nat) (m : eM) : oX := X d 178 0 [.ref a0] [] m
noncomputable def LC_firstLie (d : Nat) (a0 : Nat) (x1 : Int32) (x2 : Int32) (m : eM) : oX := X d 179 0 [.ref a0, .int x1, .int x2, eU, eU, eU] [] m
noncomputable def LC_firstLie_2 (d : Nat) (a0 : Nat) (x1 : Int32) (x2 : Int32) (x3 : Int32) (w4 : Value) (m : eM) : oX := X d 179 2 [.ref a0, .int x1, .int x2, .int x3, w4, eU] [] m
noncomputable def LC_firstLie_39 (d : Nat) (a0 : Nat) (x1 : Int32) (x2 : Int32) (x3 : Int32) (w4 : Value) (b0 : Nat) (p1 : Int32) (p2 : Int32) (m : eM) : oX := X d 179 39 [.ref a0, .int x1, .int x2, .int x3, w4, eU] [.int p2, .int p1, .ref b0] m
noncomputable def LC_hidden (d : Nat) (a0 : Nat) (x1 : Int32) (x2 : Int32) (m : eM) : oX := X d 180 0 [.ref a0, .int x1, .int x2] [] m
noncomputable def LC_isPlainLie (d : Nat) (a0 : Nat) (x1 : Int32) (m : eM) : oX := X d 181 0 [.ref a0, .int x1] [] m
noncomputable def LC_isSet (d : Nat) (x0 : Int32) (x1 : Int32) (m : eM) : oX := X d 182 0 [.int x0, .int x1] [] m
noncomputable def LC_isHidden (d : Nat) (a0 : Nat) (x1 : Int32) (x2 : Int32) (m : eM) : oX := X d 183 0 [.ref a0, .int x1, .int x2, eU, eU, eU] [] m
noncomputable def LC_isHidden_16 (d : Nat) (a0 : Nat) (x1 : Int32) (x2 : Int32) (x3 : Int32) (m : eM) : oX := X d 183 16 [.ref a0, .int x1, .int x2, .int x3, eU, eU] [] m
noncomputable def LC_isHidden_74 (d : Nat) (a0 : Nat) (x1 : Int32) (x2 : Int32) (y3 : Int64) (x5 : Int32) (m : eM) : oX := X d 183 74 [.ref a0, .int x1, .int x2, .long y3, eU, .int x5] [] m
noncomputable def Tk_insert (d : Nat) (a0 : Nat) (a1 : Nat) (x2 : Int32) (m : eM) : oX := X d 184 0 [.ref a0, .ref a1, .int x2, eU] [] m
noncomputable def Tk_insert_22 (d : Nat) (a0 : Nat) (a1 : Nat) (x2 : Int32) (x3 : Int32) (m : eM) : oX := X d 184 22 [.ref a0, .ref a1, .int x2, .int x3] [] m
noncomputable def Ai_groupOf (d : Nat) (a0 : Nat) (x1 : Int32) (m : eM) : oX := X d 185 0 [.ref a0, .int x1, eU, eU, eU, eU, eU] [] m
noncomputable def Ai_groupOf_11 (d : Nat) (a0 : Nat) (x1 : Int32) (a2 : Nat) (x3 : Int32) (x4 : Int32) (w5 : Value) (m : eM) : oX := X d 185 11 [.ref a0, .int x1, .ref a2, .int x3, .int x4, w5, eU] [] m
noncomputable def LC_hide (d : Nat) (a0 : Nat) (x1 : Int32) (x2 : Int32) (m : eM) : oX := X d 186 0 [.ref a0, .int x1, .int x2, eU, eU] [] m
noncomputable def LC_hide_22 (d : Nat) (a0 : Nat) (x1 : Int32) (x2 : Int32) (x3 : Int32) (x4 : Int32) (m : eM) : oX := X d 186 22 [.ref a0, .int x1, .int x2, .int x3, .int x4] [] m
noncomputable def LC_sector (d : Nat) (a0 : Nat) (x1 : Int32) (x2 : Int32) (m : eM) : oX := X d 187 0 [.ref a0, .int x1, .int x2, eU, eU] [] m
noncomputable def LC_sector_21 (d : Nat) (a0 : Nat) (x1 : Int32) (x2 : Int32) (x3 : Int32) (x4 : Int32) (m : eM) : oX := X d 187 21 [.ref a0, .int x1, .int x2, .int x3, .int x4] [] m
noncomputable def LC_blind (d : Nat) (a0 : Nat) (x1 : Int32) (x2 : Int32) (m : eM) : oX := X d 188 0 [.ref a0, .int x1, .int x2, eU, eU, eU] [] m
noncomputable def LC_blind_28 (d : Nat) (a0 : Nat) (x1 : Int32) (x2 : Int32) (x3 : Int32) (x4 : Int32) (x5 : Int32) (m : eM) : oX := X d 188 28 [.ref a0, .int x1, .int x2, .int x3, .int x4, .int x5] [] m
noncomputable def Pa_near (d : Nat) (a0 : Nat) (x1 : Int32) (x2 : Int32) (m : eM) : oX := X d 189 0 [.ref a0, .int x1, .int x2, eU, eU, eU, eU] [] m
noncomputable def Pa_near_5 (d : Nat) (a0 : Nat) (x1 : Int32) (x2 : Int32) (x3 : Int32) (x4 : Int32) (w5 : Value) (w6 : Value) (m : eM) : oX := X d 189 5 [.ref a0, .int x1, .int x2, .int x3, .int x4, w5, w6] [] m
noncomputable def Pa_near_17 (d : Nat) (a0 : Nat) (x1 : Int32) (x2 : Int32) (x3 : Int32) (x4 : Int32) (x5 : Int32) (w6 : Value) (m : eM) : oX := X d 189 17 [.ref a0, .int x1, .int x2, .int x3, .int x4, .int x5, w6] [] m
noncomputable def Pa_near_50 (d : Nat) (a0 : Nat) (x1 : Int32) (x2 : Int32) (x3 : Int32) (x4 : Int32) (x5 : Int32) (w6 : Value) (p0 : Int32) (m : eM) : oX := X d 189 50 [.ref a0, .int x1, .int x2, .int x3, .int x4, .int x5, w6] [.int p0] m
noncomputable def LC_crowd (d : Nat) (a0 : Nat) (x1 : Int32) (x2 : Int32) (m : eM) : oX := X d 190 0 [.ref a0, .int x1, .int x2, eU, eU] [] m
noncomputable def LC_crowd_7 (d : Nat) (a0 : Nat) (x1 : Int32) (x2 : Int32) (x3 : Int32) (x4 : Int32) (m : eM) : oX := X d 190 7 [.ref a0, .int x1, .int x2, .int x3, .int x4] [] m
noncomputable def LC_told (d : Nat) (a0 : Nat) (x1 : Int32) (m : eM) : oX := X d 191 0 [.ref a0, .int x1] [] m
noncomputable def Pa_factsTold (d : Nat) (a0 : Nat) (x1 : Int32) (x2 : Int32) (m : eM) : oX := X d 192 0 [.ref a0, .int x1, .int x2, eU, eU, eU, eU, eU] [] m
noncomputable def Pa_factsTold_5 (d : Nat) (a0 : Nat) (x1 : Int32) (x2 : Int32) (x3 : Int32) (x4 : Int32) (m : eM) : oX := X d 192 5 [.ref a0, .int x1, .int x2, .int x3, .int x4, eU, eU, eU] [] m
noncomputable def Pa_factsTold_62 (d : Nat) (a0 : Nat) (x1 : Int32) (x2 : Int32) (x3 : Int32) (y4 : Int64) (x6 : Int32) (x7 : Int32) (m : eM) : oX := X d 192 62 [.ref a0, .int x1, .int x2, .int x3, .long y4, eU, .int x6, .int x7] [] m
noncomputable def LC_fewest (d : Nat) (a0 : Nat) (x1 : Int32) (x2 : Int32) (m : eM) : oX := X d 193 0 [.ref a0, .int x1, .int x2, eU, eU] [] m
noncomputable def LC_fewest_28 (d : Nat) (a0 : Nat) (x1 : Int32) (x2 : Int32) (x3 : Int32) (x4 : Int32) (m : eM) : oX := X d 193 28 [.ref a0, .int x1, .int x2, .int x3, .int x4] [] m
noncomputable def LC_person (d : Nat) (a0 : Nat) (x1 : Int32) (x2 : Int32) (m : eM) : oX := X d 194 0 [.ref a0, .int x1, .int x2] [] m
noncomputable def Pa_home (d : Nat) (a0 : Nat) (x1 : Int32) (m : eM) : oX := X d 195 0 [.ref a0, .int x1] [] m
noncomputable def LC_mark (d : Nat) (a0 : Nat) (x1 : Int32) (x2 : Int32) (m : eM) : oX := X d 196 0 [.ref a0, .int x1, .int x2] [] m
noncomputable def St_copy (d : Nat) (a0 : Nat) (a1 : Nat) (m : eM) : oX := X d 197 0 [.ref a0, .ref a1] [] m
noncomputable def Lo_copy (d : Nat) (a0 : Nat) (a1 : Nat) (m : eM) : oX := X d 198 0 [.ref a0, .ref a1, eU] [] m
noncomputable def Lo_copy_7 (d : Nat) (a0 : Nat) (a1 : Nat) (x2 : Int32) (m : eM) : oX := X d 198 7 [.ref a0, .ref a1, .int x2] [] m
noncomputable def LC_count (d : Nat) (a0 : Nat) (x1 : Int32) (m : eM) : oX := X d 199 0 [.ref a0, .int x1] [] m
noncomputable def LC_count_64 (d : Nat) (a0 : Nat) (x1 : Int32) (m : eM) : oX := X d 199 64 [.ref a0, .int x1] [] m
noncomputable def LC_count_75 (d : Nat) (a0 : Nat) (x1 : Int32) (m : eM) : oX := X d 199 75 [.ref a0, .int x1] [] m
noncomputable def LC_count_86 (d : Nat) (a0 : Nat) (x1 : Int32) (m : eM) : oX := X d 199 86 [.ref a0, .int x1] [] m
noncomputable def LC_count_97 (d : Nat) (a0 : Nat) (x1 : Int32) (m : eM) : oX := X d 199 97 [.ref a0, .int x1] [] m
noncomputable def LC_count_108 (d : Nat) (a0 : Nat) (x1 : Int32) (m : eM) : oX := X d 199 108 [.ref a0, .int x1] [] m
noncomputable def LC_count_128 (d : Nat) (a0 : Nat) (x1 : Int32) (m : eM) : oX := X d 199 128 [.ref a0, .int x1] [] m
noncomputable def LC_count_139 (d : Nat) (a0 : Nat) (x1 : Int32) (m : eM) : oX := X d 199 139 [.ref a0, .int x1] [] m
noncomputable def LC_count_150 (d : Nat) (a0 : Nat) (x1 : Int32) (m : eM) : oX := X d 199 150 [.ref a0, .int x1] [] m
noncomputable def LC_count_161 (d : Nat) (a0 : Nat) (x1 : Int32) (m : eM) : oX := X d 199 161 [.ref a0, .int x1] [] m
noncomputable def LC_count_172 (d : Nat) (a0 : Nat) (x1 : Int32) (m : eM) : oX := X d 199 172 [.ref a0, .int x1] [] m
noncomputable def LC_count_180 (d : Nat) (a0 : Nat) (x1 : Int32) (m : eM) : oX := X d 199 180 [.ref a0, .int x1] [] m
noncomputable def LC_count_188 (d : Nat) (a0 : Nat) (x1 : Int32) (m : eM) : oX := X d 199 188 [.ref a0, .int x1] [] m
noncomputable def LC_count_202 (d : Nat) (a0 : Nat) (x1 : Int32) (m : eM) : oX := X d 199 202 [.ref a0, .int x1] [] m
noncomputable def Pa_places (d : Nat) (a0 : Nat) (m : eM) : oX := X d 200 0 [.ref a0] [] m
noncomputable def Pa_commons (d : Nat) (a0 : Nat) (m : eM) : oX := X d 201 0 [.ref a0] [] m
noncomputable def LC_secret (d : Nat) (a0 : Nat) (x1 : Int32) (x2 : Int32) (x3 : Int32) (x4 : Int32) (x5 : Int32) (m : eM) : oX := X d 202 0 [.ref a0, .int x1, .int x2, .int x3, .int x4, .int x5, eU, eU, eU, eU, eU] [] m
noncomputable def LC_power (d : Nat) (y0 : Int64) (x2 : Int32) (m : eM) : oX := X d 203 0 [.long y0, eU, .int x2, eU, eU, eU] [] m
noncomputable def LC_power_5 (d : Nat) (y0 : Int64) (x2 : Int32) (y3 : Int64) (x5 : Int32) (m : eM) : oX := X d 203 5 [.long y0, eU, .int x2, .long y3, eU, .int x5] [] m
noncomputable def Mo_init (d : Nat) (a0 : Nat) (m : eM) : oX := X d 204 0 [.ref a0] [] m
noncomputable def Mo_forgets (d : Nat) (a0 : Nat) (m : eM) : oX := X d 205 0 [.ref a0, eU] [] m
noncomputable def Mo_forgets_2 (d : Nat) (a0 : Nat) (x1 : Int32) (m : eM) : oX := X d 205 2 [.ref a0, .int x1] [] m
noncomputable def Mo_thrown (d : Nat) (a0 : Nat) (m : eM) : oX := X d 206 0 [.ref a0] [] m
noncomputable def Mo_feed (d : Nat) (a0 : Nat) (y1 : Int64) (y3 : Int64) (y5 : Int64) (m : eM) : oX := X d 207 0 [.ref a0, .long y1, eU, .long y3, eU, .long y5, eU, eU, eU, eU, eU] [] m
noncomputable def Mo_feed_8 (d : Nat) (a0 : Nat) (y1 : Int64) (y3 : Int64) (y5 : Int64) (x7 : Int32) (w8 : Value) (w10 : Value) (m : eM) : oX := X d 207 8 [.ref a0, .long y1, eU, .long y3, eU, .long y5, eU, .int x7, w8, eU, w10] [] m
noncomputable def Mo_feed_39 (d : Nat) (a0 : Nat) (y1 : Int64) (y3 : Int64) (y5 : Int64) (x7 : Int32) (w8 : Value) (w10 : Value) (q0 : Int64) (m : eM) : oX := X d 207 39 [.ref a0, .long y1, eU, .long y3, eU, .long y5, eU, .int x7, w8, eU, w10] [.long q0] m
noncomputable def Mo_parish (d : Nat) (a0 : Nat) (m : eM) : oX := X d 208 0 [.ref a0, eU] [] m
noncomputable def Mo_parish_23 (d : Nat) (a0 : Nat) (x1 : Int32) (m : eM) : oX := X d 208 23 [.ref a0, .int x1] [] m
noncomputable def Mo_parish_50 (d : Nat) (a0 : Nat) (x1 : Int32) (m : eM) : oX := X d 208 50 [.ref a0, .int x1] [] m
noncomputable def Mo_parish_79 (d : Nat) (a0 : Nat) (x1 : Int32) (m : eM) : oX := X d 208 79 [.ref a0, .int x1] [] m
noncomputable def Mo_parish_153 (d : Nat) (a0 : Nat) (x1 : Int32) (m : eM) : oX := X d 208 153 [.ref a0, .int x1] [] m
noncomputable def Mo_parish_226 (d : Nat) (a0 : Nat) (x1 : Int32) (m : eM) : oX := X d 208 226 [.ref a0, .int x1] [] m
noncomputable def Mo_starts (d : Nat) (a0 : Nat) (m : eM) : oX := X d 209 0 [.ref a0] [] m
noncomputable def Mo_nextToken (d : Nat) (a0 : Nat) (m : eM) : oX := X d 210 0 [.ref a0, eU] [] m
noncomputable def Mo_nextToken_52 (d : Nat) (a0 : Nat) (m : eM) : oX := X d 210 52 [.ref a0, eU] [] m
noncomputable def Mo_nextToken_109 (d : Nat) (a0 : Nat) (x1 : Int32) (m : eM) : oX := X d 210 109 [.ref a0, .int x1] [] m
noncomputable def Mo_nextToken_188 (d : Nat) (a0 : Nat) (x1 : Int32) (m : eM) : oX := X d 210 188 [.ref a0, .int x1] [] m
noncomputable def Mo_nextToken_224 (d : Nat) (a0 : Nat) (x1 : Int32) (m : eM) : oX := X d 210 224 [.ref a0, .int x1] [] m
noncomputable def Mo_nextToken_299 (d : Nat) (a0 : Nat) (x1 : Int32) (m : eM) : oX := X d 210 299 [.ref a0, .int x1] [] m
noncomputable def Mo_nextToken_322 (d : Nat) (a0 : Nat) (x1 : Int32) (m : eM) : oX := X d 210 322 [.ref a0, .int x1] [] m
noncomputable def Mo_nextToken_345 (d : Nat) (a0 : Nat) (x1 : Int32) (b0 : Nat) (m : eM) : oX := X d 210 345 [.ref a0, .int x1] [.ref b0] m
noncomputable def Mo_signAt (d : Nat) (a0 : Nat) (x1 : Int32) (m : eM) : oX := X d 211 0 [.ref a0, .int x1] [] m
noncomputable def Mo_readsParish (d : Nat) (a0 : Nat) (m : eM) : oX := X d 212 0 [.ref a0, eU] [] m
noncomputable def Mo_readsParish_2 (d : Nat) (a0 : Nat) (x1 : Int32) (m : eM) : oX := X d 212 2 [.ref a0, .int x1] [] m
noncomputable def Mo_readsParish_28 (d : Nat) (a0 : Nat) (x1 : Int32) (m : eM) : oX := X d 212 28 [.ref a0, .int x1] [] m
noncomputable def Mo_readsParish_81 (d : Nat) (a0 : Nat) (x1 : Int32) (m : eM) : oX := X d 212 81 [.ref a0, .int x1] [] m
noncomputable def Mo_isWord (d : Nat) (a0 : Nat) (y1 : Int64) (m : eM) : oX := X d 213 0 [.ref a0, .long y1, eU] [] m
noncomputable def Mo_readsFact (d : Nat) (a0 : Nat) (m : eM) : oX := X d 214 0 [.ref a0, eU] [] m
noncomputable def Mo_fails (d : Nat) (a0 : Nat) (x1 : Int32) (m : eM) : oX := X d 215 0 [.ref a0, .int x1] [] m
noncomputable def Mo_needsNew (d : Nat) (a0 : Nat) (x1 : Int32) (m : eM) : oX := X d 216 0 [.ref a0, .int x1] [] m
noncomputable def Mo_isKept (d : Nat) (a0 : Nat) (m : eM) : oX := X d 217 0 [.ref a0] [] m
noncomputable def Mo_whichOf (d : Nat) (a0 : Nat) (x1 : Int32) (m : eM) : oX := X d 218 0 [.ref a0, .int x1, eU] [] m
noncomputable def Mo_whichOf_2 (d : Nat) (a0 : Nat) (x1 : Int32) (x2 : Int32) (m : eM) : oX := X d 218 2 [.ref a0, .int x1, .int x2] [] m
noncomputable def Mo_needsNumber (d : Nat) (a0 : Nat) (x1 : Int32) (m : eM) : oX := X d 219 0 [.ref a0, .int x1] [] m
noncomputable def Mo_ends (d : Nat) (a0 : Nat) (m : eM) : oX := X d 220 0 [.ref a0] [] m
noncomputable def Mo_isSign (d : Nat) (a0 : Nat) (x1 : Int32) (m : eM) : oX := X d 221 0 [.ref a0, .int x1] [] m
noncomputable def Mo_readsPlace (d : Nat) (a0 : Nat) (m : eM) : oX := X d 222 0 [.ref a0] [] m
noncomputable def Mo_needsWord (d : Nat) (a0 : Nat) (y1 : Int64) (m : eM) : oX := X d 223 0 [.ref a0, .long y1, eU] [] m
noncomputable def Mo_readsPerson (d : Nat) (a0 : Nat) (m : eM) : oX := X d 224 0 [.ref a0, eU, eU] [] m
noncomputable def Mo_readsPerson_113 (d : Nat) (a0 : Nat) (x1 : Int32) (w2 : Value) (m : eM) : oX := X d 224 113 [.ref a0, .int x1, w2] [] m
noncomputable def Mo_readsCock (d : Nat) (a0 : Nat) (m : eM) : oX := X d 225 0 [.ref a0, eU] [] m
noncomputable def Mo_readsCommon (d : Nat) (a0 : Nat) (m : eM) : oX := X d 226 0 [.ref a0] [] m
noncomputable def Mo_reads (d : Nat) (a0 : Nat) (x1 : Int32) (m : eM) : oX := X d 227 0 [.ref a0, .int x1, eU, eU, eU, eU, eU, eU] [] m
noncomputable def Mo_reads_16 (d : Nat) (a0 : Nat) (x1 : Int32) (x2 : Int32) (x3 : Int32) (w4 : Value) (w5 : Value) (w6 : Value) (w7 : Value) (m : eM) : oX := X d 227 16 [.ref a0, .int x1, .int x2, .int x3, w4, w5, w6, w7] [] m
noncomputable def Mo_reads_48 (d : Nat) (a0 : Nat) (x1 : Int32) (x2 : Int32) (x3 : Int32) (x4 : Int32) (w5 : Value) (w6 : Value) (w7 : Value) (p0 : Int32) (m : eM) : oX := X d 227 48 [.ref a0, .int x1, .int x2, .int x3, .int x4, w5, w6, w7] [.int p0] m
noncomputable def Mo_reads_112 (d : Nat) (a0 : Nat) (x1 : Int32) (x2 : Int32) (x3 : Int32) (x4 : Int32) (x5 : Int32) (x6 : Int32) (x7 : Int32) (m : eM) : oX := X d 227 112 [.ref a0, .int x1, .int x2, .int x3, .int x4, .int x5, .int x6, .int x7] [] m
noncomputable def Mo_reads_146 (d : Nat) (a0 : Nat) (x1 : Int32) (x2 : Int32) (x3 : Int32) (x4 : Int32) (x5 : Int32) (x6 : Int32) (x7 : Int32) (b0 : Nat) (p1 : Int32) (m : eM) : oX := X d 227 146 [.ref a0, .int x1, .int x2, .int x3, .int x4, .int x5, .int x6, .int x7] [.int p1, .ref b0] m
noncomputable def Mo_reads_203 (d : Nat) (a0 : Nat) (x1 : Int32) (x2 : Int32) (x3 : Int32) (x4 : Int32) (x5 : Int32) (x6 : Int32) (x7 : Int32) (m : eM) : oX := X d 227 203 [.ref a0, .int x1, .int x2, .int x3, .int x4, .int x5, .int x6, .int x7] [] m
noncomputable def Mo_reads_257 (d : Nat) (a0 : Nat) (x1 : Int32) (x2 : Int32) (x3 : Int32) (w4 : Value) (w5 : Value) (w6 : Value) (w7 : Value) (m : eM) : oX := X d 227 257 [.ref a0, .int x1, .int x2, .int x3, w4, w5, w6, w7] [] m
noncomputable def Mo_reads_314 (d : Nat) (a0 : Nat) (x1 : Int32) (x2 : Int32) (x3 : Int32) (w4 : Value) (w5 : Value) (w6 : Value) (w7 : Value) (m : eM) : oX := X d 227 314 [.ref a0, .int x1, .int x2, .int x3, w4, w5, w6, w7] [] m
noncomputable def Mo_reads_355 (d : Nat) (a0 : Nat) (x1 : Int32) (x2 : Int32) (x3 : Int32) (w4 : Value) (w5 : Value) (w6 : Value) (w7 : Value) (m : eM) : oX := X d 227 355 [.ref a0, .int x1, .int x2, .int x3, w4, w5, w6, w7] [] m
noncomputable def Mo_reads_375 (d : Nat) (a0 : Nat) (x1 : Int32) (x2 : Int32) (x3 : Int32) (w4 : Value) (w5 : Value) (w6 : Value) (w7 : Value) (m : eM) : oX := X d 227 375 [.ref a0, .int x1, .int x2, .int x3, w4, w5, w6, w7] [] m
noncomputable def Mo_reads_430 (d : Nat) (a0 : Nat) (x1 : Int32) (x2 : Int32) (x3 : Int32) (w4 : Value) (w5 : Value) (w6 : Value) (w7 : Value) (m : eM) : oX := X d 227 430 [.ref a0, .int x1, .int x2, .int x3, w4, w5, w6, w7] [] m
noncomputable def Mo_reads_450 (d : Nat) (a0 : Nat) (x1 : Int32) (x2 : Int32) (x3 : Int32) (w4 : Value) (w5 : Value) (w6 : Value) (w7 : Value) (m : eM) : oX := X d 227 450 [.ref a0, .int x1, .int x2, .int x3, w4, w5, w6, w7] [] m
noncomputable def Mo_puts (d : Nat) (a0 : Nat) (x1 : Int32) (m : eM) : oX := X d 228 0 [.ref a0, .int x1] [] m
noncomputable def Mo_soIn (d : Nat) (a0 : Nat) (x1 : Int32) (m : eM) : oX := X d 229 0 [.ref a0, .int x1, eU, eU, eU, eU] [] m
noncomputable def Mo_soIn_5 (d : Nat) (a0 : Nat) (x1 : Int32) (y2 : Int64) (x4 : Int32) (w5 : Value) (m : eM) : oX := X d 229 5 [.ref a0, .int x1, .long y2, eU, .int x4, w5] [] m
noncomputable def Mo_soIn_16 (d : Nat) (a0 : Nat) (x1 : Int32) (y2 : Int64) (x4 : Int32) (x5 : Int32) (m : eM) : oX := X d 229 16 [.ref a0, .int x1, .long y2, eU, .int x4, .int x5] [] m
noncomputable def Mo_worked (d : Nat) (a0 : Nat) (x1 : Int32) (m : eM) : oX := X d 230 0 [.ref a0, .int x1, eU, eU, eU, eU] [] m
noncomputable def Mo_worked_14 (d : Nat) (a0 : Nat) (x1 : Int32) (x2 : Int32) (x3 : Int32) (w4 : Value) (w5 : Value) (m : eM) : oX := X d 230 14 [.ref a0, .int x1, .int x2, .int x3, w4, w5] [] m
noncomputable def Mo_worked_46 (d : Nat) (a0 : Nat) (x1 : Int32) (x2 : Int32) (x3 : Int32) (x4 : Int32) (w5 : Value) (m : eM) : oX := X d 230 46 [.ref a0, .int x1, .int x2, .int x3, .int x4, w5] [] m
noncomputable def Mo_worked_137 (d : Nat) (a0 : Nat) (x1 : Int32) (x2 : Int32) (x3 : Int32) (x4 : Int32) (w5 : Value) (m : eM) : oX := X d 230 137 [.ref a0, .int x1, .int x2, .int x3, .int x4, w5] [] m
noncomputable def Mo_worked_268 (d : Nat) (a0 : Nat) (x1 : Int32) (x2 : Int32) (x3 : Int32) (x4 : Int32) (x5 : Int32) (m : eM) : oX := X d 230 268 [.ref a0, .int x1, .int x2, .int x3, .int x4, .int x5] [] m
noncomputable def Mo_worked_300 (d : Nat) (a0 : Nat) (x1 : Int32) (x2 : Int32) (x3 : Int32) (x4 : Int32) (x5 : Int32) (m : eM) : oX := X d 230 300 [.ref a0, .int x1, .int x2, .int x3, .int x4, .int x5] [] m
noncomputable def Mo_opens (d : Nat) (a0 : Nat) (x1 : Int32) (m : eM) : oX := X d 231 0 [.ref a0, .int x1] [] m
noncomputable def Mo_sums (d : Nat) (a0 : Nat) (x1 : Int32) (m : eM) : oX := X d 232 0 [.ref a0, .int x1] [] m
noncomputable def Mo_tests (d : Nat) (a0 : Nat) (x1 : Int32) (m : eM) : oX := X d 233 0 [.ref a0, .int x1, eU] [] m
noncomputable def Mo_tests_44 (d : Nat) (a0 : Nat) (x1 : Int32) (x2 : Int32) (m : eM) : oX := X d 233 44 [.ref a0, .int x1, .int x2] [] m
noncomputable def Mo_tests_76 (d : Nat) (a0 : Nat) (x1 : Int32) (x2 : Int32) (m : eM) : oX := X d 233 76 [.ref a0, .int x1, .int x2] [] m
noncomputable def Mo_tests_106 (d : Nat) (a0 : Nat) (x1 : Int32) (x2 : Int32) (m : eM) : oX := X d 233 106 [.ref a0, .int x1, .int x2] [] m
noncomputable def Mo_tests_136 (d : Nat) (a0 : Nat) (x1 : Int32) (x2 : Int32) (m : eM) : oX := X d 233 136 [.ref a0, .int x1, .int x2] [] m
noncomputable def Mo_allWorlds (d : Nat) (a0 : Nat) (m : eM) : oX := X d 234 0 [.ref a0] [] m
noncomputable def Mo_say (d : Nat) (a0 : Nat) (x1 : Int32) (x2 : Int32) (m : eM) : oX := X d 235 0 [.ref a0, .int x1, .int x2, eU] [] m
noncomputable def Mo_say_58 (d : Nat) (a0 : Nat) (x1 : Int32) (x2 : Int32) (m : eM) : oX := X d 235 58 [.ref a0, .int x1, .int x2, eU] [] m
noncomputable def Mo_isPerson (d : Nat) (a0 : Nat) (x1 : Int32) (m : eM) : oX := X d 236 0 [.ref a0, .int x1] [] m
noncomputable def Mo_isMinute (d : Nat) (x0 : Int32) (m : eM) : oX := X d 237 0 [.int x0] [] m
noncomputable def Mo_lays (d : Nat) (a0 : Nat) (x1 : Int32) (x2 : Int32) (x3 : Int32) (m : eM) : oX := X d 238 0 [.ref a0, .int x1, .int x2, .int x3, eU] [] m
noncomputable def Mo_lays_3 (d : Nat) (a0 : Nat) (x1 : Int32) (x2 : Int32) (x3 : Int32) (x4 : Int32) (m : eM) : oX := X d 238 3 [.ref a0, .int x1, .int x2, .int x3, .int x4] [] m
noncomputable def Mo_lays_34 (d : Nat) (a0 : Nat) (x1 : Int32) (x2 : Int32) (x3 : Int32) (x4 : Int32) (m : eM) : oX := X d 238 34 [.ref a0, .int x1, .int x2, .int x3, .int x4] [] m
noncomputable def Mo_lays_100 (d : Nat) (a0 : Nat) (x1 : Int32) (x2 : Int32) (x3 : Int32) (x4 : Int32) (m : eM) : oX := X d 238 100 [.ref a0, .int x1, .int x2, .int x3, .int x4] [] m
noncomputable def Mo_offer (d : Nat) (a0 : Nat) (x1 : Int32) (x2 : Int32) (m : eM) : oX := X d 239 0 [.ref a0, .int x1, .int x2, eU] [] m
noncomputable def Mo_truth (d : Nat) (a0 : Nat) (x1 : Int32) (m : eM) : oX := X d 240 0 [.ref a0, .int x1] [] m
noncomputable def Mo_isWorld (d : Nat) (a0 : Nat) (x1 : Int32) (m : eM) : oX := X d 241 0 [.ref a0, .int x1] [] m
noncomputable def Mo_lie (d : Nat) (a0 : Nat) (x1 : Int32) (x2 : Int32) (m : eM) : oX := X d 242 0 [.ref a0, .int x1, .int x2] [] m
noncomputable def Mo_lie_45 (d : Nat) (a0 : Nat) (x1 : Int32) (x2 : Int32) (p0 : Int32) (m : eM) : oX := X d 242 45 [.ref a0, .int x1, .int x2] [.int p0] m
noncomputable def Mo_isIn (d : Nat) (y0 : Int64) (x2 : Int32) (m : eM) : oX := X d 243 0 [.long y0, eU, .int x2] [] m
noncomputable def Mo_isLie (d : Nat) (a0 : Nat) (x1 : Int32) (x2 : Int32) (x3 : Int32) (m : eM) : oX := X d 244 0 [.ref a0, .int x1, .int x2, .int x3] [] m
noncomputable def Mo_likeFor (d : Nat) (a0 : Nat) (x1 : Int32) (x2 : Int32) (m : eM) : oX := X d 245 0 [.ref a0, .int x1, .int x2, eU, eU, eU] [] m
noncomputable def Mo_likeFor_5 (d : Nat) (a0 : Nat) (x1 : Int32) (x2 : Int32) (y3 : Int64) (x5 : Int32) (m : eM) : oX := X d 245 5 [.ref a0, .int x1, .int x2, .long y3, eU, .int x5] [] m
noncomputable def Mo_points (d : Nat) (a0 : Nat) (x1 : Int32) (x2 : Int32) (x3 : Int32) (m : eM) : oX := X d 246 0 [.ref a0, .int x1, .int x2, .int x3] [] m
noncomputable def Mo_isThere (d : Nat) (a0 : Nat) (x1 : Int32) (m : eM) : oX := X d 247 0 [.ref a0, .int x1] [] m
noncomputable def Mo_rows (d : Nat) (a0 : Nat) (x1 : Int32) (m : eM) : oX := X d 248 0 [.ref a0, .int x1, eU, eU] [] m
noncomputable def Mo_rows_7 (d : Nat) (a0 : Nat) (x1 : Int32) (x2 : Int32) (m : eM) : oX := X d 248 7 [.ref a0, .int x1, .int x2, eU] [] m
noncomputable def Mo_rows_43 (d : Nat) (a0 : Nat) (x1 : Int32) (x2 : Int32) (w3 : Value) (m : eM) : oX := X d 248 43 [.ref a0, .int x1, .int x2, w3] [] m
noncomputable def Mo_rows_67 (d : Nat) (a0 : Nat) (x1 : Int32) (x2 : Int32) (x3 : Int32) (m : eM) : oX := X d 248 67 [.ref a0, .int x1, .int x2, .int x3] [] m
noncomputable def Mo_rows_116 (d : Nat) (a0 : Nat) (x1 : Int32) (x2 : Int32) (x3 : Int32) (m : eM) : oX := X d 248 116 [.ref a0, .int x1, .int x2, .int x3] [] m
noncomputable def Mo_rows_144 (d : Nat) (a0 : Nat) (x1 : Int32) (x2 : Int32) (w3 : Value) (m : eM) : oX := X d 248 144 [.ref a0, .int x1, .int x2, w3] [] m
noncomputable def Mo_liesOf (d : Nat) (a0 : Nat) (x1 : Int32) (m : eM) : oX := X d 249 0 [.ref a0, .int x1, eU, eU] [] m
noncomputable def Mo_liesOf_2 (d : Nat) (a0 : Nat) (x1 : Int32) (x2 : Int32) (w3 : Value) (m : eM) : oX := X d 249 2 [.ref a0, .int x1, .int x2, w3] [] m
noncomputable def Mo_liesOf_21 (d : Nat) (a0 : Nat) (x1 : Int32) (x2 : Int32) (x3 : Int32) (m : eM) : oX := X d 249 21 [.ref a0, .int x1, .int x2, .int x3] [] m
noncomputable def Mo_pointsTo (d : Nat) (a0 : Nat) (x1 : Int32) (x2 : Int32) (x3 : Int32) (m : eM) : oX := X d 250 0 [.ref a0, .int x1, .int x2, .int x3, eU] [] m
noncomputable def Mo_pointsTo_8 (d : Nat) (a0 : Nat) (x1 : Int32) (x2 : Int32) (x3 : Int32) (x4 : Int32) (m : eM) : oX := X d 250 8 [.ref a0, .int x1, .int x2, .int x3, .int x4] [] m
noncomputable def Mo_look (d : Nat) (a0 : Nat) (x1 : Int32) (x2 : Int32) (x3 : Int32) (x4 : Int32) (m : eM) : oX := X d 251 0 [.ref a0, .int x1, .int x2, .int x3, .int x4] [] m
noncomputable def Mo_isBearing (d : Nat) (x0 : Int32) (m : eM) : oX := X d 252 0 [.int x0] [] m
noncomputable def Mo_world (d : Nat) (a0 : Nat) (x1 : Int32) (m : eM) : oX := X d 253 0 [.ref a0, .int x1] [] m
noncomputable def Mo_canBe (d : Nat) (a0 : Nat) (m : eM) : oX := X d 254 0 [.ref a0, eU, eU, eU, eU] [] m
noncomputable def Mo_canBe_14 (d : Nat) (a0 : Nat) (y1 : Int64) (x3 : Int32) (w4 : Value) (m : eM) : oX := X d 254 14 [.ref a0, .long y1, eU, .int x3, w4] [] m
noncomputable def Mo_canBe_32 (d : Nat) (a0 : Nat) (y1 : Int64) (x3 : Int32) (x4 : Int32) (m : eM) : oX := X d 254 32 [.ref a0, .long y1, eU, .int x3, .int x4] [] m
noncomputable def Mo_fitsIn (d : Nat) (a0 : Nat) (x1 : Int32) (x2 : Int32) (m : eM) : oX := X d 255 0 [.ref a0, .int x1, .int x2] [] m
noncomputable def Mo_bearingAt (d : Nat) (a0 : Nat) (x1 : Int32) (x2 : Int32) (x3 : Int32) (m : eM) : oX := X d 256 0 [.ref a0, .int x1, .int x2, .int x3, eU] [] m
noncomputable def Mo_isWithin (d : Nat) (x0 : Int32) (x1 : Int32) (x2 : Int32) (m : eM) : oX := X d 257 0 [.int x0, .int x1, .int x2] [] m
noncomputable def Mo_worlds (d : Nat) (a0 : Nat) (x1 : Int32) (m : eM) : oX := X d 258 0 [.ref a0, .int x1, eU, eU] [] m
noncomputable def Mo_worlds_20 (d : Nat) (a0 : Nat) (x1 : Int32) (m : eM) : oX := X d 258 20 [.ref a0, .int x1, eU, eU] [] m
noncomputable def Mo_isFact (d : Nat) (a0 : Nat) (x1 : Int32) (m : eM) : oX := X d 259 0 [.ref a0, .int x1] [] m
noncomputable def Mo_factSet (d : Nat) (a0 : Nat) (x1 : Int32) (m : eM) : oX := X d 260 0 [.ref a0, .int x1, eU, eU, eU] [] m
noncomputable def Mo_factSet_5 (d : Nat) (a0 : Nat) (x1 : Int32) (y2 : Int64) (x4 : Int32) (m : eM) : oX := X d 260 5 [.ref a0, .int x1, .long y2, eU, .int x4] [] m
noncomputable def Mo_bits (d : Nat) (y0 : Int64) (m : eM) : oX := X d 261 0 [.long y0, eU, eU, eU] [] m
noncomputable def Mo_bits_4 (d : Nat) (y0 : Int64) (x2 : Int32) (x3 : Int32) (m : eM) : oX := X d 261 4 [.long y0, eU, .int x2, .int x3] [] m
noncomputable def Mo_sureFact (d : Nat) (a0 : Nat) (x1 : Int32) (m : eM) : oX := X d 262 0 [.ref a0, .int x1] [] m
noncomputable def Mo_sureOf (d : Nat) (y0 : Int64) (y2 : Int64) (m : eM) : oX := X d 263 0 [.long y0, eU, .long y2, eU] [] m
noncomputable def Mo_sure (d : Nat) (a0 : Nat) (x1 : Int32) (m : eM) : oX := X d 264 0 [.ref a0, .int x1] [] m
noncomputable def Mo_odds (d : Nat) (a0 : Nat) (x1 : Int32) (x2 : Int32) (m : eM) : oX := X d 265 0 [.ref a0, .int x1, .int x2, eU, eU, eU, eU, eU, eU, eU] [] m
noncomputable def Mo_odds_40 (d : Nat) (a0 : Nat) (x1 : Int32) (x2 : Int32) (y3 : Int64) (y5 : Int64) (y7 : Int64) (x9 : Int32) (m : eM) : oX := X d 265 40 [.ref a0, .int x1, .int x2, .long y3, eU, .long y5, eU, .long y7, eU, .int x9] [] m
noncomputable def Mo_within (d : Nat) (x0 : Int32) (x1 : Int32) (x2 : Int32) (m : eM) : oX := X d 266 0 [.int x0, .int x1, .int x2] [] m
noncomputable def Mo_weight (d : Nat) (a0 : Nat) (x1 : Int32) (m : eM) : oX := X d 267 0 [.ref a0, .int x1, eU, eU, eU] [] m
noncomputable def Mo_weight_5 (d : Nat) (a0 : Nat) (x1 : Int32) (y2 : Int64) (x4 : Int32) (m : eM) : oX := X d 267 5 [.ref a0, .int x1, .long y2, eU, .int x4] [] m
noncomputable def Mo_lowest (d : Nat) (y0 : Int64) (y2 : Int64) (x4 : Int32) (m : eM) : oX := X d 268 0 [.long y0, eU, .long y2, eU, .int x4, eU, eU, eU, eU, eU, eU] [] m
noncomputable def Mo_lowest_6 (d : Nat) (y0 : Int64) (y2 : Int64) (x4 : Int32) (y5 : Int64) (y7 : Int64) (w9 : Value) (m : eM) : oX := X d 268 6 [.long y0, eU, .long y2, eU, .int x4, .long y5, eU, .long y7, eU, w9, eU] [] m
noncomputable def Mo_proof (d : Nat) (a0 : Nat) (x1 : Int32) (x2 : Int32) (m : eM) : oX := X d 269 0 [.ref a0, .int x1, .int x2, eU, eU, eU] [] m
noncomputable def Mo_proof_55 (d : Nat) (a0 : Nat) (x1 : Int32) (x2 : Int32) (x3 : Int32) (x4 : Int32) (x5 : Int32) (m : eM) : oX := X d 269 55 [.ref a0, .int x1, .int x2, .int x3, .int x4, .int x5] [] m
noncomputable def Mo_withLooks (d : Nat) (a0 : Nat) (x1 : Int32) (m : eM) : oX := X d 270 0 [.ref a0, .int x1, eU, eU, eU] [] m
noncomputable def Mo_withLooks_10 (d : Nat) (a0 : Nat) (x1 : Int32) (y2 : Int64) (x4 : Int32) (m : eM) : oX := X d 270 10 [.ref a0, .int x1, .long y2, eU, .int x4] [] m
noncomputable def Mo_clash (d : Nat) (a0 : Nat) (x1 : Int32) (m : eM) : oX := X d 271 0 [.ref a0, .int x1, eU, eU] [] m
noncomputable def Mo_clash_29 (d : Nat) (a0 : Nat) (x1 : Int32) (x2 : Int32) (x3 : Int32) (m : eM) : oX := X d 271 29 [.ref a0, .int x1, .int x2, .int x3] [] m
noncomputable def Mo_next (d : Nat) (a0 : Nat) (x1 : Int32) (x2 : Int32) (x3 : Int32) (x4 : Int32) (m : eM) : oX := X d 272 0 [.ref a0, .int x1, .int x2, .int x3, .int x4, eU, eU, eU, eU, eU, eU] [] m
noncomputable def Mo_next_52 (d : Nat) (a0 : Nat) (x1 : Int32) (x2 : Int32) (x3 : Int32) (x4 : Int32) (y5 : Int64) (x7 : Int32) (x8 : Int32) (x9 : Int32) (w10 : Value) (m : eM) : oX := X d 272 52 [.ref a0, .int x1, .int x2, .int x3, .int x4, .long y5, eU, .int x7, .int x8, .int x9, w10] [] m
noncomputable def Mo_isSpan (d : Nat) (a0 : Nat) (x1 : Int32) (x2 : Int32) (x3 : Int32) (m : eM) : oX := X d 273 0 [.ref a0, .int x1, .int x2, .int x3] [] m
noncomputable def Mo_isAsBefore (d : Nat) (a0 : Nat) (x1 : Int32) (x2 : Int32) (x3 : Int32) (m : eM) : oX := X d 274 0 [.ref a0, .int x1, .int x2, .int x3, eU] [] m
noncomputable def Mo_isAsBefore_10 (d : Nat) (a0 : Nat) (x1 : Int32) (x2 : Int32) (x3 : Int32) (x4 : Int32) (m : eM) : oX := X d 274 10 [.ref a0, .int x1, .int x2, .int x3, .int x4] [] m
noncomputable def Mo_classes (d : Nat) (a0 : Nat) (x1 : Int32) (x2 : Int32) (y3 : Int64) (x5 : Int32) (m : eM) : oX := X d 275 0 [.ref a0, .int x1, .int x2, .long y3, eU, .int x5, eU, eU, eU, eU] [] m
noncomputable def Mo_classes_3 (d : Nat) (a0 : Nat) (x1 : Int32) (x2 : Int32) (y3 : Int64) (x5 : Int32) (x6 : Int32) (m : eM) : oX := X d 275 3 [.ref a0, .int x1, .int x2, .long y3, eU, .int x5, .int x6, eU, eU, eU] [] m
noncomputable def Mo_classes_34 (d : Nat) (a0 : Nat) (x1 : Int32) (x2 : Int32) (y3 : Int64) (x5 : Int32) (x6 : Int32) (x7 : Int32) (x8 : Int32) (w9 : Value) (m : eM) : oX := X d 275 34 [.ref a0, .int x1, .int x2, .long y3, eU, .int x5, .int x6, .int x7, .int x8, w9] [] m
noncomputable def Mo_fog (d : Nat) (a0 : Nat) (x1 : Int32) (x2 : Int32) (x3 : Int32) (x4 : Int32) (m : eM) : oX := X d 276 0 [.ref a0, .int x1, .int x2, .int x3, .int x4, eU, eU, eU, eU, eU, eU] [] m
noncomputable def Mo_fog_51 (d : Nat) (a0 : Nat) (x1 : Int32) (x2 : Int32) (x3 : Int32) (x4 : Int32) (y5 : Int64) (x7 : Int32) (x8 : Int32) (x9 : Int32) (w10 : Value) (m : eM) : oX := X d 276 51 [.ref a0, .int x1, .int x2, .int x3, .int x4, .long y5, eU, .int x7, .int x8, .int x9, w10] [] m
noncomputable def Mo_learns (d : Nat) (a0 : Nat) (x1 : Int32) (x2 : Int32) (x3 : Int32) (x4 : Int32) (x5 : Int32) (m : eM) : oX := X d 277 0 [.ref a0, .int x1, .int x2, .int x3, .int x4, .int x5, eU, eU, eU, eU, eU] [] m
noncomputable def Mo_learns_79 (d : Nat) (a0 : Nat) (x1 : Int32) (x2 : Int32) (x3 : Int32) (x4 : Int32) (x5 : Int32) (m : eM) : oX := X d 277 79 [.ref a0, .int x1, .int x2, .int x3, .int x4, .int x5, eU, eU, eU, eU, eU] [] m
noncomputable def Mo_learns_166 (d : Nat) (a0 : Nat) (x1 : Int32) (x2 : Int32) (x3 : Int32) (x4 : Int32) (x5 : Int32) (y6 : Int64) (b0 : Nat) (p1 : Int32) (q2 : Int64) (m : eM) : oX := X d 277 166 [.ref a0, .int x1, .int x2, .int x3, .int x4, .int x5, .long y6, eU, eU, eU, eU] [.long q2, .int p1, .ref b0] m
noncomputable def Mo_learns_197 (d : Nat) (a0 : Nat) (x1 : Int32) (x2 : Int32) (x3 : Int32) (x4 : Int32) (x5 : Int32) (y6 : Int64) (x8 : Int32) (m : eM) : oX := X d 277 197 [.ref a0, .int x1, .int x2, .int x3, .int x4, .int x5, .long y6, eU, .int x8, eU, eU] [] m
noncomputable def Mo_learns_225 (d : Nat) (a0 : Nat) (x1 : Int32) (x2 : Int32) (x3 : Int32) (x4 : Int32) (x5 : Int32) (y6 : Int64) (x8 : Int32) (x9 : Int32) (w10 : Value) (m : eM) : oX := X d 277 225 [.ref a0, .int x1, .int x2, .int x3, .int x4, .int x5, .long y6, eU, .int x8, .int x9, w10] [] m
noncomputable def Mo_learns_294 (d : Nat) (a0 : Nat) (x1 : Int32) (x2 : Int32) (x3 : Int32) (x4 : Int32) (x5 : Int32) (y6 : Int64) (x8 : Int32) (x9 : Int32) (x10 : Int32) (b0 : Nat) (p1 : Int32) (p2 : Int32) (p3 : Int32) (m : eM) : oX := X d 277 294 [.ref a0, .int x1, .int x2, .int x3, .int x4, .int x5, .long y6, eU, .int x8, .int x9, .int x10] [.int p3, .int p2, .int p1, .ref b0] m
noncomputable def Mo_judged (d : Nat) (a0 : Nat) (m : eM) : oX := X d 278 0 [.ref a0, eU] [] m
noncomputable def Mo_judged_12 (d : Nat) (a0 : Nat) (x1 : Int32) (m : eM) : oX := X d 278 12 [.ref a0, .int x1] [] m
noncomputable def Mo_turned (d : Nat) (a0 : Nat) (x1 : Int32) (x2 : Int32) (m : eM) : oX := X d 279 0 [.ref a0, .int x1, .int x2, eU, eU, eU, eU] [] m
noncomputable def Mo_turned_35 (d : Nat) (a0 : Nat) (x1 : Int32) (x2 : Int32) (x3 : Int32) (x4 : Int32) (x5 : Int32) (w6 : Value) (m : eM) : oX := X d 279 35 [.ref a0, .int x1, .int x2, .int x3, .int x4, .int x5, w6] [] m
noncomputable def Mo_pointed (d : Nat) (a0 : Nat) (x1 : Int32) (x2 : Int32) (x3 : Int32) (x4 : Int32) (m : eM) : oX := X d 280 0 [.ref a0, .int x1, .int x2, .int x3, .int x4, eU, eU] [] m
noncomputable def Mo_pointed_42 (d : Nat) (a0 : Nat) (x1 : Int32) (x2 : Int32) (x3 : Int32) (x4 : Int32) (x5 : Int32) (x6 : Int32) (m : eM) : oX := X d 280 42 [.ref a0, .int x1, .int x2, .int x3, .int x4, .int x5, .int x6] [] m
noncomputable def Mo_round (d : Nat) (a0 : Nat) (x1 : Int32) (x2 : Int32) (m : eM) : oX := X d 281 0 [.ref a0, .int x1, .int x2, eU, eU, eU, eU] [] m
noncomputable def Mo_round_35 (d : Nat) (a0 : Nat) (x1 : Int32) (x2 : Int32) (x3 : Int32) (x4 : Int32) (x5 : Int32) (w6 : Value) (m : eM) : oX := X d 281 35 [.ref a0, .int x1, .int x2, .int x3, .int x4, .int x5, w6] [] m
noncomputable def Mo_apart (d : Nat) (x0 : Int32) (x1 : Int32) (m : eM) : oX := X d 282 0 [.int x0, .int x1, eU] [] m
noncomputable def Mo_watch (d : Nat) (a0 : Nat) (x1 : Int32) (x2 : Int32) (m : eM) : oX := X d 283 0 [.ref a0, .int x1, .int x2] [] m
noncomputable def Mo_hidden (d : Nat) (a0 : Nat) (x1 : Int32) (x2 : Int32) (m : eM) : oX := X d 284 0 [.ref a0, .int x1, .int x2] [] m
noncomputable def Mo_isToldLie (d : Nat) (a0 : Nat) (x1 : Int32) (x2 : Int32) (m : eM) : oX := X d 285 0 [.ref a0, .int x1, .int x2] [] m
noncomputable def Mo_isHidden (d : Nat) (a0 : Nat) (x1 : Int32) (x2 : Int32) (m : eM) : oX := X d 286 0 [.ref a0, .int x1, .int x2, eU, eU, eU, eU] [] m
noncomputable def Mo_isHidden_10 (d : Nat) (a0 : Nat) (x1 : Int32) (x2 : Int32) (x3 : Int32) (x4 : Int32) (w5 : Value) (w6 : Value) (m : eM) : oX := X d 286 10 [.ref a0, .int x1, .int x2, .int x3, .int x4, w5, w6] [] m
noncomputable def Mo_isHidden_39 (d : Nat) (a0 : Nat) (x1 : Int32) (x2 : Int32) (x3 : Int32) (x4 : Int32) (x5 : Int32) (x6 : Int32) (m : eM) : oX := X d 286 39 [.ref a0, .int x1, .int x2, .int x3, .int x4, .int x5, .int x6] [] m
noncomputable def Mo_isHidden_111 (d : Nat) (a0 : Nat) (x1 : Int32) (x2 : Int32) (x3 : Int32) (x4 : Int32) (x5 : Int32) (x6 : Int32) (m : eM) : oX := X d 286 111 [.ref a0, .int x1, .int x2, .int x3, .int x4, .int x5, .int x6] [] m
noncomputable def Mo_hide (d : Nat) (a0 : Nat) (x1 : Int32) (x2 : Int32) (m : eM) : oX := X d 287 0 [.ref a0, .int x1, .int x2, eU, eU] [] m
noncomputable def Mo_hide_35 (d : Nat) (a0 : Nat) (x1 : Int32) (x2 : Int32) (x3 : Int32) (x4 : Int32) (m : eM) : oX := X d 287 35 [.ref a0, .int x1, .int x2, .int x3, .int x4] [] m
noncomputable def Mo_secret (d : Nat) (a0 : Nat) (x1 : Int32) (x2 : Int32) (x3 : Int32) (x4 : Int32) (x5 : Int32) (m : eM) : oX := X d 288 0 [.ref a0, .int x1, .int x2, .int x3, .int x4, .int x5, eU, eU, eU, eU, eU] [] m
noncomputable def Mo_secret_59 (d : Nat) (a0 : Nat) (x1 : Int32) (x2 : Int32) (x3 : Int32) (x4 : Int32) (x5 : Int32) (b0 : Nat) (p1 : Int32) (m : eM) : oX := X d 288 59 [.ref a0, .int x1, .int x2, .int x3, .int x4, .int x5, eU, eU, eU, eU, eU] [.int p1, .ref b0] m
noncomputable def Mo_secret_98 (d : Nat) (a0 : Nat) (x1 : Int32) (x2 : Int32) (x3 : Int32) (x4 : Int32) (x5 : Int32) (m : eM) : oX := X d 288 98 [.ref a0, .int x1, .int x2, .int x3, .int x4, .int x5, eU, eU, eU, eU, eU] [] m
noncomputable def Mo_secret_122 (d : Nat) (a0 : Nat) (x1 : Int32) (x2 : Int32) (x3 : Int32) (x4 : Int32) (x5 : Int32) (y6 : Int64) (y8 : Int64) (x10 : Int32) (m : eM) : oX := X d 288 122 [.ref a0, .int x1, .int x2, .int x3, .int x4, .int x5, .long y6, eU, .long y8, eU, .int x10] [] m
noncomputable def Mo_sector (d : Nat) (a0 : Nat) (x1 : Int32) (x2 : Int32) (m : eM) : oX := X d 289 0 [.ref a0, .int x1, .int x2, eU, eU] [] m
noncomputable def Mo_sector_26 (d : Nat) (a0 : Nat) (x1 : Int32) (x2 : Int32) (x3 : Int32) (x4 : Int32) (m : eM) : oX := X d 289 26 [.ref a0, .int x1, .int x2, .int x3, .int x4] [] m
noncomputable def Mo_blind (d : Nat) (a0 : Nat) (x1 : Int32) (x2 : Int32) (m : eM) : oX := X d 290 0 [.ref a0, .int x1, .int x2, eU, eU, eU, eU, eU, eU, eU] [] m
noncomputable def Mo_blind_35 (d : Nat) (a0 : Nat) (x1 : Int32) (x2 : Int32) (x3 : Int32) (x4 : Int32) (x5 : Int32) (w6 : Value) (w7 : Value) (w8 : Value) (w9 : Value) (m : eM) : oX := X d 290 35 [.ref a0, .int x1, .int x2, .int x3, .int x4, .int x5, w6, w7, w8, w9] [] m
noncomputable def Mo_blind_55 (d : Nat) (a0 : Nat) (x1 : Int32) (x2 : Int32) (x3 : Int32) (x4 : Int32) (x5 : Int32) (x6 : Int32) (x7 : Int32) (w8 : Value) (w9 : Value) (m : eM) : oX := X d 290 55 [.ref a0, .int x1, .int x2, .int x3, .int x4, .int x5, .int x6, .int x7, w8, w9] [] m
noncomputable def Mo_blind_65 (d : Nat) (a0 : Nat) (x1 : Int32) (x2 : Int32) (x3 : Int32) (x4 : Int32) (x5 : Int32) (x6 : Int32) (x7 : Int32) (x8 : Int32) (w9 : Value) (m : eM) : oX := X d 290 65 [.ref a0, .int x1, .int x2, .int x3, .int x4, .int x5, .int x6, .int x7, .int x8, w9] [] m
noncomputable def Mo_blind_79 (d : Nat) (a0 : Nat) (x1 : Int32) (x2 : Int32) (x3 : Int32) (x4 : Int32) (x5 : Int32) (x6 : Int32) (x7 : Int32) (x8 : Int32) (x9 : Int32) (m : eM) : oX := X d 290 79 [.ref a0, .int x1, .int x2, .int x3, .int x4, .int x5, .int x6, .int x7, .int x8, .int x9] [] m
noncomputable def Mo_blind_175 (d : Nat) (a0 : Nat) (x1 : Int32) (x2 : Int32) (x3 : Int32) (x4 : Int32) (x5 : Int32) (x6 : Int32) (x7 : Int32) (w8 : Value) (w9 : Value) (m : eM) : oX := X d 290 175 [.ref a0, .int x1, .int x2, .int x3, .int x4, .int x5, .int x6, .int x7, w8, w9] [] m
noncomputable def Mo_told (d : Nat) (a0 : Nat) (x1 : Int32) (m : eM) : oX := X d 291 0 [.ref a0, .int x1] [] m
noncomputable def Mo_toldBy (d : Nat) (a0 : Nat) (x1 : Int32) (m : eM) : oX := X d 292 0 [.ref a0, .int x1, eU, eU, eU, eU, eU] [] m
noncomputable def Mo_toldBy_4 (d : Nat) (a0 : Nat) (x1 : Int32) (x2 : Int32) (x3 : Int32) (m : eM) : oX := X d 292 4 [.ref a0, .int x1, .int x2, .int x3, eU, eU, eU] [] m
noncomputable def Mo_toldBy_58 (d : Nat) (a0 : Nat) (x1 : Int32) (x2 : Int32) (y3 : Int64) (x5 : Int32) (x6 : Int32) (m : eM) : oX := X d 292 58 [.ref a0, .int x1, .int x2, .long y3, eU, .int x5, .int x6] [] m
noncomputable def Mo_fewest (d : Nat) (a0 : Nat) (x1 : Int32) (x2 : Int32) (m : eM) : oX := X d 293 0 [.ref a0, .int x1, .int x2, eU, eU] [] m
noncomputable def Mo_fewest_29 (d : Nat) (a0 : Nat) (x1 : Int32) (x2 : Int32) (x3 : Int32) (x4 : Int32) (m : eM) : oX := X d 293 29 [.ref a0, .int x1, .int x2, .int x3, .int x4] [] m
noncomputable def Mo_person (d : Nat) (a0 : Nat) (x1 : Int32) (x2 : Int32) (m : eM) : oX := X d 294 0 [.ref a0, .int x1, .int x2] [] m
noncomputable def Mo_lookout (d : Nat) (a0 : Nat) (x1 : Int32) (x2 : Int32) (x3 : Int32) (m : eM) : oX := X d 295 0 [.ref a0, .int x1, .int x2, .int x3, eU, eU, eU] [] m
noncomputable def Mo_lookout_57 (d : Nat) (a0 : Nat) (x1 : Int32) (x2 : Int32) (x3 : Int32) (y4 : Int64) (x6 : Int32) (m : eM) : oX := X d 295 57 [.ref a0, .int x1, .int x2, .int x3, .long y4, eU, .int x6] [] m
noncomputable def Mo_lookout_82 (d : Nat) (a0 : Nat) (x1 : Int32) (x2 : Int32) (x3 : Int32) (y4 : Int64) (x6 : Int32) (m : eM) : oX := X d 295 82 [.ref a0, .int x1, .int x2, .int x3, .long y4, eU, .int x6] [] m
noncomputable def Mo_turnsOut (d : Nat) (a0 : Nat) (x1 : Int32) (y2 : Int64) (m : eM) : oX := X d 296 0 [.ref a0, .int x1, .long y2, eU, eU, eU, eU] [] m
noncomputable def Mo_turnsOut_8 (d : Nat) (a0 : Nat) (x1 : Int32) (y2 : Int64) (x4 : Int32) (w5 : Value) (w6 : Value) (m : eM) : oX := X d 296 8 [.ref a0, .int x1, .long y2, eU, .int x4, w5, w6] [] m
noncomputable def Mo_turnsOut_64 (d : Nat) (a0 : Nat) (x1 : Int32) (y2 : Int64) (x4 : Int32) (x5 : Int32) (w6 : Value) (m : eM) : oX := X d 296 64 [.ref a0, .int x1, .long y2, eU, .int x4, .int x5, w6] [] m
noncomputable def Mo_turnsOut_92 (d : Nat) (a0 : Nat) (x1 : Int32) (y2 : Int64) (x4 : Int32) (x5 : Int32) (x6 : Int32) (m : eM) : oX := X d 296 92 [.ref a0, .int x1, .long y2, eU, .int x4, .int x5, .int x6] [] m
noncomputable def Mo_turnsIn (d : Nat) (a0 : Nat) (x1 : Int32) (x2 : Int32) (y3 : Int64) (m : eM) : oX := X d 297 0 [.ref a0, .int x1, .int x2, .long y3, eU, eU] [] m
noncomputable def Mo_turnsIn_3 (d : Nat) (a0 : Nat) (x1 : Int32) (x2 : Int32) (y3 : Int64) (x5 : Int32) (m : eM) : oX := X d 297 3 [.ref a0, .int x1, .int x2, .long y3, eU, .int x5] [] m
noncomputable def Mo_finds (d : Nat) (a0 : Nat) (x1 : Int32) (x2 : Int32) (x3 : Int32) (y4 : Int64) (m : eM) : oX := X d 298 0 [.ref a0, .int x1, .int x2, .int x3, .long y4, eU, eU] [] m
noncomputable def Mo_finds_34 (d : Nat) (a0 : Nat) (x1 : Int32) (x2 : Int32) (x3 : Int32) (y4 : Int64) (x6 : Int32) (m : eM) : oX := X d 298 34 [.ref a0, .int x1, .int x2, .int x3, .long y4, eU, .int x6] [] m
noncomputable def Mo_tells (d : Nat) (a0 : Nat) (x1 : Int32) (x2 : Int32) (y3 : Int64) (m : eM) : oX := X d 299 0 [.ref a0, .int x1, .int x2, .long y3, eU, eU, eU, eU, eU] [] m
noncomputable def Mo_tells_3 (d : Nat) (a0 : Nat) (x1 : Int32) (x2 : Int32) (y3 : Int64) (x5 : Int32) (w6 : Value) (w7 : Value) (w8 : Value) (m : eM) : oX := X d 299 3 [.ref a0, .int x1, .int x2, .long y3, eU, .int x5, w6, w7, w8] [] m
noncomputable def Mo_tells_19 (d : Nat) (a0 : Nat) (x1 : Int32) (x2 : Int32) (y3 : Int64) (x5 : Int32) (x6 : Int32) (w7 : Value) (w8 : Value) (m : eM) : oX := X d 299 19 [.ref a0, .int x1, .int x2, .long y3, eU, .int x5, .int x6, w7, w8] [] m
noncomputable def Mo_tells_65 (d : Nat) (a0 : Nat) (x1 : Int32) (x2 : Int32) (y3 : Int64) (x5 : Int32) (x6 : Int32) (x7 : Int32) (x8 : Int32) (m : eM) : oX := X d 299 65 [.ref a0, .int x1, .int x2, .long y3, eU, .int x5, .int x6, .int x7, .int x8] [] m
noncomputable def Mo_move (d : Nat) (a0 : Nat) (x1 : Int32) (x2 : Int32) (m : eM) : oX := X d 300 0 [.ref a0, .int x1, .int x2, eU, eU] [] m
noncomputable def Mo_move_30 (d : Nat) (a0 : Nat) (x1 : Int32) (x2 : Int32) (x3 : Int32) (w4 : Value) (m : eM) : oX := X d 300 30 [.ref a0, .int x1, .int x2, .int x3, w4] [] m
noncomputable def Mo_move_128 (d : Nat) (a0 : Nat) (x1 : Int32) (x2 : Int32) (x3 : Int32) (x4 : Int32) (b0 : Nat) (p1 : Int32) (q2 : Int64) (m : eM) : oX := X d 300 128 [.ref a0, .int x1, .int x2, .int x3, .int x4] [.long q2, .int p1, .ref b0] m
noncomputable def Mo_longest (d : Nat) (a0 : Nat) (x1 : Int32) (x2 : Int32) (x3 : Int32) (x4 : Int32) (m : eM) : oX := X d 301 0 [.ref a0, .int x1, .int x2, .int x3, .int x4, eU, eU, eU, eU, eU, eU] [] m
noncomputable def Mo_longest_47 (d : Nat) (a0 : Nat) (x1 : Int32) (x2 : Int32) (x3 : Int32) (x4 : Int32) (x5 : Int32) (x6 : Int32) (x7 : Int32) (x8 : Int32) (x9 : Int32) (w10 : Value) (m : eM) : oX := X d 301 47 [.ref a0, .int x1, .int x2, .int x3, .int x4, .int x5, .int x6, .int x7, .int x8, .int x9, w10] [] m
noncomputable def Mo_longest_90 (d : Nat) (a0 : Nat) (x1 : Int32) (x2 : Int32) (x3 : Int32) (x4 : Int32) (x5 : Int32) (x6 : Int32) (x7 : Int32) (x8 : Int32) (x9 : Int32) (x10 : Int32) (p0 : Int32) (m : eM) : oX := X d 301 90 [.ref a0, .int x1, .int x2, .int x3, .int x4, .int x5, .int x6, .int x7, .int x8, .int x9, .int x10] [.int p0] m
noncomputable def Mo_differ (d : Nat) (a0 : Nat) (x1 : Int32) (x2 : Int32) (m : eM) : oX := X d 302 0 [.ref a0, .int x1, .int x2, eU, eU] [] m
noncomputable def Mo_differ_36 (d : Nat) (a0 : Nat) (x1 : Int32) (x2 : Int32) (x3 : Int32) (x4 : Int32) (m : eM) : oX := X d 302 36 [.ref a0, .int x1, .int x2, .int x3, .int x4] [] m
noncomputable def Mo_mark (d : Nat) (a0 : Nat) (x1 : Int32) (x2 : Int32) (m : eM) : oX := X d 303 0 [.ref a0, .int x1, .int x2, eU] [] m
noncomputable def Mo_mark_29 (d : Nat) (a0 : Nat) (x1 : Int32) (x2 : Int32) (m : eM) : oX := X d 303 29 [.ref a0, .int x1, .int x2, eU] [] m
noncomputable def Mo_mark_121 (d : Nat) (a0 : Nat) (x1 : Int32) (x2 : Int32) (x3 : Int32) (m : eM) : oX := X d 303 121 [.ref a0, .int x1, .int x2, .int x3] [] m
noncomputable def Mo_mark_268 (d : Nat) (a0 : Nat) (x1 : Int32) (x2 : Int32) (x3 : Int32) (m : eM) : oX := X d 303 268 [.ref a0, .int x1, .int x2, .int x3] [] m
noncomputable def Mo_keepsRow (d : Nat) (a0 : Nat) (a1 : Nat) (x2 : Int32) (x3 : Int32) (m : eM) : oX := X d 304 0 [.ref a0, .ref a1, .int x2, .int x3, eU] [] m
noncomputable def Mo_keepsRow_3 (d : Nat) (a0 : Nat) (a1 : Nat) (x2 : Int32) (x3 : Int32) (x4 : Int32) (m : eM) : oX := X d 304 3 [.ref a0, .ref a1, .int x2, .int x3, .int x4] [] m
noncomputable def Mo_keeps (d : Nat) (a0 : Nat) (x1 : Int32) (x2 : Int32) (m : eM) : oX := X d 305 0 [.ref a0, .int x1, .int x2, eU] [] m
noncomputable def Mo_keepsLongs (d : Nat) (a0 : Nat) (a1 : Nat) (x2 : Int32) (x3 : Int32) (x4 : Int32) (m : eM) : oX := X d 306 0 [.ref a0, .ref a1, .int x2, .int x3, .int x4, eU] [] m
noncomputable def Mo_keepsLongs_3 (d : Nat) (a0 : Nat) (a1 : Nat) (x2 : Int32) (x3 : Int32) (x4 : Int32) (x5 : Int32) (m : eM) : oX := X d 306 3 [.ref a0, .ref a1, .int x2, .int x3, .int x4, .int x5] [] m
noncomputable def Mo_count (d : Nat) (a0 : Nat) (x1 : Int32) (m : eM) : oX := X d 307 0 [.ref a0, .int x1] [] m
noncomputable def La_law (d : Nat) (a0 : Nat) (m : eM) : oX := X d 309 0 [.ref a0, eU, eU, eU, eU, eU, eU, eU] [] m
noncomputable def La_law_23 (d : Nat) (a0 : Nat) (a1 : Nat) (a2 : Nat) (a3 : Nat) (x4 : Int32) (w5 : Value) (w6 : Value) (m : eM) : oX := X d 309 23 [.ref a0, .ref a1, .ref a2, .ref a3, .int x4, w5, w6, eU] [] m
noncomputable def La_law_204 (d : Nat) (a0 : Nat) (a1 : Nat) (a2 : Nat) (a3 : Nat) (x4 : Int32) (w5 : Value) (w6 : Value) (m : eM) : oX := X d 309 204 [.ref a0, .ref a1, .ref a2, .ref a3, .int x4, w5, w6, eU] [] m
noncomputable def La_law_351 (d : Nat) (a0 : Nat) (a1 : Nat) (a2 : Nat) (a3 : Nat) (x4 : Int32) (w5 : Value) (w6 : Value) (m : eM) : oX := X d 309 351 [.ref a0, .ref a1, .ref a2, .ref a3, .int x4, w5, w6, eU] [] m
noncomputable def La_law_364 (d : Nat) (a0 : Nat) (a1 : Nat) (a2 : Nat) (a3 : Nat) (x4 : Int32) (w5 : Value) (w6 : Value) (m : eM) : oX := X d 309 364 [.ref a0, .ref a1, .ref a2, .ref a3, .int x4, w5, w6, eU] [] m
noncomputable def La_law_401 (d : Nat) (a0 : Nat) (a1 : Nat) (a2 : Nat) (a3 : Nat) (x4 : Int32) (w5 : Value) (w6 : Value) (m : eM) : oX := X d 309 401 [.ref a0, .ref a1, .ref a2, .ref a3, .int x4, w5, w6, eU] [] m
noncomputable def La_law_438 (d : Nat) (a0 : Nat) (a1 : Nat) (a2 : Nat) (a3 : Nat) (x4 : Int32) (w5 : Value) (w6 : Value) (m : eM) : oX := X d 309 438 [.ref a0, .ref a1, .ref a2, .ref a3, .int x4, w5, w6, eU] [] m
noncomputable def La_law_463 (d : Nat) (a0 : Nat) (a1 : Nat) (a2 : Nat) (a3 : Nat) (x4 : Int32) (w5 : Value) (w6 : Value) (m : eM) : oX := X d 309 463 [.ref a0, .ref a1, .ref a2, .ref a3, .int x4, w5, w6, eU] [] m
noncomputable def La_law_524 (d : Nat) (a0 : Nat) (a1 : Nat) (a2 : Nat) (a3 : Nat) (x4 : Int32) (w5 : Value) (w6 : Value) (m : eM) : oX := X d 309 524 [.ref a0, .ref a1, .ref a2, .ref a3, .int x4, w5, w6, eU] [] m
noncomputable def La_law_561 (d : Nat) (a0 : Nat) (a1 : Nat) (a2 : Nat) (a3 : Nat) (x4 : Int32) (w5 : Value) (w6 : Value) (m : eM) : oX := X d 309 561 [.ref a0, .ref a1, .ref a2, .ref a3, .int x4, w5, w6, eU] [] m
noncomputable def La_law_586 (d : Nat) (a0 : Nat) (a1 : Nat) (a2 : Nat) (a3 : Nat) (x4 : Int32) (w5 : Value) (w6 : Value) (m : eM) : oX := X d 309 586 [.ref a0, .ref a1, .ref a2, .ref a3, .int x4, w5, w6, eU] [] m
noncomputable def La_law_623 (d : Nat) (a0 : Nat) (a1 : Nat) (a2 : Nat) (a3 : Nat) (x4 : Int32) (w5 : Value) (w6 : Value) (m : eM) : oX := X d 309 623 [.ref a0, .ref a1, .ref a2, .ref a3, .int x4, w5, w6, eU] [] m
noncomputable def La_law_672 (d : Nat) (a0 : Nat) (a1 : Nat) (a2 : Nat) (a3 : Nat) (x4 : Int32) (w5 : Value) (w6 : Value) (m : eM) : oX := X d 309 672 [.ref a0, .ref a1, .ref a2, .ref a3, .int x4, w5, w6, eU] [] m
noncomputable def La_law_697 (d : Nat) (a0 : Nat) (a1 : Nat) (a2 : Nat) (a3 : Nat) (x4 : Int32) (w5 : Value) (w6 : Value) (m : eM) : oX := X d 309 697 [.ref a0, .ref a1, .ref a2, .ref a3, .int x4, w5, w6, eU] [] m
noncomputable def La_law_722 (d : Nat) (a0 : Nat) (a1 : Nat) (a2 : Nat) (a3 : Nat) (x4 : Int32) (w5 : Value) (w6 : Value) (m : eM) : oX := X d 309 722 [.ref a0, .ref a1, .ref a2, .ref a3, .int x4, w5, w6, eU] [] m
noncomputable def La_law_747 (d : Nat) (a0 : Nat) (a1 : Nat) (a2 : Nat) (a3 : Nat) (x4 : Int32) (w5 : Value) (w6 : Value) (m : eM) : oX := X d 309 747 [.ref a0, .ref a1, .ref a2, .ref a3, .int x4, w5, w6, eU] [] m
noncomputable def La_law_785 (d : Nat) (a0 : Nat) (a1 : Nat) (a2 : Nat) (a3 : Nat) (x4 : Int32) (w5 : Value) (w6 : Value) (m : eM) : oX := X d 309 785 [.ref a0, .ref a1, .ref a2, .ref a3, .int x4, w5, w6, eU] [] m
noncomputable def La_law_822 (d : Nat) (a0 : Nat) (a1 : Nat) (a2 : Nat) (a3 : Nat) (x4 : Int32) (w5 : Value) (w6 : Value) (m : eM) : oX := X d 309 822 [.ref a0, .ref a1, .ref a2, .ref a3, .int x4, w5, w6, eU] [] m
noncomputable def La_law_847 (d : Nat) (a0 : Nat) (a1 : Nat) (a2 : Nat) (a3 : Nat) (x4 : Int32) (w5 : Value) (w6 : Value) (m : eM) : oX := X d 309 847 [.ref a0, .ref a1, .ref a2, .ref a3, .int x4, w5, w6, eU] [] m
noncomputable def La_law_908 (d : Nat) (a0 : Nat) (a1 : Nat) (a2 : Nat) (a3 : Nat) (x4 : Int32) (w5 : Value) (w6 : Value) (m : eM) : oX := X d 309 908 [.ref a0, .ref a1, .ref a2, .ref a3, .int x4, w5, w6, eU] [] m
noncomputable def La_law_969 (d : Nat) (a0 : Nat) (a1 : Nat) (a2 : Nat) (a3 : Nat) (x4 : Int32) (w5 : Value) (w6 : Value) (m : eM) : oX := X d 309 969 [.ref a0, .ref a1, .ref a2, .ref a3, .int x4, w5, w6, eU] [] m
noncomputable def La_law_996 (d : Nat) (a0 : Nat) (a1 : Nat) (a2 : Nat) (a3 : Nat) (x4 : Int32) (w5 : Value) (w6 : Value) (b0 : Nat) (p1 : Int32) (p2 : Int32) (p3 : Int32) (m : eM) : oX := X d 309 996 [.ref a0, .ref a1, .ref a2, .ref a3, .int x4, w5, w6, eU] [.int p3, .int p2, .int p1, .ref b0] m
noncomputable def La_law_1058 (d : Nat) (a0 : Nat) (a1 : Nat) (a2 : Nat) (a3 : Nat) (x4 : Int32) (w5 : Value) (w6 : Value) (m : eM) : oX := X d 309 1058 [.ref a0, .ref a1, .ref a2, .ref a3, .int x4, w5, w6, eU] [] m
noncomputable def La_law_1071 (d : Nat) (a0 : Nat) (a1 : Nat) (a2 : Nat) (a3 : Nat) (x4 : Int32) (w5 : Value) (w6 : Value) (m : eM) : oX := X d 309 1071 [.ref a0, .ref a1, .ref a2, .ref a3, .int x4, w5, w6, eU] [] m
noncomputable def La_law_1108 (d : Nat) (a0 : Nat) (a1 : Nat) (a2 : Nat) (a3 : Nat) (x4 : Int32) (w5 : Value) (w6 : Value) (m : eM) : oX := X d 309 1108 [.ref a0, .ref a1, .ref a2, .ref a3, .int x4, w5, w6, eU] [] m
noncomputable def La_law_1169 (d : Nat) (a0 : Nat) (a1 : Nat) (a2 : Nat) (a3 : Nat) (x4 : Int32) (w5 : Value) (w6 : Value) (m : eM) : oX := X d 309 1169 [.ref a0, .ref a1, .ref a2, .ref a3, .int x4, w5, w6, eU] [] m
noncomputable def La_law_1206 (d : Nat) (a0 : Nat) (a1 : Nat) (a2 : Nat) (a3 : Nat) (x4 : Int32) (w5 : Value) (w6 : Value) (m : eM) : oX := X d 309 1206 [.ref a0, .ref a1, .ref a2, .ref a3, .int x4, w5, w6, eU] [] m
noncomputable def La_law_1243 (d : Nat) (a0 : Nat) (a1 : Nat) (a2 : Nat) (a3 : Nat) (x4 : Int32) (w5 : Value) (w6 : Value) (m : eM) : oX := X d 309 1243 [.ref a0, .ref a1, .ref a2, .ref a3, .int x4, w5, w6, eU] [] m
noncomputable def La_law_1280 (d : Nat) (a0 : Nat) (a1 : Nat) (a2 : Nat) (a3 : Nat) (x4 : Int32) (w5 : Value) (w6 : Value) (m : eM) : oX := X d 309 1280 [.ref a0, .ref a1, .ref a2, .ref a3, .int x4, w5, w6, eU] [] m
noncomputable def La_law_1383 (d : Nat) (a0 : Nat) (a1 : Nat) (a2 : Nat) (a3 : Nat) (x4 : Int32) (w5 : Value) (w6 : Value) (m : eM) : oX := X d 309 1383 [.ref a0, .ref a1, .ref a2, .ref a3, .int x4, w5, w6, eU] [] m
noncomputable def La_law_1420 (d : Nat) (a0 : Nat) (a1 : Nat) (a2 : Nat) (a3 : Nat) (x4 : Int32) (w5 : Value) (w6 : Value) (m : eM) : oX := X d 309 1420 [.ref a0, .ref a1, .ref a2, .ref a3, .int x4, w5, w6, eU] [] m
noncomputable def La_law_1457 (d : Nat) (a0 : Nat) (a1 : Nat) (a2 : Nat) (a3 : Nat) (x4 : Int32) (w5 : Value) (w6 : Value) (m : eM) : oX := X d 309 1457 [.ref a0, .ref a1, .ref a2, .ref a3, .int x4, w5, w6, eU] [] m
noncomputable def La_law_1482 (d : Nat) (a0 : Nat) (a1 : Nat) (a2 : Nat) (a3 : Nat) (x4 : Int32) (w5 : Value) (w6 : Value) (m : eM) : oX := X d 309 1482 [.ref a0, .ref a1, .ref a2, .ref a3, .int x4, w5, w6, eU] [] m
noncomputable def La_law_1519 (d : Nat) (a0 : Nat) (a1 : Nat) (a2 : Nat) (a3 : Nat) (x4 : Int32) (w5 : Value) (w6 : Value) (m : eM) : oX := X d 309 1519 [.ref a0, .ref a1, .ref a2, .ref a3, .int x4, w5, w6, eU] [] m
noncomputable def La_law_1556 (d : Nat) (a0 : Nat) (a1 : Nat) (a2 : Nat) (a3 : Nat) (x4 : Int32) (w5 : Value) (w6 : Value) (m : eM) : oX := X d 309 1556 [.ref a0, .ref a1, .ref a2, .ref a3, .int x4, w5, w6, eU] [] m
noncomputable def La_law_1605 (d : Nat) (a0 : Nat) (a1 : Nat) (a2 : Nat) (a3 : Nat) (x4 : Int32) (w5 : Value) (w6 : Value) (m : eM) : oX := X d 309 1605 [.ref a0, .ref a1, .ref a2, .ref a3, .int x4, w5, w6, eU] [] m
noncomputable def La_law_1642 (d : Nat) (a0 : Nat) (a1 : Nat) (a2 : Nat) (a3 : Nat) (x4 : Int32) (w5 : Value) (w6 : Value) (m : eM) : oX := X d 309 1642 [.ref a0, .ref a1, .ref a2, .ref a3, .int x4, w5, w6, eU] [] m
noncomputable def La_law_1703 (d : Nat) (a0 : Nat) (a1 : Nat) (a2 : Nat) (a3 : Nat) (x4 : Int32) (w5 : Value) (w6 : Value) (m : eM) : oX := X d 309 1703 [.ref a0, .ref a1, .ref a2, .ref a3, .int x4, w5, w6, eU] [] m
noncomputable def La_law_1740 (d : Nat) (a0 : Nat) (a1 : Nat) (a2 : Nat) (a3 : Nat) (x4 : Int32) (w5 : Value) (w6 : Value) (m : eM) : oX := X d 309 1740 [.ref a0, .ref a1, .ref a2, .ref a3, .int x4, w5, w6, eU] [] m
noncomputable def La_law_1761 (d : Nat) (a0 : Nat) (a1 : Nat) (a2 : Nat) (a3 : Nat) (x4 : Int32) (w5 : Value) (w6 : Value) (b0 : Nat) (p1 : Int32) (p2 : Int32) (m : eM) : oX := X d 309 1761 [.ref a0, .ref a1, .ref a2, .ref a3, .int x4, w5, w6, eU] [.int p2, .int p1, .ref b0] m
noncomputable def La_law_1793 (d : Nat) (a0 : Nat) (a1 : Nat) (a2 : Nat) (a3 : Nat) (x4 : Int32) (w5 : Value) (w6 : Value) (m : eM) : oX := X d 309 1793 [.ref a0, .ref a1, .ref a2, .ref a3, .int x4, w5, w6, eU] [] m
noncomputable def La_law_1818 (d : Nat) (a0 : Nat) (a1 : Nat) (a2 : Nat) (a3 : Nat) (x4 : Int32) (w5 : Value) (w6 : Value) (m : eM) : oX := X d 309 1818 [.ref a0, .ref a1, .ref a2, .ref a3, .int x4, w5, w6, eU] [] m
noncomputable def La_secret (d : Nat) (a0 : Nat) (x1 x2 x3 x4 x5 : Int32) (a6 : Nat) (m : eM) : oX := X d 308 0 [.ref a0, .int x1, .int x2, .int x3, .int x4, .int x5, .ref a6] [] m
theorem M0 : MT 0 1 2 none 9 false true := ⟨by decide +kernel, by decide +kernel, by decide +kernel, by decide +kernel, by decide +kernel, by decide +kernel⟩
theorem I0 (a0 : Nat) : IA 2 [.ref a0] [.ref a0, eU] := in_ok (k := 1) (bs := [.ref a0]) rfl rfl rfl
theorem M1 : MT 1 1 1 none 8 false true := ⟨by decide +kernel, by decide +kernel, by decide +kernel, by decide +kernel, by decide +kernel, by decide +kernel⟩
theorem I1 (a0 : Nat) : IA 1 [.ref a0] [.ref a0] := in_ok (k := 0) (bs := [.ref a0]) rfl rfl rfl
theorem M2 : MT 2 1 1 none 2 false true := ⟨by decide +kernel, by decide +kernel, by decide +kernel, by decide +kernel, by decide +kernel, by decide +kernel⟩
theorem I2 (a0 : Nat) : IA 1 [.ref a0] [.ref a0] := in_ok (k := 0) (bs := [.ref a0]) rfl rfl rfl
theorem M3 : MT 3 1 1 none 6 false true := ⟨by decide +kernel, by decide +kernel, by decide +kernel, by decide +kernel, by decide +kernel, by decide +kernel⟩
theorem I3 (a0 : Nat) : IA 1 [.ref a0] [.ref a0] := in_ok (k := 0) (bs := [.ref a0]) rfl rfl rfl
theorem M4 : MT 4 1 1 none 4 false true := ⟨by decide +kernel, by decide +kernel, by decide +kernel, by decide +kernel, by decide +kernel, by decide +kernel⟩
theorem I4 (a0 : Nat) : IA 1 [.ref a0] [.ref a0] := in_ok (k := 0) (bs := [.ref a0]) rfl rfl rfl
theorem M5 : MT 5 1 1 none 7 false true := ⟨by decide +kernel, by decide +kernel, by decide +kernel, by decide +kernel, by decide +kernel, by decide +kernel⟩
theorem I5 (a0 : Nat) : IA 1 [.ref a0] [.ref a0] := in_ok (k := 0) (bs := [.ref a0]) rfl rfl rfl
theorem M6 : MT 6 1 1 none 3 false true := ⟨by decide +kernel, by decide +kernel, by decide +kernel, by decide +kernel, by decide +kernel, by decide +kernel⟩
theorem I6 (a0 : Nat) : IA 1 [.ref a0] [.ref a0] := in_ok (k := 0) (bs := [.ref a0]) rfl rfl rfl
theorem M7 : MT 7 1 1 none 0 false true := ⟨by decide +kernel, by decide +kernel, by decide +kernel, by decide +kernel, by decide +kernel, by decide +kernel⟩
theorem I7 (a0 : Nat) : IA 1 [.ref a0] [.ref a0] := in_ok (k := 0) (bs := [.ref a0]) rfl rfl rfl
theorem M8 : MT 8 1 1 none 1 false true := ⟨by decide +kernel, by decide +kernel, by decide +kernel, by decide +kernel, by decide +kernel, by decide +kernel⟩
theorem I8 (a0 : Nat) : IA 1 [.ref a0] [.ref a0] := in_ok (k := 0) (bs := [.ref a0]) rfl rfl rfl
theorem M9 : MT 9 1 1 none 5 false true := ⟨by decide +kernel, by decide +kernel, by decide +kernel, by decide +kernel, by decide +kernel, by decide +kernel⟩
theorem I9 (a0 : Nat) : IA 1 [.ref a0] [.ref a0] := in_ok (k := 0) (bs := [.ref a0]) rfl rfl rfl
theorem M10 : MT 10 4 7 (some .int) 9 false false := ⟨by decide +kernel, by decide +kernel, by decide +kernel, by decide +kernel, by decide +kernel, by decide +kernel⟩
theorem I10 (a0 : Nat) (y1 : Int64) (y2 : Int64) (y3 : Int64) : IA 7 [.ref a0, .long y1, .long y2, .long y3] [.ref a0, .long y1, eU, .long y2, eU, .long y3, eU] := in_ok (k := 0) (bs := [.ref a0, .long y1, eU, .long y2, eU, .long y3, eU]) rfl rfl rfl
theorem M11 : MT 11 2 6 none 8 false false := ⟨by decide +kernel, by decide +kernel, by decide +kernel, by decide +kernel, by decide +kernel, by decide +kernel⟩
theorem I11 (a0 : Nat) (y1 : Int64) : IA 6 [.ref a0, .long y1] [.ref a0, .long y1, eU, eU, eU, eU] := in_ok (k := 3) (bs := [.ref a0, .long y1, eU]) rfl rfl rfl
theorem M12 : MT 12 1 1 (some .int) 8 false false := ⟨by decide +kernel, by decide +kernel, by decide +kernel, by decide +kernel, by decide +kernel, by decide +kernel⟩
theorem I12 (a0 : Nat) : IA 1 [.ref a0] [.ref a0] := in_ok (k := 0) (bs := [.ref a0]) rfl rfl rfl
theorem M13 : MT 13 1 3 (some .int) 9 false false := ⟨by decide +kernel, by decide +kernel, by decide +kernel, by decide +kernel, by decide +kernel, by decide +kernel⟩
theorem I13 (a0 : Nat) : IA 3 [.ref a0] [.ref a0, eU, eU] := in_ok (k := 2) (bs := [.ref a0]) rfl rfl rfl
theorem M14 : MT 14 1 1 none 8 false false := ⟨by decide +kernel, by decide +kernel, by decide +kernel, by decide +kernel, by decide +kernel, by decide +kernel⟩
theorem I14 (a0 : Nat) : IA 1 [.ref a0] [.ref a0] := in_ok (k := 0) (bs := [.ref a0]) rfl rfl rfl
theorem M15 : MT 15 1 3 none 8 false false := ⟨by decide +kernel, by decide +kernel, by decide +kernel, by decide +kernel, by decide +kernel, by decide +kernel⟩
theorem I15 (a0 : Nat) : IA 3 [.ref a0] [.ref a0, eU, eU] := in_ok (k := 2) (bs := [.ref a0]) rfl rfl rfl
theorem M16 : MT 16 2 3 (some .int) 8 false false := ⟨by decide +kernel, by decide +kernel, by decide +kernel, by decide +kernel, by decide +kernel, by decide +kernel⟩
theorem I16 (a0 : Nat) (x1 : Int32) : IA 3 [.ref a0, .int x1] [.ref a0, .int x1, eU] := in_ok (k := 1) (bs := [.ref a0, .int x1]) rfl rfl rfl
theorem M17 : MT 17 3 4 (some .int) 8 false false := ⟨by decide +kernel, by decide +kernel, by decide +kernel, by decide +kernel, by decide +kernel, by decide +kernel⟩
theorem I17 (a0 : Nat) (x1 : Int32) (x2 : Int32) : IA 4 [.ref a0, .int x1, .int x2] [.ref a0, .int x1, .int x2, eU] := in_ok (k := 1) (bs := [.ref a0, .int x1, .int x2]) rfl rfl rfl
theorem M18 : MT 18 2 3 none 8 false false := ⟨by decide +kernel, by decide +kernel, by decide +kernel, by decide +kernel, by decide +kernel, by decide +kernel⟩
theorem I18 (a0 : Nat) (x1 : Int32) : IA 3 [.ref a0, .int x1] [.ref a0, .int x1, eU] := in_ok (k := 1) (bs := [.ref a0, .int x1]) rfl rfl rfl
theorem M19 : MT 19 2 3 none 8 false false := ⟨by decide +kernel, by decide +kernel, by decide +kernel, by decide +kernel, by decide +kernel, by decide +kernel⟩
theorem I19 (a0 : Nat) (x1 : Int32) : IA 3 [.ref a0, .int x1] [.ref a0, .int x1, eU] := in_ok (k := 1) (bs := [.ref a0, .int x1]) rfl rfl rfl
theorem M20 : MT 20 3 5 (some .boolean) 4 false false := ⟨by decide +kernel, by decide +kernel, by decide +kernel, by decide +kernel, by decide +kernel, by decide +kernel⟩
theorem I20 (a0 : Nat) (a1 : Nat) (a2 : Nat) : IA 5 [.ref a0, .ref a1, .ref a2] [.ref a0, .ref a1, .ref a2, eU, eU] := in_ok (k := 2) (bs := [.ref a0, .ref a1, .ref a2]) rfl rfl rfl
theorem M21 : MT 21 1 1 (some .int) 8 false false := ⟨by decide +kernel, by decide +kernel, by decide +kernel, by decide +kernel, by decide +kernel, by decide +kernel⟩
theorem I21 (a0 : Nat) : IA 1 [.ref a0] [.ref a0] := in_ok (k := 0) (bs := [.ref a0]) rfl rfl rfl
theorem M22 : MT 22 2 3 (some .boolean) 8 false false := ⟨by decide +kernel, by decide +kernel, by decide +kernel, by decide +kernel, by decide +kernel, by decide +kernel⟩
theorem I22 (a0 : Nat) (y1 : Int64) : IA 3 [.ref a0, .long y1] [.ref a0, .long y1, eU] := in_ok (k := 0) (bs := [.ref a0, .long y1, eU]) rfl rfl rfl
theorem M23 : MT 23 2 5 (some .boolean) 4 false false := ⟨by decide +kernel, by decide +kernel, by decide +kernel, by decide +kernel, by decide +kernel, by decide +kernel⟩
theorem I23 (a0 : Nat) (a1 : Nat) : IA 5 [.ref a0, .ref a1] [.ref a0, .ref a1, eU, eU, eU] := in_ok (k := 3) (bs := [.ref a0, .ref a1]) rfl rfl rfl
theorem M24 : MT 24 4 4 (some .boolean) 4 false false := ⟨by decide +kernel, by decide +kernel, by decide +kernel, by decide +kernel, by decide +kernel, by decide +kernel⟩
theorem I24 (a0 : Nat) (a1 : Nat) (x2 : Int32) (x3 : Int32) : IA 4 [.ref a0, .ref a1, .int x2, .int x3] [.ref a0, .ref a1, .int x2, .int x3] := in_ok (k := 0) (bs := [.ref a0, .ref a1, .int x2, .int x3]) rfl rfl rfl
theorem M25 : MT 25 2 2 (some .boolean) 8 false false := ⟨by decide +kernel, by decide +kernel, by decide +kernel, by decide +kernel, by decide +kernel, by decide +kernel⟩
theorem I25 (a0 : Nat) (x1 : Int32) : IA 2 [.ref a0, .int x1] [.ref a0, .int x1] := in_ok (k := 0) (bs := [.ref a0, .int x1]) rfl rfl rfl
theorem M26 : MT 26 1 6 (some .boolean) 8 false false := ⟨by decide +kernel, by decide +kernel, by decide +kernel, by decide +kernel, by decide +kernel, by decide +kernel⟩
theorem I26 (a0 : Nat) : IA 6 [.ref a0] [.ref a0, eU, eU, eU, eU, eU] := in_ok (k := 5) (bs := [.ref a0]) rfl rfl rfl
theorem M27 : MT 27 1 1 (some .long) 8 false false := ⟨by decide +kernel, by decide +kernel, by decide +kernel, by decide +kernel, by decide +kernel, by decide +kernel⟩
theorem I27 (a0 : Nat) : IA 1 [.ref a0] [.ref a0] := in_ok (k := 0) (bs := [.ref a0]) rfl rfl rfl
theorem M28 : MT 28 2 3 (some .boolean) 4 false false := ⟨by decide +kernel, by decide +kernel, by decide +kernel, by decide +kernel, by decide +kernel, by decide +kernel⟩
theorem I28 (a0 : Nat) (y1 : Int64) : IA 3 [.ref a0, .long y1] [.ref a0, .long y1, eU] := in_ok (k := 0) (bs := [.ref a0, .long y1, eU]) rfl rfl rfl
theorem M29 : MT 29 3 5 (some .int) 4 true false := ⟨by decide +kernel, by decide +kernel, by decide +kernel, by decide +kernel, by decide +kernel, by decide +kernel⟩
theorem I29 (a0 : Nat) (x1 : Int32) (y2 : Int64) : IA 5 [.ref a0, .int x1, .long y2] [.ref a0, .int x1, .long y2, eU, eU] := in_ok (k := 1) (bs := [.ref a0, .int x1, .long y2, eU]) rfl rfl rfl
theorem M30 : MT 30 2 2 (some .boolean) 8 false false := ⟨by decide +kernel, by decide +kernel, by decide +kernel, by decide +kernel, by decide +kernel, by decide +kernel⟩
theorem I30 (a0 : Nat) (x1 : Int32) : IA 2 [.ref a0, .int x1] [.ref a0, .int x1] := in_ok (k := 0) (bs := [.ref a0, .int x1]) rfl rfl rfl
theorem M31 : MT 31 1 1 (some .int) 8 false false := ⟨by decide +kernel, by decide +kernel, by decide +kernel, by decide +kernel, by decide +kernel, by decide +kernel⟩
theorem I31 (a0 : Nat) : IA 1 [.ref a0] [.ref a0] := in_ok (k := 0) (bs := [.ref a0]) rfl rfl rfl
theorem M32 : MT 32 2 2 (some .boolean) 8 false false := ⟨by decide +kernel, by decide +kernel, by decide +kernel, by decide +kernel, by decide +kernel, by decide +kernel⟩
theorem I32 (a0 : Nat) (x1 : Int32) : IA 2 [.ref a0, .int x1] [.ref a0, .int x1] := in_ok (k := 0) (bs := [.ref a0, .int x1]) rfl rfl rfl
theorem M33 : MT 33 2 2 (some .boolean) 8 false false := ⟨by decide +kernel, by decide +kernel, by decide +kernel, by decide +kernel, by decide +kernel, by decide +kernel⟩
theorem I33 (a0 : Nat) (x1 : Int32) : IA 2 [.ref a0, .int x1] [.ref a0, .int x1] := in_ok (k := 0) (bs := [.ref a0, .int x1]) rfl rfl rfl
theorem M34 : MT 34 3 4 none 4 false false := ⟨by decide +kernel, by decide +kernel, by decide +kernel, by decide +kernel, by decide +kernel, by decide +kernel⟩
theorem I34 (a0 : Nat) (y1 : Int64) (x2 : Int32) : IA 4 [.ref a0, .long y1, .int x2] [.ref a0, .long y1, eU, .int x2] := in_ok (k := 0) (bs := [.ref a0, .long y1, eU, .int x2]) rfl rfl rfl
theorem M35 : MT 35 2 5 (some .boolean) 4 false false := ⟨by decide +kernel, by decide +kernel, by decide +kernel, by decide +kernel, by decide +kernel, by decide +kernel⟩
theorem I35 (a0 : Nat) (a1 : Nat) : IA 5 [.ref a0, .ref a1] [.ref a0, .ref a1, eU, eU, eU] := in_ok (k := 3) (bs := [.ref a0, .ref a1]) rfl rfl rfl
theorem M36 : MT 36 2 3 (some .boolean) 8 false false := ⟨by decide +kernel, by decide +kernel, by decide +kernel, by decide +kernel, by decide +kernel, by decide +kernel⟩
theorem I36 (a0 : Nat) (y1 : Int64) : IA 3 [.ref a0, .long y1] [.ref a0, .long y1, eU] := in_ok (k := 0) (bs := [.ref a0, .long y1, eU]) rfl rfl rfl
theorem M37 : MT 37 3 4 none 4 false false := ⟨by decide +kernel, by decide +kernel, by decide +kernel, by decide +kernel, by decide +kernel, by decide +kernel⟩
theorem I37 (a0 : Nat) (y1 : Int64) (x2 : Int32) : IA 4 [.ref a0, .long y1, .int x2] [.ref a0, .long y1, eU, .int x2] := in_ok (k := 0) (bs := [.ref a0, .long y1, eU, .int x2]) rfl rfl rfl
theorem M38 : MT 38 2 8 (some .boolean) 4 false false := ⟨by decide +kernel, by decide +kernel, by decide +kernel, by decide +kernel, by decide +kernel, by decide +kernel⟩
theorem I38 (a0 : Nat) (a1 : Nat) : IA 8 [.ref a0, .ref a1] [.ref a0, .ref a1, eU, eU, eU, eU, eU, eU] := in_ok (k := 6) (bs := [.ref a0, .ref a1]) rfl rfl rfl
theorem M39 : MT 39 3 4 (some .int) 4 true false := ⟨by decide +kernel, by decide +kernel, by decide +kernel, by decide +kernel, by decide +kernel, by decide +kernel⟩
theorem I39 (a0 : Nat) (a1 : Nat) (x2 : Int32) : IA 4 [.ref a0, .ref a1, .int x2] [.ref a0, .ref a1, .int x2, eU] := in_ok (k := 1) (bs := [.ref a0, .ref a1, .int x2]) rfl rfl rfl
theorem M40 : MT 40 3 4 (some .int) 4 false false := ⟨by decide +kernel, by decide +kernel, by decide +kernel, by decide +kernel, by decide +kernel, by decide +kernel⟩
theorem I40 (a0 : Nat) (a1 : Nat) (x2 : Int32) : IA 4 [.ref a0, .ref a1, .int x2] [.ref a0, .ref a1, .int x2, eU] := in_ok (k := 1) (bs := [.ref a0, .ref a1, .int x2]) rfl rfl rfl
theorem M41 : MT 41 2 3 (some .int) 4 false false := ⟨by decide +kernel, by decide +kernel, by decide +kernel, by decide +kernel, by decide +kernel, by decide +kernel⟩
theorem I41 (a0 : Nat) (y1 : Int64) : IA 3 [.ref a0, .long y1] [.ref a0, .long y1, eU] := in_ok (k := 0) (bs := [.ref a0, .long y1, eU]) rfl rfl rfl
theorem M42 : MT 42 4 5 none 4 false false := ⟨by decide +kernel, by decide +kernel, by decide +kernel, by decide +kernel, by decide +kernel, by decide +kernel⟩
theorem I42 (a0 : Nat) (y1 : Int64) (x2 : Int32) (x3 : Int32) : IA 5 [.ref a0, .long y1, .int x2, .int x3] [.ref a0, .long y1, eU, .int x2, .int x3] := in_ok (k := 0) (bs := [.ref a0, .long y1, eU, .int x2, .int x3]) rfl rfl rfl
theorem M43 : MT 43 3 3 (some .boolean) 4 false false := ⟨by decide +kernel, by decide +kernel, by decide +kernel, by decide +kernel, by decide +kernel, by decide +kernel⟩
theorem I43 (a0 : Nat) (a1 : Nat) (a2 : Nat) : IA 3 [.ref a0, .ref a1, .ref a2] [.ref a0, .ref a1, .ref a2] := in_ok (k := 0) (bs := [.ref a0, .ref a1, .ref a2]) rfl rfl rfl
theorem M44 : MT 44 3 3 (some .boolean) 2 false false := ⟨by decide +kernel, by decide +kernel, by decide +kernel, by decide +kernel, by decide +kernel, by decide +kernel⟩
theorem I44 (a0 : Nat) (a1 : Nat) (a2 : Nat) : IA 3 [.ref a0, .ref a1, .ref a2] [.ref a0, .ref a1, .ref a2] := in_ok (k := 0) (bs := [.ref a0, .ref a1, .ref a2]) rfl rfl rfl
theorem M45 : MT 45 4 6 (some .boolean) 2 false false := ⟨by decide +kernel, by decide +kernel, by decide +kernel, by decide +kernel, by decide +kernel, by decide +kernel⟩
theorem I45 (a0 : Nat) (a1 : Nat) (a2 : Nat) (x3 : Int32) : IA 6 [.ref a0, .ref a1, .ref a2, .int x3] [.ref a0, .ref a1, .ref a2, .int x3, eU, eU] := in_ok (k := 2) (bs := [.ref a0, .ref a1, .ref a2, .int x3]) rfl rfl rfl
theorem M46 : MT 46 4 5 (some .boolean) 2 false false := ⟨by decide +kernel, by decide +kernel, by decide +kernel, by decide +kernel, by decide +kernel, by decide +kernel⟩
theorem I46 (a0 : Nat) (a1 : Nat) (a2 : Nat) (x3 : Int32) : IA 5 [.ref a0, .ref a1, .ref a2, .int x3] [.ref a0, .ref a1, .ref a2, .int x3, eU] := in_ok (k := 1) (bs := [.ref a0, .ref a1, .ref a2, .int x3]) rfl rfl rfl
theorem M47 : MT 47 4 6 (some .boolean) 2 false false := ⟨by decide +kernel, by decide +kernel, by decide +kernel, by decide +kernel, by decide +kernel, by decide +kernel⟩
theorem I47 (a0 : Nat) (a1 : Nat) (a2 : Nat) (x3 : Int32) : IA 6 [.ref a0, .ref a1, .ref a2, .int x3] [.ref a0, .ref a1, .ref a2, .int x3, eU, eU] := in_ok (k := 2) (bs := [.ref a0, .ref a1, .ref a2, .int x3]) rfl rfl rfl
theorem M48 : MT 48 4 5 (some .boolean) 2 false false := ⟨by decide +kernel, by decide +kernel, by decide +kernel, by decide +kernel, by decide +kernel, by decide +kernel⟩
theorem I48 (a0 : Nat) (a1 : Nat) (a2 : Nat) (x3 : Int32) : IA 5 [.ref a0, .ref a1, .ref a2, .int x3] [.ref a0, .ref a1, .ref a2, .int x3, eU] := in_ok (k := 1) (bs := [.ref a0, .ref a1, .ref a2, .int x3]) rfl rfl rfl
theorem M49 : MT 49 4 8 (some .boolean) 2 false false := ⟨by decide +kernel, by decide +kernel, by decide +kernel, by decide +kernel, by decide +kernel, by decide +kernel⟩
theorem I49 (a0 : Nat) (a1 : Nat) (a2 : Nat) (x3 : Int32) : IA 8 [.ref a0, .ref a1, .ref a2, .int x3] [.ref a0, .ref a1, .ref a2, .int x3, eU, eU, eU, eU] := in_ok (k := 4) (bs := [.ref a0, .ref a1, .ref a2, .int x3]) rfl rfl rfl
theorem M50 : MT 50 2 2 none 2 false false := ⟨by decide +kernel, by decide +kernel, by decide +kernel, by decide +kernel, by decide +kernel, by decide +kernel⟩
theorem I50 (a0 : Nat) (x1 : Int32) : IA 2 [.ref a0, .int x1] [.ref a0, .int x1] := in_ok (k := 0) (bs := [.ref a0, .int x1]) rfl rfl rfl
theorem M51 : MT 51 4 4 (some .boolean) 2 false false := ⟨by decide +kernel, by decide +kernel, by decide +kernel, by decide +kernel, by decide +kernel, by decide +kernel⟩
theorem I51 (a0 : Nat) (a1 : Nat) (a2 : Nat) (x3 : Int32) : IA 4 [.ref a0, .ref a1, .ref a2, .int x3] [.ref a0, .ref a1, .ref a2, .int x3] := in_ok (k := 0) (bs := [.ref a0, .ref a1, .ref a2, .int x3]) rfl rfl rfl
theorem M52 : MT 52 4 5 (some .boolean) 2 false false := ⟨by decide +kernel, by decide +kernel, by decide +kernel, by decide +kernel, by decide +kernel, by decide +kernel⟩
theorem I52 (a0 : Nat) (a1 : Nat) (a2 : Nat) (x3 : Int32) : IA 5 [.ref a0, .ref a1, .ref a2, .int x3] [.ref a0, .ref a1, .ref a2, .int x3, eU] := in_ok (k := 1) (bs := [.ref a0, .ref a1, .ref a2, .int x3]) rfl rfl rfl
theorem M53 : MT 53 2 5 (some .long) 2 false false := ⟨by decide +kernel, by decide +kernel, by decide +kernel, by decide +kernel, by decide +kernel, by decide +kernel⟩
theorem I53 (a0 : Nat) (x1 : Int32) : IA 5 [.ref a0, .int x1] [.ref a0, .int x1, eU, eU, eU] := in_ok (k := 3) (bs := [.ref a0, .int x1]) rfl rfl rfl
theorem M54 : MT 54 2 5 (some .int) 2 false false := ⟨by decide +kernel, by decide +kernel, by decide +kernel, by decide +kernel, by decide +kernel, by decide +kernel⟩
theorem I54 (a0 : Nat) (x1 : Int32) : IA 5 [.ref a0, .int x1] [.ref a0, .int x1, eU, eU, eU] := in_ok (k := 3) (bs := [.ref a0, .int x1]) rfl rfl rfl
theorem M55 : MT 55 2 2 none 2 false false := ⟨by decide +kernel, by decide +kernel, by decide +kernel, by decide +kernel, by decide +kernel, by decide +kernel⟩
theorem I55 (a0 : Nat) (x1 : Int32) : IA 2 [.ref a0, .int x1] [.ref a0, .int x1] := in_ok (k := 0) (bs := [.ref a0, .int x1]) rfl rfl rfl
theorem M56 : MT 56 1 1 (some .int) 2 false false := ⟨by decide +kernel, by decide +kernel, by decide +kernel, by decide +kernel, by decide +kernel, by decide +kernel⟩
theorem I56 (a0 : Nat) : IA 1 [.ref a0] [.ref a0] := in_ok (k := 0) (bs := [.ref a0]) rfl rfl rfl
theorem M57 : MT 57 3 3 (some .int) 2 true false := ⟨by decide +kernel, by decide +kernel, by decide +kernel, by decide +kernel, by decide +kernel, by decide +kernel⟩
theorem I57 (x0 : Int32) (x1 : Int32) (x2 : Int32) : IA 3 [.int x0, .int x1, .int x2] [.int x0, .int x1, .int x2] := in_ok (k := 0) (bs := [.int x0, .int x1, .int x2]) rfl rfl rfl
theorem M58 : MT 58 2 5 (some .boolean) 4 false false := ⟨by decide +kernel, by decide +kernel, by decide +kernel, by decide +kernel, by decide +kernel, by decide +kernel⟩
theorem I58 (a0 : Nat) (a1 : Nat) : IA 5 [.ref a0, .ref a1] [.ref a0, .ref a1, eU, eU, eU] := in_ok (k := 3) (bs := [.ref a0, .ref a1]) rfl rfl rfl
theorem M59 : MT 59 2 2 (some .boolean) 4 false false := ⟨by decide +kernel, by decide +kernel, by decide +kernel, by decide +kernel, by decide +kernel, by decide +kernel⟩
theorem I59 (a0 : Nat) (x1 : Int32) : IA 2 [.ref a0, .int x1] [.ref a0, .int x1] := in_ok (k := 0) (bs := [.ref a0, .int x1]) rfl rfl rfl
theorem M60 : MT 60 4 4 none 4 false false := ⟨by decide +kernel, by decide +kernel, by decide +kernel, by decide +kernel, by decide +kernel, by decide +kernel⟩
theorem I60 (a0 : Nat) (x1 : Int32) (x2 : Int32) (x3 : Int32) : IA 4 [.ref a0, .int x1, .int x2, .int x3] [.ref a0, .int x1, .int x2, .int x3] := in_ok (k := 0) (bs := [.ref a0, .int x1, .int x2, .int x3]) rfl rfl rfl
theorem M61 : MT 61 1 1 none 8 false false := ⟨by decide +kernel, by decide +kernel, by decide +kernel, by decide +kernel, by decide +kernel, by decide +kernel⟩
theorem I61 (a0 : Nat) : IA 1 [.ref a0] [.ref a0] := in_ok (k := 0) (bs := [.ref a0]) rfl rfl rfl
theorem M62 : MT 62 2 2 none 6 false false := ⟨by decide +kernel, by decide +kernel, by decide +kernel, by decide +kernel, by decide +kernel, by decide +kernel⟩
theorem I62 (a0 : Nat) (a1 : Nat) : IA 2 [.ref a0, .ref a1] [.ref a0, .ref a1] := in_ok (k := 0) (bs := [.ref a0, .ref a1]) rfl rfl rfl
theorem M63 : MT 63 1 1 none 7 false false := ⟨by decide +kernel, by decide +kernel, by decide +kernel, by decide +kernel, by decide +kernel, by decide +kernel⟩
theorem I63 (a0 : Nat) : IA 1 [.ref a0] [.ref a0] := in_ok (k := 0) (bs := [.ref a0]) rfl rfl rfl
theorem M64 : MT 64 1 1 none 3 false false := ⟨by decide +kernel, by decide +kernel, by decide +kernel, by decide +kernel, by decide +kernel, by decide +kernel⟩
theorem I64 (a0 : Nat) : IA 1 [.ref a0] [.ref a0] := in_ok (k := 0) (bs := [.ref a0]) rfl rfl rfl
theorem M65 : MT 65 1 1 (some .int) 8 false false := ⟨by decide +kernel, by decide +kernel, by decide +kernel, by decide +kernel, by decide +kernel, by decide +kernel⟩
theorem I65 (a0 : Nat) : IA 1 [.ref a0] [.ref a0] := in_ok (k := 0) (bs := [.ref a0]) rfl rfl rfl
theorem M66 : MT 66 3 4 (some .int) 9 false false := ⟨by decide +kernel, by decide +kernel, by decide +kernel, by decide +kernel, by decide +kernel, by decide +kernel⟩
theorem I66 (a0 : Nat) (x1 : Int32) (x2 : Int32) : IA 4 [.ref a0, .int x1, .int x2] [.ref a0, .int x1, .int x2, eU] := in_ok (k := 1) (bs := [.ref a0, .int x1, .int x2]) rfl rfl rfl
theorem M67 : MT 67 3 3 (some .boolean) 9 false false := ⟨by decide +kernel, by decide +kernel, by decide +kernel, by decide +kernel, by decide +kernel, by decide +kernel⟩
theorem I67 (a0 : Nat) (x1 : Int32) (x2 : Int32) : IA 3 [.ref a0, .int x1, .int x2] [.ref a0, .int x1, .int x2] := in_ok (k := 0) (bs := [.ref a0, .int x1, .int x2]) rfl rfl rfl
theorem M68 : MT 68 2 2 (some .boolean) 4 false false := ⟨by decide +kernel, by decide +kernel, by decide +kernel, by decide +kernel, by decide +kernel, by decide +kernel⟩
theorem I68 (a0 : Nat) (x1 : Int32) : IA 2 [.ref a0, .int x1] [.ref a0, .int x1] := in_ok (k := 0) (bs := [.ref a0, .int x1]) rfl rfl rfl
theorem M69 : MT 69 1 1 (some .boolean) 9 true false := ⟨by decide +kernel, by decide +kernel, by decide +kernel, by decide +kernel, by decide +kernel, by decide +kernel⟩
theorem I69 (x0 : Int32) : IA 1 [.int x0] [.int x0] := in_ok (k := 0) (bs := [.int x0]) rfl rfl rfl
theorem M70 : MT 70 1 1 (some .int) 7 false false := ⟨by decide +kernel, by decide +kernel, by decide +kernel, by decide +kernel, by decide +kernel, by decide +kernel⟩
theorem I70 (a0 : Nat) : IA 1 [.ref a0] [.ref a0] := in_ok (k := 0) (bs := [.ref a0]) rfl rfl rfl
theorem M71 : MT 71 1 1 (some .int) 7 false false := ⟨by decide +kernel, by decide +kernel, by decide +kernel, by decide +kernel, by decide +kernel, by decide +kernel⟩
theorem I71 (a0 : Nat) : IA 1 [.ref a0] [.ref a0] := in_ok (k := 0) (bs := [.ref a0]) rfl rfl rfl
theorem M72 : MT 72 2 2 (some .int) 7 false false := ⟨by decide +kernel, by decide +kernel, by decide +kernel, by decide +kernel, by decide +kernel, by decide +kernel⟩
theorem I72 (a0 : Nat) (x1 : Int32) : IA 2 [.ref a0, .int x1] [.ref a0, .int x1] := in_ok (k := 0) (bs := [.ref a0, .int x1]) rfl rfl rfl
theorem M73 : MT 73 2 2 (some .boolean) 7 false false := ⟨by decide +kernel, by decide +kernel, by decide +kernel, by decide +kernel, by decide +kernel, by decide +kernel⟩
theorem I73 (a0 : Nat) (x1 : Int32) : IA 2 [.ref a0, .int x1] [.ref a0, .int x1] := in_ok (k := 0) (bs := [.ref a0, .int x1]) rfl rfl rfl
theorem M74 : MT 74 4 4 (some .int) 9 false false := ⟨by decide +kernel, by decide +kernel, by decide +kernel, by decide +kernel, by decide +kernel, by decide +kernel⟩
theorem I74 (a0 : Nat) (a1 : Nat) (x2 : Int32) (x3 : Int32) : IA 4 [.ref a0, .ref a1, .int x2, .int x3] [.ref a0, .ref a1, .int x2, .int x3] := in_ok (k := 0) (bs := [.ref a0, .ref a1, .int x2, .int x3]) rfl rfl rfl
theorem M75 : MT 75 6 9 none 7 false false := ⟨by decide +kernel, by decide +kernel, by decide +kernel, by decide +kernel, by decide +kernel, by decide +kernel⟩
theorem I75 (a0 : Nat) (x1 : Int32) (x2 : Int32) (y3 : Int64) (y4 : Int64) (y5 : Int64) : IA 9 [.ref a0, .int x1, .int x2, .long y3, .long y4, .long y5] [.ref a0, .int x1, .int x2, .long y3, eU, .long y4, eU, .long y5, eU] := in_ok (k := 0) (bs := [.ref a0, .int x1, .int x2, .long y3, eU, .long y4, eU, .long y5, eU]) rfl rfl rfl
theorem M76 : MT 76 7 10 none 7 false false := ⟨by decide +kernel, by decide +kernel, by decide +kernel, by decide +kernel, by decide +kernel, by decide +kernel⟩
theorem I76 (a0 : Nat) (x1 : Int32) (x2 : Int32) (x3 : Int32) (y4 : Int64) (y5 : Int64) (y6 : Int64) : IA 10 [.ref a0, .int x1, .int x2, .int x3, .long y4, .long y5, .long y6] [.ref a0, .int x1, .int x2, .int x3, .long y4, eU, .long y5, eU, .long y6, eU] := in_ok (k := 0) (bs := [.ref a0, .int x1, .int x2, .int x3, .long y4, eU, .long y5, eU, .long y6, eU]) rfl rfl rfl
theorem M77 : MT 77 1 1 (some .boolean) 8 false false := ⟨by decide +kernel, by decide +kernel, by decide +kernel, by decide +kernel, by decide +kernel, by decide +kernel⟩
theorem I77 (a0 : Nat) : IA 1 [.ref a0] [.ref a0] := in_ok (k := 0) (bs := [.ref a0]) rfl rfl rfl
theorem M78 : MT 78 1 1 (some .int) 4 false false := ⟨by decide +kernel, by decide +kernel, by decide +kernel, by decide +kernel, by decide +kernel, by decide +kernel⟩
theorem I78 (a0 : Nat) : IA 1 [.ref a0] [.ref a0] := in_ok (k := 0) (bs := [.ref a0]) rfl rfl rfl
theorem M79 : MT 79 5 7 none 9 false false := ⟨by decide +kernel, by decide +kernel, by decide +kernel, by decide +kernel, by decide +kernel, by decide +kernel⟩
theorem I79 (a0 : Nat) (a1 : Nat) (x2 : Int32) (x3 : Int32) (y4 : Int64) : IA 7 [.ref a0, .ref a1, .int x2, .int x3, .long y4] [.ref a0, .ref a1, .int x2, .int x3, .long y4, eU, eU] := in_ok (k := 1) (bs := [.ref a0, .ref a1, .int x2, .int x3, .long y4, eU]) rfl rfl rfl
theorem M80 : MT 80 4 8 (some .long) 4 false false := ⟨by decide +kernel, by decide +kernel, by decide +kernel, by decide +kernel, by decide +kernel, by decide +kernel⟩
theorem I80 (a0 : Nat) (y1 : Int64) (x2 : Int32) (x3 : Int32) : IA 8 [.ref a0, .long y1, .int x2, .int x3] [.ref a0, .long y1, eU, .int x2, .int x3, eU, eU, eU] := in_ok (k := 3) (bs := [.ref a0, .long y1, eU, .int x2, .int x3]) rfl rfl rfl
theorem M81 : MT 81 1 1 (some .long) 4 false false := ⟨by decide +kernel, by decide +kernel, by decide +kernel, by decide +kernel, by decide +kernel, by decide +kernel⟩
theorem I81 (a0 : Nat) : IA 1 [.ref a0] [.ref a0] := in_ok (k := 0) (bs := [.ref a0]) rfl rfl rfl
theorem M82 : MT 82 2 2 (some .int) 4 false false := ⟨by decide +kernel, by decide +kernel, by decide +kernel, by decide +kernel, by decide +kernel, by decide +kernel⟩
theorem I82 (a0 : Nat) (x1 : Int32) : IA 2 [.ref a0, .int x1] [.ref a0, .int x1] := in_ok (k := 0) (bs := [.ref a0, .int x1]) rfl rfl rfl
theorem M83 : MT 83 2 4 (some .long) 4 true false := ⟨by decide +kernel, by decide +kernel, by decide +kernel, by decide +kernel, by decide +kernel, by decide +kernel⟩
theorem I83 (y0 : Int64) (x1 : Int32) : IA 4 [.long y0, .int x1] [.long y0, eU, .int x1, eU] := in_ok (k := 1) (bs := [.long y0, eU, .int x1]) rfl rfl rfl
theorem M84 : MT 84 1 1 (some .long) 9 true false := ⟨by decide +kernel, by decide +kernel, by decide +kernel, by decide +kernel, by decide +kernel, by decide +kernel⟩
theorem I84 (x0 : Int32) : IA 1 [.int x0] [.int x0] := in_ok (k := 0) (bs := [.int x0]) rfl rfl rfl
theorem M85 : MT 85 3 4 (some .int) 9 false false := ⟨by decide +kernel, by decide +kernel, by decide +kernel, by decide +kernel, by decide +kernel, by decide +kernel⟩
theorem I85 (a0 : Nat) (x1 : Int32) (x2 : Int32) : IA 4 [.ref a0, .int x1, .int x2] [.ref a0, .int x1, .int x2, eU] := in_ok (k := 1) (bs := [.ref a0, .int x1, .int x2]) rfl rfl rfl
theorem M86 : MT 86 2 2 (some .boolean) 9 false false := ⟨by decide +kernel, by decide +kernel, by decide +kernel, by decide +kernel, by decide +kernel, by decide +kernel⟩
theorem I86 (a0 : Nat) (x1 : Int32) : IA 2 [.ref a0, .int x1] [.ref a0, .int x1] := in_ok (k := 0) (bs := [.ref a0, .int x1]) rfl rfl rfl
theorem M87 : MT 87 2 2 (some .boolean) 4 false false := ⟨by decide +kernel, by decide +kernel, by decide +kernel, by decide +kernel, by decide +kernel, by decide +kernel⟩
theorem I87 (a0 : Nat) (x1 : Int32) : IA 2 [.ref a0, .int x1] [.ref a0, .int x1] := in_ok (k := 0) (bs := [.ref a0, .int x1]) rfl rfl rfl
theorem M88 : MT 88 5 5 (some .int) 9 false false := ⟨by decide +kernel, by decide +kernel, by decide +kernel, by decide +kernel, by decide +kernel, by decide +kernel⟩
theorem I88 (a0 : Nat) (x1 : Int32) (x2 : Int32) (x3 : Int32) (x4 : Int32) : IA 5 [.ref a0, .int x1, .int x2, .int x3, .int x4] [.ref a0, .int x1, .int x2, .int x3, .int x4] := in_ok (k := 0) (bs := [.ref a0, .int x1, .int x2, .int x3, .int x4]) rfl rfl rfl
theorem M89 : MT 89 2 2 (some .boolean) 4 false false := ⟨by decide +kernel, by decide +kernel, by decide +kernel, by decide +kernel, by decide +kernel, by decide +kernel⟩
theorem I89 (a0 : Nat) (x1 : Int32) : IA 2 [.ref a0, .int x1] [.ref a0, .int x1] := in_ok (k := 0) (bs := [.ref a0, .int x1]) rfl rfl rfl
theorem M90 : MT 90 1 1 (some .boolean) 9 true false := ⟨by decide +kernel, by decide +kernel, by decide +kernel, by decide +kernel, by decide +kernel, by decide +kernel⟩
theorem I90 (x0 : Int32) : IA 1 [.int x0] [.int x0] := in_ok (k := 0) (bs := [.int x0]) rfl rfl rfl
theorem M91 : MT 91 1 1 (some .int) 3 false false := ⟨by decide +kernel, by decide +kernel, by decide +kernel, by decide +kernel, by decide +kernel, by decide +kernel⟩
theorem I91 (a0 : Nat) : IA 1 [.ref a0] [.ref a0] := in_ok (k := 0) (bs := [.ref a0]) rfl rfl rfl
theorem M92 : MT 92 5 6 (some .int) 3 false false := ⟨by decide +kernel, by decide +kernel, by decide +kernel, by decide +kernel, by decide +kernel, by decide +kernel⟩
theorem I92 (a0 : Nat) (x1 : Int32) (x2 : Int32) (x3 : Int32) (x4 : Int32) : IA 6 [.ref a0, .int x1, .int x2, .int x3, .int x4] [.ref a0, .int x1, .int x2, .int x3, .int x4, eU] := in_ok (k := 1) (bs := [.ref a0, .int x1, .int x2, .int x3, .int x4]) rfl rfl rfl
theorem M93 : MT 93 3 3 (some .int) 9 false false := ⟨by decide +kernel, by decide +kernel, by decide +kernel, by decide +kernel, by decide +kernel, by decide +kernel⟩
theorem I93 (a0 : Nat) (x1 : Int32) (x2 : Int32) : IA 3 [.ref a0, .int x1, .int x2] [.ref a0, .int x1, .int x2] := in_ok (k := 0) (bs := [.ref a0, .int x1, .int x2]) rfl rfl rfl
theorem M94 : MT 94 2 2 (some .int) 9 false false := ⟨by decide +kernel, by decide +kernel, by decide +kernel, by decide +kernel, by decide +kernel, by decide +kernel⟩
theorem I94 (a0 : Nat) (x1 : Int32) : IA 2 [.ref a0, .int x1] [.ref a0, .int x1] := in_ok (k := 0) (bs := [.ref a0, .int x1]) rfl rfl rfl
theorem M95 : MT 95 1 1 (some .long) 4 false false := ⟨by decide +kernel, by decide +kernel, by decide +kernel, by decide +kernel, by decide +kernel, by decide +kernel⟩
theorem I95 (a0 : Nat) : IA 1 [.ref a0] [.ref a0] := in_ok (k := 0) (bs := [.ref a0]) rfl rfl rfl
theorem M96 : MT 96 2 3 (some .boolean) 9 true false := ⟨by decide +kernel, by decide +kernel, by decide +kernel, by decide +kernel, by decide +kernel, by decide +kernel⟩
theorem I96 (y0 : Int64) (x1 : Int32) : IA 3 [.long y0, .int x1] [.long y0, eU, .int x1] := in_ok (k := 0) (bs := [.long y0, eU, .int x1]) rfl rfl rfl
theorem M97 : MT 97 1 4 (some .long) 9 false false := ⟨by decide +kernel, by decide +kernel, by decide +kernel, by decide +kernel, by decide +kernel, by decide +kernel⟩
theorem I97 (a0 : Nat) : IA 4 [.ref a0] [.ref a0, eU, eU, eU] := in_ok (k := 3) (bs := [.ref a0]) rfl rfl rfl
theorem M98 : MT 98 2 3 (some .long) 9 false false := ⟨by decide +kernel, by decide +kernel, by decide +kernel, by decide +kernel, by decide +kernel, by decide +kernel⟩
theorem I98 (a0 : Nat) (x1 : Int32) : IA 3 [.ref a0, .int x1] [.ref a0, .int x1, eU] := in_ok (k := 1) (bs := [.ref a0, .int x1]) rfl rfl rfl
theorem M99 : MT 99 2 2 (some .int) 3 false false := ⟨by decide +kernel, by decide +kernel, by decide +kernel, by decide +kernel, by decide +kernel, by decide +kernel⟩
theorem I99 (a0 : Nat) (x1 : Int32) : IA 2 [.ref a0, .int x1] [.ref a0, .int x1] := in_ok (k := 0) (bs := [.ref a0, .int x1]) rfl rfl rfl
theorem M100 : MT 100 3 3 (some .boolean) 3 false false := ⟨by decide +kernel, by decide +kernel, by decide +kernel, by decide +kernel, by decide +kernel, by decide +kernel⟩
theorem I100 (a0 : Nat) (a1 : Nat) (x2 : Int32) : IA 3 [.ref a0, .ref a1, .int x2] [.ref a0, .ref a1, .int x2] := in_ok (k := 0) (bs := [.ref a0, .ref a1, .int x2]) rfl rfl rfl
theorem M101 : MT 101 2 2 (some .int) 3 false false := ⟨by decide +kernel, by decide +kernel, by decide +kernel, by decide +kernel, by decide +kernel, by decide +kernel⟩
theorem I101 (a0 : Nat) (x1 : Int32) : IA 2 [.ref a0, .int x1] [.ref a0, .int x1] := in_ok (k := 0) (bs := [.ref a0, .int x1]) rfl rfl rfl
theorem M102 : MT 102 6 13 none 0 false false := ⟨by decide +kernel, by decide +kernel, by decide +kernel, by decide +kernel, by decide +kernel, by decide +kernel⟩
theorem I102 (a0 : Nat) (a1 : Nat) (a2 : Nat) (x3 : Int32) (x4 : Int32) (y5 : Int64) : IA 13 [.ref a0, .ref a1, .ref a2, .int x3, .int x4, .long y5] [.ref a0, .ref a1, .ref a2, .int x3, .int x4, .long y5, eU, eU, eU, eU, eU, eU, eU] := in_ok (k := 6) (bs := [.ref a0, .ref a1, .ref a2, .int x3, .int x4, .long y5, eU]) rfl rfl rfl
theorem M103 : MT 103 2 2 (some .int) 4 false false := ⟨by decide +kernel, by decide +kernel, by decide +kernel, by decide +kernel, by decide +kernel, by decide +kernel⟩
theorem I103 (a0 : Nat) (x1 : Int32) : IA 2 [.ref a0, .int x1] [.ref a0, .int x1] := in_ok (k := 0) (bs := [.ref a0, .int x1]) rfl rfl rfl
theorem M104 : MT 104 2 2 (some .int) 4 false false := ⟨by decide +kernel, by decide +kernel, by decide +kernel, by decide +kernel, by decide +kernel, by decide +kernel⟩
theorem I104 (a0 : Nat) (x1 : Int32) : IA 2 [.ref a0, .int x1] [.ref a0, .int x1] := in_ok (k := 0) (bs := [.ref a0, .int x1]) rfl rfl rfl
theorem M105 : MT 105 3 3 (some .long) 7 false false := ⟨by decide +kernel, by decide +kernel, by decide +kernel, by decide +kernel, by decide +kernel, by decide +kernel⟩
theorem I105 (a0 : Nat) (x1 : Int32) (x2 : Int32) : IA 3 [.ref a0, .int x1, .int x2] [.ref a0, .int x1, .int x2] := in_ok (k := 0) (bs := [.ref a0, .int x1, .int x2]) rfl rfl rfl
theorem M106 : MT 106 2 2 (some .int) 7 false false := ⟨by decide +kernel, by decide +kernel, by decide +kernel, by decide +kernel, by decide +kernel, by decide +kernel⟩
theorem I106 (a0 : Nat) (x1 : Int32) : IA 2 [.ref a0, .int x1] [.ref a0, .int x1] := in_ok (k := 0) (bs := [.ref a0, .int x1]) rfl rfl rfl
theorem M107 : MT 107 3 4 none 0 true false := ⟨by decide +kernel, by decide +kernel, by decide +kernel, by decide +kernel, by decide +kernel, by decide +kernel⟩
theorem I107 (a0 : Nat) (x1 : Int32) (y2 : Int64) : IA 4 [.ref a0, .int x1, .long y2] [.ref a0, .int x1, .long y2, eU] := in_ok (k := 0) (bs := [.ref a0, .int x1, .long y2, eU]) rfl rfl rfl
theorem M108 : MT 108 2 4 none 0 false false := ⟨by decide +kernel, by decide +kernel, by decide +kernel, by decide +kernel, by decide +kernel, by decide +kernel⟩
theorem I108 (a0 : Nat) (a1 : Nat) : IA 4 [.ref a0, .ref a1] [.ref a0, .ref a1, eU, eU] := in_ok (k := 2) (bs := [.ref a0, .ref a1]) rfl rfl rfl
theorem M109 : MT 109 2 2 (some .int) 4 false false := ⟨by decide +kernel, by decide +kernel, by decide +kernel, by decide +kernel, by decide +kernel, by decide +kernel⟩
theorem I109 (a0 : Nat) (x1 : Int32) : IA 2 [.ref a0, .int x1] [.ref a0, .int x1] := in_ok (k := 0) (bs := [.ref a0, .int x1]) rfl rfl rfl
theorem M110 : MT 110 2 2 (some .int) 3 false false := ⟨by decide +kernel, by decide +kernel, by decide +kernel, by decide +kernel, by decide +kernel, by decide +kernel⟩
theorem I110 (a0 : Nat) (x1 : Int32) : IA 2 [.ref a0, .int x1] [.ref a0, .int x1] := in_ok (k := 0) (bs := [.ref a0, .int x1]) rfl rfl rfl
theorem M111 : MT 111 2 2 (some .int) 3 false false := ⟨by decide +kernel, by decide +kernel, by decide +kernel, by decide +kernel, by decide +kernel, by decide +kernel⟩
theorem I111 (a0 : Nat) (x1 : Int32) : IA 2 [.ref a0, .int x1] [.ref a0, .int x1] := in_ok (k := 0) (bs := [.ref a0, .int x1]) rfl rfl rfl
theorem M112 : MT 112 4 7 (some .long) 0 false false := ⟨by decide +kernel, by decide +kernel, by decide +kernel, by decide +kernel, by decide +kernel, by decide +kernel⟩
theorem I112 (a0 : Nat) (a1 : Nat) (x2 : Int32) (x3 : Int32) : IA 7 [.ref a0, .ref a1, .int x2, .int x3] [.ref a0, .ref a1, .int x2, .int x3, eU, eU, eU] := in_ok (k := 3) (bs := [.ref a0, .ref a1, .int x2, .int x3]) rfl rfl rfl
theorem M113 : MT 113 3 3 (some .boolean) 9 true false := ⟨by decide +kernel, by decide +kernel, by decide +kernel, by decide +kernel, by decide +kernel, by decide +kernel⟩
theorem I113 (x0 : Int32) (x1 : Int32) (x2 : Int32) : IA 3 [.int x0, .int x1, .int x2] [.int x0, .int x1, .int x2] := in_ok (k := 0) (bs := [.int x0, .int x1, .int x2]) rfl rfl rfl
theorem M114 : MT 114 3 4 (some .int) 9 false false := ⟨by decide +kernel, by decide +kernel, by decide +kernel, by decide +kernel, by decide +kernel, by decide +kernel⟩
theorem I114 (a0 : Nat) (x1 : Int32) (x2 : Int32) : IA 4 [.ref a0, .int x1, .int x2] [.ref a0, .int x1, .int x2, eU] := in_ok (k := 1) (bs := [.ref a0, .int x1, .int x2]) rfl rfl rfl
theorem M115 : MT 115 2 2 (some .long) 7 false false := ⟨by decide +kernel, by decide +kernel, by decide +kernel, by decide +kernel, by decide +kernel, by decide +kernel⟩
theorem I115 (a0 : Nat) (x1 : Int32) : IA 2 [.ref a0, .int x1] [.ref a0, .int x1] := in_ok (k := 0) (bs := [.ref a0, .int x1]) rfl rfl rfl
theorem M116 : MT 116 4 4 (some .int) 9 false false := ⟨by decide +kernel, by decide +kernel, by decide +kernel, by decide +kernel, by decide +kernel, by decide +kernel⟩
theorem I116 (a0 : Nat) (x1 : Int32) (x2 : Int32) (x3 : Int32) : IA 4 [.ref a0, .int x1, .int x2, .int x3] [.ref a0, .int x1, .int x2, .int x3] := in_ok (k := 0) (bs := [.ref a0, .int x1, .int x2, .int x3]) rfl rfl rfl
theorem M117 : MT 117 5 6 (some .int) 7 false false := ⟨by decide +kernel, by decide +kernel, by decide +kernel, by decide +kernel, by decide +kernel, by decide +kernel⟩
theorem I117 (a0 : Nat) (a1 : Nat) (x2 : Int32) (x3 : Int32) (x4 : Int32) : IA 6 [.ref a0, .ref a1, .int x2, .int x3, .int x4] [.ref a0, .ref a1, .int x2, .int x3, .int x4, eU] := in_ok (k := 1) (bs := [.ref a0, .ref a1, .int x2, .int x3, .int x4]) rfl rfl rfl
theorem M118 : MT 118 2 2 (some .int) 9 false false := ⟨by decide +kernel, by decide +kernel, by decide +kernel, by decide +kernel, by decide +kernel, by decide +kernel⟩
theorem I118 (a0 : Nat) (x1 : Int32) : IA 2 [.ref a0, .int x1] [.ref a0, .int x1] := in_ok (k := 0) (bs := [.ref a0, .int x1]) rfl rfl rfl
theorem M119 : MT 119 1 2 (some .int) 13 true false := ⟨by decide +kernel, by decide +kernel, by decide +kernel, by decide +kernel, by decide +kernel, by decide +kernel⟩
theorem I119 (y0 : Int64) : IA 2 [.long y0] [.long y0, eU] := in_ok (k := 0) (bs := [.long y0, eU]) rfl rfl rfl
theorem M120 : MT 120 2 2 (some .boolean) 4 false false := ⟨by decide +kernel, by decide +kernel, by decide +kernel, by decide +kernel, by decide +kernel, by decide +kernel⟩
theorem I120 (a0 : Nat) (x1 : Int32) : IA 2 [.ref a0, .int x1] [.ref a0, .int x1] := in_ok (k := 0) (bs := [.ref a0, .int x1]) rfl rfl rfl
theorem M121 : MT 121 2 2 (some .int) 9 false false := ⟨by decide +kernel, by decide +kernel, by decide +kernel, by decide +kernel, by decide +kernel, by decide +kernel⟩
theorem I121 (a0 : Nat) (x1 : Int32) : IA 2 [.ref a0, .int x1] [.ref a0, .int x1] := in_ok (k := 0) (bs := [.ref a0, .int x1]) rfl rfl rfl
theorem M122 : MT 122 2 4 (some .int) 9 true false := ⟨by decide +kernel, by decide +kernel, by decide +kernel, by decide +kernel, by decide +kernel, by decide +kernel⟩
theorem I122 (y0 : Int64) (y1 : Int64) : IA 4 [.long y0, .long y1] [.long y0, eU, .long y1, eU] := in_ok (k := 0) (bs := [.long y0, eU, .long y1, eU]) rfl rfl rfl
theorem M123 : MT 123 2 2 (some .int) 9 false false := ⟨by decide +kernel, by decide +kernel, by decide +kernel, by decide +kernel, by decide +kernel, by decide +kernel⟩
theorem I123 (a0 : Nat) (x1 : Int32) : IA 2 [.ref a0, .int x1] [.ref a0, .int x1] := in_ok (k := 0) (bs := [.ref a0, .int x1]) rfl rfl rfl
theorem M124 : MT 124 3 11 (some .long) 9 false false := ⟨by decide +kernel, by decide +kernel, by decide +kernel, by decide +kernel, by decide +kernel, by decide +kernel⟩
theorem I124 (a0 : Nat) (x1 : Int32) (x2 : Int32) : IA 11 [.ref a0, .int x1, .int x2] [.ref a0, .int x1, .int x2, eU, eU, eU, eU, eU, eU, eU, eU] := in_ok (k := 8) (bs := [.ref a0, .int x1, .int x2]) rfl rfl rfl
theorem M125 : MT 125 1 1 (some .boolean) 9 true false := ⟨by decide +kernel, by decide +kernel, by decide +kernel, by decide +kernel, by decide +kernel, by decide +kernel⟩
theorem I125 (x0 : Int32) : IA 1 [.int x0] [.int x0] := in_ok (k := 0) (bs := [.int x0]) rfl rfl rfl
theorem M126 : MT 126 2 6 (some .long) 4 false false := ⟨by decide +kernel, by decide +kernel, by decide +kernel, by decide +kernel, by decide +kernel, by decide +kernel⟩
theorem I126 (a0 : Nat) (y1 : Int64) : IA 6 [.ref a0, .long y1] [.ref a0, .long y1, eU, eU, eU, eU] := in_ok (k := 3) (bs := [.ref a0, .long y1, eU]) rfl rfl rfl
theorem M127 : MT 127 2 5 (some .long) 4 false false := ⟨by decide +kernel, by decide +kernel, by decide +kernel, by decide +kernel, by decide +kernel, by decide +kernel⟩
theorem I127 (a0 : Nat) (x1 : Int32) : IA 5 [.ref a0, .int x1] [.ref a0, .int x1, eU, eU, eU] := in_ok (k := 3) (bs := [.ref a0, .int x1]) rfl rfl rfl
theorem M128 : MT 128 2 11 (some .long) 9 true false := ⟨by decide +kernel, by decide +kernel, by decide +kernel, by decide +kernel, by decide +kernel, by decide +kernel⟩
theorem I128 (y0 : Int64) (y1 : Int64) : IA 11 [.long y0, .long y1] [.long y0, eU, .long y1, eU, eU, eU, eU, eU, eU, eU, eU] := in_ok (k := 7) (bs := [.long y0, eU, .long y1, eU]) rfl rfl rfl
theorem M129 : MT 129 3 6 (some .int) 9 false false := ⟨by decide +kernel, by decide +kernel, by decide +kernel, by decide +kernel, by decide +kernel, by decide +kernel⟩
theorem I129 (a0 : Nat) (x1 : Int32) (x2 : Int32) : IA 6 [.ref a0, .int x1, .int x2] [.ref a0, .int x1, .int x2, eU, eU, eU] := in_ok (k := 3) (bs := [.ref a0, .int x1, .int x2]) rfl rfl rfl
theorem M130 : MT 130 2 6 (some .int) 9 false false := ⟨by decide +kernel, by decide +kernel, by decide +kernel, by decide +kernel, by decide +kernel, by decide +kernel⟩
theorem I130 (a0 : Nat) (y1 : Int64) : IA 6 [.ref a0, .long y1] [.ref a0, .long y1, eU, eU, eU, eU] := in_ok (k := 3) (bs := [.ref a0, .long y1, eU]) rfl rfl rfl
theorem M131 : MT 131 2 4 (some .long) 9 false false := ⟨by decide +kernel, by decide +kernel, by decide +kernel, by decide +kernel, by decide +kernel, by decide +kernel⟩
theorem I131 (a0 : Nat) (x1 : Int32) : IA 4 [.ref a0, .int x1] [.ref a0, .int x1, eU, eU] := in_ok (k := 2) (bs := [.ref a0, .int x1]) rfl rfl rfl
theorem M132 : MT 132 1 2 (some .int) 12 true false := ⟨by decide +kernel, by decide +kernel, by decide +kernel, by decide +kernel, by decide +kernel, by decide +kernel⟩
theorem I132 (x0 : Int32) : IA 2 [.int x0] [.int x0, eU] := in_ok (k := 1) (bs := [.int x0]) rfl rfl rfl
theorem M133 : MT 133 2 2 (some .boolean) 9 true false := ⟨by decide +kernel, by decide +kernel, by decide +kernel, by decide +kernel, by decide +kernel, by decide +kernel⟩
theorem I133 (x0 : Int32) (x1 : Int32) : IA 2 [.int x0, .int x1] [.int x0, .int x1] := in_ok (k := 0) (bs := [.int x0, .int x1]) rfl rfl rfl
theorem M134 : MT 134 1 1 (some .int) 12 true false := ⟨by decide +kernel, by decide +kernel, by decide +kernel, by decide +kernel, by decide +kernel, by decide +kernel⟩
theorem I134 (x0 : Int32) : IA 1 [.int x0] [.int x0] := in_ok (k := 0) (bs := [.int x0]) rfl rfl rfl
theorem M135 : MT 135 2 2 (some .int) 9 true false := ⟨by decide +kernel, by decide +kernel, by decide +kernel, by decide +kernel, by decide +kernel, by decide +kernel⟩
theorem I135 (x0 : Int32) (x1 : Int32) : IA 2 [.int x0, .int x1] [.int x0, .int x1] := in_ok (k := 0) (bs := [.int x0, .int x1]) rfl rfl rfl
theorem M136 : MT 136 2 2 (some .int) 9 false false := ⟨by decide +kernel, by decide +kernel, by decide +kernel, by decide +kernel, by decide +kernel, by decide +kernel⟩
theorem I136 (a0 : Nat) (x1 : Int32) : IA 2 [.ref a0, .int x1] [.ref a0, .int x1] := in_ok (k := 0) (bs := [.ref a0, .int x1]) rfl rfl rfl
theorem M137 : MT 137 5 5 (some .int) 9 false false := ⟨by decide +kernel, by decide +kernel, by decide +kernel, by decide +kernel, by decide +kernel, by decide +kernel⟩
theorem I137 (a0 : Nat) (x1 : Int32) (x2 : Int32) (x3 : Int32) (x4 : Int32) : IA 5 [.ref a0, .int x1, .int x2, .int x3, .int x4] [.ref a0, .int x1, .int x2, .int x3, .int x4] := in_ok (k := 0) (bs := [.ref a0, .int x1, .int x2, .int x3, .int x4]) rfl rfl rfl
theorem M138 : MT 138 6 13 (some .int) 9 false false := ⟨by decide +kernel, by decide +kernel, by decide +kernel, by decide +kernel, by decide +kernel, by decide +kernel⟩
theorem I138 (a0 : Nat) (x1 : Int32) (x2 : Int32) (x3 : Int32) (x4 : Int32) (x5 : Int32) : IA 13 [.ref a0, .int x1, .int x2, .int x3, .int x4, .int x5] [.ref a0, .int x1, .int x2, .int x3, .int x4, .int x5, eU, eU, eU, eU, eU, eU, eU] := in_ok (k := 7) (bs := [.ref a0, .int x1, .int x2, .int x3, .int x4, .int x5]) rfl rfl rfl
theorem M139 : MT 139 2 2 (some .boolean) 9 true false := ⟨by decide +kernel, by decide +kernel, by decide +kernel, by decide +kernel, by decide +kernel, by decide +kernel⟩
theorem I139 (x0 : Int32) (x1 : Int32) : IA 2 [.int x0, .int x1] [.int x0, .int x1] := in_ok (k := 0) (bs := [.int x0, .int x1]) rfl rfl rfl
theorem M140 : MT 140 5 6 (some .int) 9 false false := ⟨by decide +kernel, by decide +kernel, by decide +kernel, by decide +kernel, by decide +kernel, by decide +kernel⟩
theorem I140 (a0 : Nat) (x1 : Int32) (x2 : Int32) (y3 : Int64) (x4 : Int32) : IA 6 [.ref a0, .int x1, .int x2, .long y3, .int x4] [.ref a0, .int x1, .int x2, .long y3, eU, .int x4] := in_ok (k := 0) (bs := [.ref a0, .int x1, .int x2, .long y3, eU, .int x4]) rfl rfl rfl
theorem M141 : MT 141 1 7 (some .int) 0 false false := ⟨by decide +kernel, by decide +kernel, by decide +kernel, by decide +kernel, by decide +kernel, by decide +kernel⟩
theorem I141 (a0 : Nat) : IA 7 [.ref a0] [.ref a0, eU, eU, eU, eU, eU, eU] := in_ok (k := 6) (bs := [.ref a0]) rfl rfl rfl
theorem M142 : MT 142 1 7 (some .int) 0 false false := ⟨by decide +kernel, by decide +kernel, by decide +kernel, by decide +kernel, by decide +kernel, by decide +kernel⟩
theorem I142 (a0 : Nat) : IA 7 [.ref a0] [.ref a0, eU, eU, eU, eU, eU, eU] := in_ok (k := 6) (bs := [.ref a0]) rfl rfl rfl
theorem M143 : MT 143 5 5 (some .int) 9 false false := ⟨by decide +kernel, by decide +kernel, by decide +kernel, by decide +kernel, by decide +kernel, by decide +kernel⟩
theorem I143 (a0 : Nat) (x1 : Int32) (x2 : Int32) (x3 : Int32) (x4 : Int32) : IA 5 [.ref a0, .int x1, .int x2, .int x3, .int x4] [.ref a0, .int x1, .int x2, .int x3, .int x4] := in_ok (k := 0) (bs := [.ref a0, .int x1, .int x2, .int x3, .int x4]) rfl rfl rfl
theorem M144 : MT 144 6 9 (some .int) 9 false false := ⟨by decide +kernel, by decide +kernel, by decide +kernel, by decide +kernel, by decide +kernel, by decide +kernel⟩
theorem I144 (a0 : Nat) (x1 : Int32) (x2 : Int32) (x3 : Int32) (x4 : Int32) (x5 : Int32) : IA 9 [.ref a0, .int x1, .int x2, .int x3, .int x4, .int x5] [.ref a0, .int x1, .int x2, .int x3, .int x4, .int x5, eU, eU, eU] := in_ok (k := 3) (bs := [.ref a0, .int x1, .int x2, .int x3, .int x4, .int x5]) rfl rfl rfl
theorem M145 : MT 145 3 6 (some .long) 4 false false := ⟨by decide +kernel, by decide +kernel, by decide +kernel, by decide +kernel, by decide +kernel, by decide +kernel⟩
theorem I145 (a0 : Nat) (x1 : Int32) (x2 : Int32) : IA 6 [.ref a0, .int x1, .int x2] [.ref a0, .int x1, .int x2, eU, eU, eU] := in_ok (k := 3) (bs := [.ref a0, .int x1, .int x2]) rfl rfl rfl
theorem M146 : MT 146 3 3 (some .long) 4 false false := ⟨by decide +kernel, by decide +kernel, by decide +kernel, by decide +kernel, by decide +kernel, by decide +kernel⟩
theorem I146 (a0 : Nat) (x1 : Int32) (x2 : Int32) : IA 3 [.ref a0, .int x1, .int x2] [.ref a0, .int x1, .int x2] := in_ok (k := 0) (bs := [.ref a0, .int x1, .int x2]) rfl rfl rfl
theorem M147 : MT 147 2 3 none 7 false false := ⟨by decide +kernel, by decide +kernel, by decide +kernel, by decide +kernel, by decide +kernel, by decide +kernel⟩
theorem I147 (a0 : Nat) (a1 : Nat) : IA 3 [.ref a0, .ref a1] [.ref a0, .ref a1, eU] := in_ok (k := 1) (bs := [.ref a0, .ref a1]) rfl rfl rfl
theorem M148 : MT 148 4 4 none 7 false false := ⟨by decide +kernel, by decide +kernel, by decide +kernel, by decide +kernel, by decide +kernel, by decide +kernel⟩
theorem I148 (a0 : Nat) (x1 : Int32) (a2 : Nat) (x3 : Int32) : IA 4 [.ref a0, .int x1, .ref a2, .int x3] [.ref a0, .int x1, .ref a2, .int x3] := in_ok (k := 0) (bs := [.ref a0, .int x1, .ref a2, .int x3]) rfl rfl rfl
theorem M149 : MT 149 2 8 (some .boolean) 0 false false := ⟨by decide +kernel, by decide +kernel, by decide +kernel, by decide +kernel, by decide +kernel, by decide +kernel⟩
theorem I149 (a0 : Nat) (y1 : Int64) : IA 8 [.ref a0, .long y1] [.ref a0, .long y1, eU, eU, eU, eU, eU, eU] := in_ok (k := 5) (bs := [.ref a0, .long y1, eU]) rfl rfl rfl
theorem M150 : MT 150 4 7 (some .int) 9 false false := ⟨by decide +kernel, by decide +kernel, by decide +kernel, by decide +kernel, by decide +kernel, by decide +kernel⟩
theorem I150 (a0 : Nat) (x1 : Int32) (x2 : Int32) (x3 : Int32) : IA 7 [.ref a0, .int x1, .int x2, .int x3] [.ref a0, .int x1, .int x2, .int x3, eU, eU, eU] := in_ok (k := 3) (bs := [.ref a0, .int x1, .int x2, .int x3]) rfl rfl rfl
theorem M151 : MT 151 5 8 none 5 false false := ⟨by decide +kernel, by decide +kernel, by decide +kernel, by decide +kernel, by decide +kernel, by decide +kernel⟩
theorem I151 (a0 : Nat) (a1 : Nat) (a2 : Nat) (x3 : Int32) (y4 : Int64) : IA 8 [.ref a0, .ref a1, .ref a2, .int x3, .long y4] [.ref a0, .ref a1, .ref a2, .int x3, .long y4, eU, eU, eU] := in_ok (k := 2) (bs := [.ref a0, .ref a1, .ref a2, .int x3, .long y4, eU]) rfl rfl rfl
theorem M152 : MT 152 3 5 none 5 false false := ⟨by decide +kernel, by decide +kernel, by decide +kernel, by decide +kernel, by decide +kernel, by decide +kernel⟩
theorem I152 (a0 : Nat) (a1 : Nat) (x2 : Int32) : IA 5 [.ref a0, .ref a1, .int x2] [.ref a0, .ref a1, .int x2, eU, eU] := in_ok (k := 2) (bs := [.ref a0, .ref a1, .int x2]) rfl rfl rfl
theorem M153 : MT 153 2 2 (some .long) 0 false false := ⟨by decide +kernel, by decide +kernel, by decide +kernel, by decide +kernel, by decide +kernel, by decide +kernel⟩
theorem I153 (a0 : Nat) (x1 : Int32) : IA 2 [.ref a0, .int x1] [.ref a0, .int x1] := in_ok (k := 0) (bs := [.ref a0, .int x1]) rfl rfl rfl
theorem M154 : MT 154 2 2 (some .long) 0 false false := ⟨by decide +kernel, by decide +kernel, by decide +kernel, by decide +kernel, by decide +kernel, by decide +kernel⟩
theorem I154 (a0 : Nat) (x1 : Int32) : IA 2 [.ref a0, .int x1] [.ref a0, .int x1] := in_ok (k := 0) (bs := [.ref a0, .int x1]) rfl rfl rfl
theorem M155 : MT 155 2 4 (some .int) 5 false false := ⟨by decide +kernel, by decide +kernel, by decide +kernel, by decide +kernel, by decide +kernel, by decide +kernel⟩
theorem I155 (a0 : Nat) (y1 : Int64) : IA 4 [.ref a0, .long y1] [.ref a0, .long y1, eU, eU] := in_ok (k := 1) (bs := [.ref a0, .long y1, eU]) rfl rfl rfl
theorem M156 : MT 156 4 5 (some .boolean) 5 false false := ⟨by decide +kernel, by decide +kernel, by decide +kernel, by decide +kernel, by decide +kernel, by decide +kernel⟩
theorem I156 (a0 : Nat) (x1 : Int32) (x2 : Int32) (x3 : Int32) : IA 5 [.ref a0, .int x1, .int x2, .int x3] [.ref a0, .int x1, .int x2, .int x3, eU] := in_ok (k := 1) (bs := [.ref a0, .int x1, .int x2, .int x3]) rfl rfl rfl
theorem M157 : MT 157 4 6 (some .boolean) 5 false false := ⟨by decide +kernel, by decide +kernel, by decide +kernel, by decide +kernel, by decide +kernel, by decide +kernel⟩
theorem I157 (a0 : Nat) (x1 : Int32) (x2 : Int32) (y3 : Int64) : IA 6 [.ref a0, .int x1, .int x2, .long y3] [.ref a0, .int x1, .int x2, .long y3, eU, eU] := in_ok (k := 1) (bs := [.ref a0, .int x1, .int x2, .long y3, eU]) rfl rfl rfl
theorem M158 : MT 158 2 2 (some .long) 5 false false := ⟨by decide +kernel, by decide +kernel, by decide +kernel, by decide +kernel, by decide +kernel, by decide +kernel⟩
theorem I158 (a0 : Nat) (x1 : Int32) : IA 2 [.ref a0, .int x1] [.ref a0, .int x1] := in_ok (k := 0) (bs := [.ref a0, .int x1]) rfl rfl rfl
theorem M159 : MT 159 2 3 (some .int) 5 false false := ⟨by decide +kernel, by decide +kernel, by decide +kernel, by decide +kernel, by decide +kernel, by decide +kernel⟩
theorem I159 (a0 : Nat) (x1 : Int32) : IA 3 [.ref a0, .int x1] [.ref a0, .int x1, eU] := in_ok (k := 1) (bs := [.ref a0, .int x1]) rfl rfl rfl
theorem M160 : MT 160 1 2 (some .int) 9 false false := ⟨by decide +kernel, by decide +kernel, by decide +kernel, by decide +kernel, by decide +kernel, by decide +kernel⟩
theorem I160 (a0 : Nat) : IA 2 [.ref a0] [.ref a0, eU] := in_ok (k := 1) (bs := [.ref a0]) rfl rfl rfl
theorem M161 : MT 161 3 3 (some .int) 9 false false := ⟨by decide +kernel, by decide +kernel, by decide +kernel, by decide +kernel, by decide +kernel, by decide +kernel⟩
theorem I161 (a0 : Nat) (x1 : Int32) (x2 : Int32) : IA 3 [.ref a0, .int x1, .int x2] [.ref a0, .int x1, .int x2] := in_ok (k := 0) (bs := [.ref a0, .int x1, .int x2]) rfl rfl rfl
theorem M162 : MT 162 3 6 none 1 false false := ⟨by decide +kernel, by decide +kernel, by decide +kernel, by decide +kernel, by decide +kernel, by decide +kernel⟩
theorem I162 (a0 : Nat) (a1 : Nat) (x2 : Int32) : IA 6 [.ref a0, .ref a1, .int x2] [.ref a0, .ref a1, .int x2, eU, eU, eU] := in_ok (k := 3) (bs := [.ref a0, .ref a1, .int x2]) rfl rfl rfl
theorem M163 : MT 163 3 3 none 1 false false := ⟨by decide +kernel, by decide +kernel, by decide +kernel, by decide +kernel, by decide +kernel, by decide +kernel⟩
theorem I163 (a0 : Nat) (x1 : Int32) (x2 : Int32) : IA 3 [.ref a0, .int x1, .int x2] [.ref a0, .int x1, .int x2] := in_ok (k := 0) (bs := [.ref a0, .int x1, .int x2]) rfl rfl rfl
theorem M164 : MT 164 2 2 (some .int) 1 false false := ⟨by decide +kernel, by decide +kernel, by decide +kernel, by decide +kernel, by decide +kernel, by decide +kernel⟩
theorem I164 (a0 : Nat) (x1 : Int32) : IA 2 [.ref a0, .int x1] [.ref a0, .int x1] := in_ok (k := 0) (bs := [.ref a0, .int x1]) rfl rfl rfl
theorem M165 : MT 165 2 4 (some .int) 1 false false := ⟨by decide +kernel, by decide +kernel, by decide +kernel, by decide +kernel, by decide +kernel, by decide +kernel⟩
theorem I165 (a0 : Nat) (x1 : Int32) : IA 4 [.ref a0, .int x1] [.ref a0, .int x1, eU, eU] := in_ok (k := 2) (bs := [.ref a0, .int x1]) rfl rfl rfl
theorem M166 : MT 166 2 2 (some .int) 1 false false := ⟨by decide +kernel, by decide +kernel, by decide +kernel, by decide +kernel, by decide +kernel, by decide +kernel⟩
theorem I166 (a0 : Nat) (x1 : Int32) : IA 2 [.ref a0, .int x1] [.ref a0, .int x1] := in_ok (k := 0) (bs := [.ref a0, .int x1]) rfl rfl rfl
theorem M167 : MT 167 5 5 (some .int) 9 false false := ⟨by decide +kernel, by decide +kernel, by decide +kernel, by decide +kernel, by decide +kernel, by decide +kernel⟩
theorem I167 (a0 : Nat) (x1 : Int32) (x2 : Int32) (x3 : Int32) (x4 : Int32) : IA 5 [.ref a0, .int x1, .int x2, .int x3, .int x4] [.ref a0, .int x1, .int x2, .int x3, .int x4] := in_ok (k := 0) (bs := [.ref a0, .int x1, .int x2, .int x3, .int x4]) rfl rfl rfl
theorem M168 : MT 168 4 6 (some .int) 1 false false := ⟨by decide +kernel, by decide +kernel, by decide +kernel, by decide +kernel, by decide +kernel, by decide +kernel⟩
theorem I168 (a0 : Nat) (x1 : Int32) (x2 : Int32) (x3 : Int32) : IA 6 [.ref a0, .int x1, .int x2, .int x3] [.ref a0, .int x1, .int x2, .int x3, eU, eU] := in_ok (k := 2) (bs := [.ref a0, .int x1, .int x2, .int x3]) rfl rfl rfl
theorem M169 : MT 169 4 4 (some .int) 1 false false := ⟨by decide +kernel, by decide +kernel, by decide +kernel, by decide +kernel, by decide +kernel, by decide +kernel⟩
theorem I169 (a0 : Nat) (x1 : Int32) (x2 : Int32) (x3 : Int32) : IA 4 [.ref a0, .int x1, .int x2, .int x3] [.ref a0, .int x1, .int x2, .int x3] := in_ok (k := 0) (bs := [.ref a0, .int x1, .int x2, .int x3]) rfl rfl rfl
theorem M170 : MT 170 3 3 (some .int) 9 false false := ⟨by decide +kernel, by decide +kernel, by decide +kernel, by decide +kernel, by decide +kernel, by decide +kernel⟩
theorem I170 (a0 : Nat) (x1 : Int32) (x2 : Int32) : IA 3 [.ref a0, .int x1, .int x2] [.ref a0, .int x1, .int x2] := in_ok (k := 0) (bs := [.ref a0, .int x1, .int x2]) rfl rfl rfl
theorem M171 : MT 171 3 6 (some .int) 1 false false := ⟨by decide +kernel, by decide +kernel, by decide +kernel, by decide +kernel, by decide +kernel, by decide +kernel⟩
theorem I171 (a0 : Nat) (a1 : Nat) (x2 : Int32) : IA 6 [.ref a0, .ref a1, .int x2] [.ref a0, .ref a1, .int x2, eU, eU, eU] := in_ok (k := 3) (bs := [.ref a0, .ref a1, .int x2]) rfl rfl rfl
theorem M172 : MT 172 2 3 (some .int) 9 true false := ⟨by decide +kernel, by decide +kernel, by decide +kernel, by decide +kernel, by decide +kernel, by decide +kernel⟩
theorem I172 (x0 : Int32) (x1 : Int32) : IA 3 [.int x0, .int x1] [.int x0, .int x1, eU] := in_ok (k := 1) (bs := [.int x0, .int x1]) rfl rfl rfl
theorem M173 : MT 173 5 6 (some .int) 9 false false := ⟨by decide +kernel, by decide +kernel, by decide +kernel, by decide +kernel, by decide +kernel, by decide +kernel⟩
theorem I173 (a0 : Nat) (x1 : Int32) (x2 : Int32) (x3 : Int32) (x4 : Int32) : IA 6 [.ref a0, .int x1, .int x2, .int x3, .int x4] [.ref a0, .int x1, .int x2, .int x3, .int x4, eU] := in_ok (k := 1) (bs := [.ref a0, .int x1, .int x2, .int x3, .int x4]) rfl rfl rfl
theorem M174 : MT 174 3 7 (some .int) 1 false false := ⟨by decide +kernel, by decide +kernel, by decide +kernel, by decide +kernel, by decide +kernel, by decide +kernel⟩
theorem I174 (a0 : Nat) (x1 : Int32) (x2 : Int32) : IA 7 [.ref a0, .int x1, .int x2] [.ref a0, .int x1, .int x2, eU, eU, eU, eU] := in_ok (k := 4) (bs := [.ref a0, .int x1, .int x2]) rfl rfl rfl
theorem M175 : MT 175 3 3 (some .int) 9 false false := ⟨by decide +kernel, by decide +kernel, by decide +kernel, by decide +kernel, by decide +kernel, by decide +kernel⟩
theorem I175 (a0 : Nat) (x1 : Int32) (x2 : Int32) : IA 3 [.ref a0, .int x1, .int x2] [.ref a0, .int x1, .int x2] := in_ok (k := 0) (bs := [.ref a0, .int x1, .int x2]) rfl rfl rfl
theorem M176 : MT 176 4 9 (some .int) 1 false false := ⟨by decide +kernel, by decide +kernel, by decide +kernel, by decide +kernel, by decide +kernel, by decide +kernel⟩
theorem I176 (a0 : Nat) (a1 : Nat) (x2 : Int32) (x3 : Int32) : IA 9 [.ref a0, .ref a1, .int x2, .int x3] [.ref a0, .ref a1, .int x2, .int x3, eU, eU, eU, eU, eU] := in_ok (k := 5) (bs := [.ref a0, .ref a1, .int x2, .int x3]) rfl rfl rfl
theorem M177 : MT 177 3 6 (some .int) 9 false false := ⟨by decide +kernel, by decide +kernel, by decide +kernel, by decide +kernel, by decide +kernel, by decide +kernel⟩
theorem I177 (a0 : Nat) (x1 : Int32) (x2 : Int32) : IA 6 [.ref a0, .int x1, .int x2] [.ref a0, .int x1, .int x2, eU, eU, eU] := in_ok (k := 3) (bs := [.ref a0, .int x1, .int x2]) rfl rfl rfl
theorem M178 : MT 178 1 1 (some .int) 4 false false := ⟨by decide +kernel, by decide +kernel, by decide +kernel, by decide +kernel, by decide +kernel, by decide +kernel⟩
theorem I178 (a0 : Nat) : IA 1 [.ref a0] [.ref a0] := in_ok (k := 0) (bs := [.ref a0]) rfl rfl rfl
theorem M179 : MT 179 3 6 (some .int) 9 false false := ⟨by decide +kernel, by decide +kernel, by decide +kernel, by decide +kernel, by decide +kernel, by decide +kernel⟩
theorem I179 (a0 : Nat) (x1 : Int32) (x2 : Int32) : IA 6 [.ref a0, .int x1, .int x2] [.ref a0, .int x1, .int x2, eU, eU, eU] := in_ok (k := 3) (bs := [.ref a0, .int x1, .int x2]) rfl rfl rfl
theorem M180 : MT 180 3 3 (some .int) 9 false false := ⟨by decide +kernel, by decide +kernel, by decide +kernel, by decide +kernel, by decide +kernel, by decide +kernel⟩
theorem I180 (a0 : Nat) (x1 : Int32) (x2 : Int32) : IA 3 [.ref a0, .int x1, .int x2] [.ref a0, .int x1, .int x2] := in_ok (k := 0) (bs := [.ref a0, .int x1, .int x2]) rfl rfl rfl
theorem M181 : MT 181 2 2 (some .boolean) 9 false false := ⟨by decide +kernel, by decide +kernel, by decide +kernel, by decide +kernel, by decide +kernel, by decide +kernel⟩
theorem I181 (a0 : Nat) (x1 : Int32) : IA 2 [.ref a0, .int x1] [.ref a0, .int x1] := in_ok (k := 0) (bs := [.ref a0, .int x1]) rfl rfl rfl
theorem M182 : MT 182 2 2 (some .boolean) 9 true false := ⟨by decide +kernel, by decide +kernel, by decide +kernel, by decide +kernel, by decide +kernel, by decide +kernel⟩
theorem I182 (x0 : Int32) (x1 : Int32) : IA 2 [.int x0, .int x1] [.int x0, .int x1] := in_ok (k := 0) (bs := [.int x0, .int x1]) rfl rfl rfl
theorem M183 : MT 183 3 6 (some .boolean) 9 false false := ⟨by decide +kernel, by decide +kernel, by decide +kernel, by decide +kernel, by decide +kernel, by decide +kernel⟩
theorem I183 (a0 : Nat) (x1 : Int32) (x2 : Int32) : IA 6 [.ref a0, .int x1, .int x2] [.ref a0, .int x1, .int x2, eU, eU, eU] := in_ok (k := 3) (bs := [.ref a0, .int x1, .int x2]) rfl rfl rfl
theorem M184 : MT 184 3 4 none 7 false false := ⟨by decide +kernel, by decide +kernel, by decide +kernel, by decide +kernel, by decide +kernel, by decide +kernel⟩
theorem I184 (a0 : Nat) (a1 : Nat) (x2 : Int32) : IA 4 [.ref a0, .ref a1, .int x2] [.ref a0, .ref a1, .int x2, eU] := in_ok (k := 1) (bs := [.ref a0, .ref a1, .int x2]) rfl rfl rfl
theorem M185 : MT 185 2 7 (some .long) 0 false false := ⟨by decide +kernel, by decide +kernel, by decide +kernel, by decide +kernel, by decide +kernel, by decide +kernel⟩
theorem I185 (a0 : Nat) (x1 : Int32) : IA 7 [.ref a0, .int x1] [.ref a0, .int x1, eU, eU, eU, eU, eU] := in_ok (k := 5) (bs := [.ref a0, .int x1]) rfl rfl rfl
theorem M186 : MT 186 3 5 (some .int) 9 false false := ⟨by decide +kernel, by decide +kernel, by decide +kernel, by decide +kernel, by decide +kernel, by decide +kernel⟩
theorem I186 (a0 : Nat) (x1 : Int32) (x2 : Int32) : IA 5 [.ref a0, .int x1, .int x2] [.ref a0, .int x1, .int x2, eU, eU] := in_ok (k := 2) (bs := [.ref a0, .int x1, .int x2]) rfl rfl rfl
theorem M187 : MT 187 3 5 (some .int) 9 false false := ⟨by decide +kernel, by decide +kernel, by decide +kernel, by decide +kernel, by decide +kernel, by decide +kernel⟩
theorem I187 (a0 : Nat) (x1 : Int32) (x2 : Int32) : IA 5 [.ref a0, .int x1, .int x2] [.ref a0, .int x1, .int x2, eU, eU] := in_ok (k := 2) (bs := [.ref a0, .int x1, .int x2]) rfl rfl rfl
theorem M188 : MT 188 3 6 (some .int) 9 false false := ⟨by decide +kernel, by decide +kernel, by decide +kernel, by decide +kernel, by decide +kernel, by decide +kernel⟩
theorem I188 (a0 : Nat) (x1 : Int32) (x2 : Int32) : IA 6 [.ref a0, .int x1, .int x2] [.ref a0, .int x1, .int x2, eU, eU, eU] := in_ok (k := 3) (bs := [.ref a0, .int x1, .int x2]) rfl rfl rfl
theorem M189 : MT 189 3 7 (some .int) 4 false false := ⟨by decide +kernel, by decide +kernel, by decide +kernel, by decide +kernel, by decide +kernel, by decide +kernel⟩
theorem I189 (a0 : Nat) (x1 : Int32) (x2 : Int32) : IA 7 [.ref a0, .int x1, .int x2] [.ref a0, .int x1, .int x2, eU, eU, eU, eU] := in_ok (k := 4) (bs := [.ref a0, .int x1, .int x2]) rfl rfl rfl
theorem M190 : MT 190 3 5 (some .int) 9 false false := ⟨by decide +kernel, by decide +kernel, by decide +kernel, by decide +kernel, by decide +kernel, by decide +kernel⟩
theorem I190 (a0 : Nat) (x1 : Int32) (x2 : Int32) : IA 5 [.ref a0, .int x1, .int x2] [.ref a0, .int x1, .int x2, eU, eU] := in_ok (k := 2) (bs := [.ref a0, .int x1, .int x2]) rfl rfl rfl
theorem M191 : MT 191 2 2 (some .int) 9 false false := ⟨by decide +kernel, by decide +kernel, by decide +kernel, by decide +kernel, by decide +kernel, by decide +kernel⟩
theorem I191 (a0 : Nat) (x1 : Int32) : IA 2 [.ref a0, .int x1] [.ref a0, .int x1] := in_ok (k := 0) (bs := [.ref a0, .int x1]) rfl rfl rfl
theorem M192 : MT 192 3 8 (some .int) 4 false false := ⟨by decide +kernel, by decide +kernel, by decide +kernel, by decide +kernel, by decide +kernel, by decide +kernel⟩
theorem I192 (a0 : Nat) (x1 : Int32) (x2 : Int32) : IA 8 [.ref a0, .int x1, .int x2] [.ref a0, .int x1, .int x2, eU, eU, eU, eU, eU] := in_ok (k := 5) (bs := [.ref a0, .int x1, .int x2]) rfl rfl rfl
theorem M193 : MT 193 3 5 (some .int) 9 false false := ⟨by decide +kernel, by decide +kernel, by decide +kernel, by decide +kernel, by decide +kernel, by decide +kernel⟩
theorem I193 (a0 : Nat) (x1 : Int32) (x2 : Int32) : IA 5 [.ref a0, .int x1, .int x2] [.ref a0, .int x1, .int x2, eU, eU] := in_ok (k := 2) (bs := [.ref a0, .int x1, .int x2]) rfl rfl rfl
theorem M194 : MT 194 3 3 (some .int) 9 false false := ⟨by decide +kernel, by decide +kernel, by decide +kernel, by decide +kernel, by decide +kernel, by decide +kernel⟩
theorem I194 (a0 : Nat) (x1 : Int32) (x2 : Int32) : IA 3 [.ref a0, .int x1, .int x2] [.ref a0, .int x1, .int x2] := in_ok (k := 0) (bs := [.ref a0, .int x1, .int x2]) rfl rfl rfl
theorem M195 : MT 195 2 2 (some .int) 4 false false := ⟨by decide +kernel, by decide +kernel, by decide +kernel, by decide +kernel, by decide +kernel, by decide +kernel⟩
theorem I195 (a0 : Nat) (x1 : Int32) : IA 2 [.ref a0, .int x1] [.ref a0, .int x1] := in_ok (k := 0) (bs := [.ref a0, .int x1]) rfl rfl rfl
theorem M196 : MT 196 3 3 (some .boolean) 9 false false := ⟨by decide +kernel, by decide +kernel, by decide +kernel, by decide +kernel, by decide +kernel, by decide +kernel⟩
theorem I196 (a0 : Nat) (x1 : Int32) (x2 : Int32) : IA 3 [.ref a0, .int x1, .int x2] [.ref a0, .int x1, .int x2] := in_ok (k := 0) (bs := [.ref a0, .int x1, .int x2]) rfl rfl rfl
theorem M197 : MT 197 2 2 none 6 false false := ⟨by decide +kernel, by decide +kernel, by decide +kernel, by decide +kernel, by decide +kernel, by decide +kernel⟩
theorem I197 (a0 : Nat) (a1 : Nat) : IA 2 [.ref a0, .ref a1] [.ref a0, .ref a1] := in_ok (k := 0) (bs := [.ref a0, .ref a1]) rfl rfl rfl
theorem M198 : MT 198 2 3 none 3 false false := ⟨by decide +kernel, by decide +kernel, by decide +kernel, by decide +kernel, by decide +kernel, by decide +kernel⟩
theorem I198 (a0 : Nat) (a1 : Nat) : IA 3 [.ref a0, .ref a1] [.ref a0, .ref a1, eU] := in_ok (k := 1) (bs := [.ref a0, .ref a1]) rfl rfl rfl
theorem M199 : MT 199 2 2 (some .int) 9 false false := ⟨by decide +kernel, by decide +kernel, by decide +kernel, by decide +kernel, by decide +kernel, by decide +kernel⟩
theorem I199 (a0 : Nat) (x1 : Int32) : IA 2 [.ref a0, .int x1] [.ref a0, .int x1] := in_ok (k := 0) (bs := [.ref a0, .int x1]) rfl rfl rfl
theorem M200 : MT 200 1 1 (some .int) 4 false false := ⟨by decide +kernel, by decide +kernel, by decide +kernel, by decide +kernel, by decide +kernel, by decide +kernel⟩
theorem I200 (a0 : Nat) : IA 1 [.ref a0] [.ref a0] := in_ok (k := 0) (bs := [.ref a0]) rfl rfl rfl
theorem M201 : MT 201 1 1 (some .int) 4 false false := ⟨by decide +kernel, by decide +kernel, by decide +kernel, by decide +kernel, by decide +kernel, by decide +kernel⟩
theorem I201 (a0 : Nat) : IA 1 [.ref a0] [.ref a0] := in_ok (k := 0) (bs := [.ref a0]) rfl rfl rfl
theorem M202 : MT 202 6 11 (some .long) 9 false false := ⟨by decide +kernel, by decide +kernel, by decide +kernel, by decide +kernel, by decide +kernel, by decide +kernel⟩
theorem I202 (a0 : Nat) (x1 : Int32) (x2 : Int32) (x3 : Int32) (x4 : Int32) (x5 : Int32) : IA 11 [.ref a0, .int x1, .int x2, .int x3, .int x4, .int x5] [.ref a0, .int x1, .int x2, .int x3, .int x4, .int x5, eU, eU, eU, eU, eU] := in_ok (k := 5) (bs := [.ref a0, .int x1, .int x2, .int x3, .int x4, .int x5]) rfl rfl rfl
theorem M203 : MT 203 2 6 (some .long) 9 true false := ⟨by decide +kernel, by decide +kernel, by decide +kernel, by decide +kernel, by decide +kernel, by decide +kernel⟩
theorem I203 (y0 : Int64) (x1 : Int32) : IA 6 [.long y0, .int x1] [.long y0, eU, .int x1, eU, eU, eU] := in_ok (k := 3) (bs := [.long y0, eU, .int x1]) rfl rfl rfl
theorem M204 : MT 204 1 1 none 10 false true := ⟨by decide +kernel, by decide +kernel, by decide +kernel, by decide +kernel, by decide +kernel, by decide +kernel⟩
theorem I204 (a0 : Nat) : IA 1 [.ref a0] [.ref a0] := in_ok (k := 0) (bs := [.ref a0]) rfl rfl rfl
theorem M205 : MT 205 1 2 none 10 false false := ⟨by decide +kernel, by decide +kernel, by decide +kernel, by decide +kernel, by decide +kernel, by decide +kernel⟩
theorem I205 (a0 : Nat) : IA 2 [.ref a0] [.ref a0, eU] := in_ok (k := 1) (bs := [.ref a0]) rfl rfl rfl
theorem M206 : MT 206 1 1 (some .int) 10 false false := ⟨by decide +kernel, by decide +kernel, by decide +kernel, by decide +kernel, by decide +kernel, by decide +kernel⟩
theorem I206 (a0 : Nat) : IA 1 [.ref a0] [.ref a0] := in_ok (k := 0) (bs := [.ref a0]) rfl rfl rfl
theorem M207 : MT 207 4 11 (some .int) 10 false false := ⟨by decide +kernel, by decide +kernel, by decide +kernel, by decide +kernel, by decide +kernel, by decide +kernel⟩
theorem I207 (a0 : Nat) (y1 : Int64) (y2 : Int64) (y3 : Int64) : IA 11 [.ref a0, .long y1, .long y2, .long y3] [.ref a0, .long y1, eU, .long y2, eU, .long y3, eU, eU, eU, eU, eU] := in_ok (k := 4) (bs := [.ref a0, .long y1, eU, .long y2, eU, .long y3, eU]) rfl rfl rfl
theorem M208 : MT 208 1 2 (some .int) 10 false false := ⟨by decide +kernel, by decide +kernel, by decide +kernel, by decide +kernel, by decide +kernel, by decide +kernel⟩
theorem I208 (a0 : Nat) : IA 2 [.ref a0] [.ref a0, eU] := in_ok (k := 1) (bs := [.ref a0]) rfl rfl rfl
theorem M209 : MT 209 1 1 none 10 false false := ⟨by decide +kernel, by decide +kernel, by decide +kernel, by decide +kernel, by decide +kernel, by decide +kernel⟩
theorem I209 (a0 : Nat) : IA 1 [.ref a0] [.ref a0] := in_ok (k := 0) (bs := [.ref a0]) rfl rfl rfl
theorem M210 : MT 210 1 2 none 10 false false := ⟨by decide +kernel, by decide +kernel, by decide +kernel, by decide +kernel, by decide +kernel, by decide +kernel⟩
theorem I210 (a0 : Nat) : IA 2 [.ref a0] [.ref a0, eU] := in_ok (k := 1) (bs := [.ref a0]) rfl rfl rfl
theorem M211 : MT 211 2 2 (some .int) 10 false false := ⟨by decide +kernel, by decide +kernel, by decide +kernel, by decide +kernel, by decide +kernel, by decide +kernel⟩
theorem I211 (a0 : Nat) (x1 : Int32) : IA 2 [.ref a0, .int x1] [.ref a0, .int x1] := in_ok (k := 0) (bs := [.ref a0, .int x1]) rfl rfl rfl
theorem M212 : MT 212 1 2 (some .boolean) 10 false false := ⟨by decide +kernel, by decide +kernel, by decide +kernel, by decide +kernel, by decide +kernel, by decide +kernel⟩
theorem I212 (a0 : Nat) : IA 2 [.ref a0] [.ref a0, eU] := in_ok (k := 1) (bs := [.ref a0]) rfl rfl rfl
theorem M213 : MT 213 2 3 (some .boolean) 10 false false := ⟨by decide +kernel, by decide +kernel, by decide +kernel, by decide +kernel, by decide +kernel, by decide +kernel⟩
theorem I213 (a0 : Nat) (y1 : Int64) : IA 3 [.ref a0, .long y1] [.ref a0, .long y1, eU] := in_ok (k := 0) (bs := [.ref a0, .long y1, eU]) rfl rfl rfl
theorem M214 : MT 214 1 2 (some .boolean) 10 false false := ⟨by decide +kernel, by decide +kernel, by decide +kernel, by decide +kernel, by decide +kernel, by decide +kernel⟩
theorem I214 (a0 : Nat) : IA 2 [.ref a0] [.ref a0, eU] := in_ok (k := 1) (bs := [.ref a0]) rfl rfl rfl
theorem M215 : MT 215 2 2 (some .boolean) 10 false false := ⟨by decide +kernel, by decide +kernel, by decide +kernel, by decide +kernel, by decide +kernel, by decide +kernel⟩
theorem I215 (a0 : Nat) (x1 : Int32) : IA 2 [.ref a0, .int x1] [.ref a0, .int x1] := in_ok (k := 0) (bs := [.ref a0, .int x1]) rfl rfl rfl
theorem M216 : MT 216 2 2 (some .boolean) 10 false false := ⟨by decide +kernel, by decide +kernel, by decide +kernel, by decide +kernel, by decide +kernel, by decide +kernel⟩
theorem I216 (a0 : Nat) (x1 : Int32) : IA 2 [.ref a0, .int x1] [.ref a0, .int x1] := in_ok (k := 0) (bs := [.ref a0, .int x1]) rfl rfl rfl
theorem M217 : MT 217 1 1 (some .boolean) 10 false false := ⟨by decide +kernel, by decide +kernel, by decide +kernel, by decide +kernel, by decide +kernel, by decide +kernel⟩
theorem I217 (a0 : Nat) : IA 1 [.ref a0] [.ref a0] := in_ok (k := 0) (bs := [.ref a0]) rfl rfl rfl
theorem M218 : MT 218 2 3 (some .int) 10 false false := ⟨by decide +kernel, by decide +kernel, by decide +kernel, by decide +kernel, by decide +kernel, by decide +kernel⟩
theorem I218 (a0 : Nat) (x1 : Int32) : IA 3 [.ref a0, .int x1] [.ref a0, .int x1, eU] := in_ok (k := 1) (bs := [.ref a0, .int x1]) rfl rfl rfl
theorem M219 : MT 219 2 2 (some .boolean) 10 false false := ⟨by decide +kernel, by decide +kernel, by decide +kernel, by decide +kernel, by decide +kernel, by decide +kernel⟩
theorem I219 (a0 : Nat) (x1 : Int32) : IA 2 [.ref a0, .int x1] [.ref a0, .int x1] := in_ok (k := 0) (bs := [.ref a0, .int x1]) rfl rfl rfl
theorem M220 : MT 220 1 1 (some .boolean) 10 false false := ⟨by decide +kernel, by decide +kernel, by decide +kernel, by decide +kernel, by decide +kernel, by decide +kernel⟩
theorem I220 (a0 : Nat) : IA 1 [.ref a0] [.ref a0] := in_ok (k := 0) (bs := [.ref a0]) rfl rfl rfl
theorem M221 : MT 221 2 2 (some .boolean) 10 false false := ⟨by decide +kernel, by decide +kernel, by decide +kernel, by decide +kernel, by decide +kernel, by decide +kernel⟩
theorem I221 (a0 : Nat) (x1 : Int32) : IA 2 [.ref a0, .int x1] [.ref a0, .int x1] := in_ok (k := 0) (bs := [.ref a0, .int x1]) rfl rfl rfl
theorem M222 : MT 222 1 1 (some .boolean) 10 false false := ⟨by decide +kernel, by decide +kernel, by decide +kernel, by decide +kernel, by decide +kernel, by decide +kernel⟩
theorem I222 (a0 : Nat) : IA 1 [.ref a0] [.ref a0] := in_ok (k := 0) (bs := [.ref a0]) rfl rfl rfl
theorem M223 : MT 223 2 3 (some .boolean) 10 false false := ⟨by decide +kernel, by decide +kernel, by decide +kernel, by decide +kernel, by decide +kernel, by decide +kernel⟩
theorem I223 (a0 : Nat) (y1 : Int64) : IA 3 [.ref a0, .long y1] [.ref a0, .long y1, eU] := in_ok (k := 0) (bs := [.ref a0, .long y1, eU]) rfl rfl rfl
theorem M224 : MT 224 1 3 (some .boolean) 10 false false := ⟨by decide +kernel, by decide +kernel, by decide +kernel, by decide +kernel, by decide +kernel, by decide +kernel⟩
theorem I224 (a0 : Nat) : IA 3 [.ref a0] [.ref a0, eU, eU] := in_ok (k := 2) (bs := [.ref a0]) rfl rfl rfl
theorem M225 : MT 225 1 2 (some .boolean) 10 false false := ⟨by decide +kernel, by decide +kernel, by decide +kernel, by decide +kernel, by decide +kernel, by decide +kernel⟩
theorem I225 (a0 : Nat) : IA 2 [.ref a0] [.ref a0, eU] := in_ok (k := 1) (bs := [.ref a0]) rfl rfl rfl
theorem M226 : MT 226 1 1 (some .boolean) 10 false false := ⟨by decide +kernel, by decide +kernel, by decide +kernel, by decide +kernel, by decide +kernel, by decide +kernel⟩
theorem I226 (a0 : Nat) : IA 1 [.ref a0] [.ref a0] := in_ok (k := 0) (bs := [.ref a0]) rfl rfl rfl
theorem M227 : MT 227 2 8 (some .boolean) 10 false false := ⟨by decide +kernel, by decide +kernel, by decide +kernel, by decide +kernel, by decide +kernel, by decide +kernel⟩
theorem I227 (a0 : Nat) (x1 : Int32) : IA 8 [.ref a0, .int x1] [.ref a0, .int x1, eU, eU, eU, eU, eU, eU] := in_ok (k := 6) (bs := [.ref a0, .int x1]) rfl rfl rfl
theorem M228 : MT 228 2 2 none 10 false false := ⟨by decide +kernel, by decide +kernel, by decide +kernel, by decide +kernel, by decide +kernel, by decide +kernel⟩
theorem I228 (a0 : Nat) (x1 : Int32) : IA 2 [.ref a0, .int x1] [.ref a0, .int x1] := in_ok (k := 0) (bs := [.ref a0, .int x1]) rfl rfl rfl
theorem M229 : MT 229 2 6 (some .long) 10 false false := ⟨by decide +kernel, by decide +kernel, by decide +kernel, by decide +kernel, by decide +kernel, by decide +kernel⟩
theorem I229 (a0 : Nat) (x1 : Int32) : IA 6 [.ref a0, .int x1] [.ref a0, .int x1, eU, eU, eU, eU] := in_ok (k := 4) (bs := [.ref a0, .int x1]) rfl rfl rfl
theorem M230 : MT 230 2 6 (some .int) 10 false false := ⟨by decide +kernel, by decide +kernel, by decide +kernel, by decide +kernel, by decide +kernel, by decide +kernel⟩
theorem I230 (a0 : Nat) (x1 : Int32) : IA 6 [.ref a0, .int x1] [.ref a0, .int x1, eU, eU, eU, eU] := in_ok (k := 4) (bs := [.ref a0, .int x1]) rfl rfl rfl
theorem M231 : MT 231 2 2 none 10 false false := ⟨by decide +kernel, by decide +kernel, by decide +kernel, by decide +kernel, by decide +kernel, by decide +kernel⟩
theorem I231 (a0 : Nat) (x1 : Int32) : IA 2 [.ref a0, .int x1] [.ref a0, .int x1] := in_ok (k := 0) (bs := [.ref a0, .int x1]) rfl rfl rfl
theorem M232 : MT 232 2 2 none 10 false false := ⟨by decide +kernel, by decide +kernel, by decide +kernel, by decide +kernel, by decide +kernel, by decide +kernel⟩
theorem I232 (a0 : Nat) (x1 : Int32) : IA 2 [.ref a0, .int x1] [.ref a0, .int x1] := in_ok (k := 0) (bs := [.ref a0, .int x1]) rfl rfl rfl
theorem M233 : MT 233 2 3 none 10 false false := ⟨by decide +kernel, by decide +kernel, by decide +kernel, by decide +kernel, by decide +kernel, by decide +kernel⟩
theorem I233 (a0 : Nat) (x1 : Int32) : IA 3 [.ref a0, .int x1] [.ref a0, .int x1, eU] := in_ok (k := 1) (bs := [.ref a0, .int x1]) rfl rfl rfl
theorem M234 : MT 234 1 1 (some .long) 10 false false := ⟨by decide +kernel, by decide +kernel, by decide +kernel, by decide +kernel, by decide +kernel, by decide +kernel⟩
theorem I234 (a0 : Nat) : IA 1 [.ref a0] [.ref a0] := in_ok (k := 0) (bs := [.ref a0]) rfl rfl rfl
theorem M235 : MT 235 3 4 (some .int) 10 false false := ⟨by decide +kernel, by decide +kernel, by decide +kernel, by decide +kernel, by decide +kernel, by decide +kernel⟩
theorem I235 (a0 : Nat) (x1 : Int32) (x2 : Int32) : IA 4 [.ref a0, .int x1, .int x2] [.ref a0, .int x1, .int x2, eU] := in_ok (k := 1) (bs := [.ref a0, .int x1, .int x2]) rfl rfl rfl
theorem M236 : MT 236 2 2 (some .boolean) 10 false false := ⟨by decide +kernel, by decide +kernel, by decide +kernel, by decide +kernel, by decide +kernel, by decide +kernel⟩
theorem I236 (a0 : Nat) (x1 : Int32) : IA 2 [.ref a0, .int x1] [.ref a0, .int x1] := in_ok (k := 0) (bs := [.ref a0, .int x1]) rfl rfl rfl
theorem M237 : MT 237 1 1 (some .boolean) 10 true false := ⟨by decide +kernel, by decide +kernel, by decide +kernel, by decide +kernel, by decide +kernel, by decide +kernel⟩
theorem I237 (x0 : Int32) : IA 1 [.int x0] [.int x0] := in_ok (k := 0) (bs := [.int x0]) rfl rfl rfl
theorem M238 : MT 238 4 5 (some .int) 10 false false := ⟨by decide +kernel, by decide +kernel, by decide +kernel, by decide +kernel, by decide +kernel, by decide +kernel⟩
theorem I238 (a0 : Nat) (x1 : Int32) (x2 : Int32) (x3 : Int32) : IA 5 [.ref a0, .int x1, .int x2, .int x3] [.ref a0, .int x1, .int x2, .int x3, eU] := in_ok (k := 1) (bs := [.ref a0, .int x1, .int x2, .int x3]) rfl rfl rfl
theorem M239 : MT 239 3 4 (some .int) 10 false false := ⟨by decide +kernel, by decide +kernel, by decide +kernel, by decide +kernel, by decide +kernel, by decide +kernel⟩
theorem I239 (a0 : Nat) (x1 : Int32) (x2 : Int32) : IA 4 [.ref a0, .int x1, .int x2] [.ref a0, .int x1, .int x2, eU] := in_ok (k := 1) (bs := [.ref a0, .int x1, .int x2]) rfl rfl rfl
theorem M240 : MT 240 2 2 (some .boolean) 10 false false := ⟨by decide +kernel, by decide +kernel, by decide +kernel, by decide +kernel, by decide +kernel, by decide +kernel⟩
theorem I240 (a0 : Nat) (x1 : Int32) : IA 2 [.ref a0, .int x1] [.ref a0, .int x1] := in_ok (k := 0) (bs := [.ref a0, .int x1]) rfl rfl rfl
theorem M241 : MT 241 2 2 (some .boolean) 10 false false := ⟨by decide +kernel, by decide +kernel, by decide +kernel, by decide +kernel, by decide +kernel, by decide +kernel⟩
theorem I241 (a0 : Nat) (x1 : Int32) : IA 2 [.ref a0, .int x1] [.ref a0, .int x1] := in_ok (k := 0) (bs := [.ref a0, .int x1]) rfl rfl rfl
theorem M242 : MT 242 3 3 (some .int) 10 false false := ⟨by decide +kernel, by decide +kernel, by decide +kernel, by decide +kernel, by decide +kernel, by decide +kernel⟩
theorem I242 (a0 : Nat) (x1 : Int32) (x2 : Int32) : IA 3 [.ref a0, .int x1, .int x2] [.ref a0, .int x1, .int x2] := in_ok (k := 0) (bs := [.ref a0, .int x1, .int x2]) rfl rfl rfl
theorem M243 : MT 243 2 3 (some .boolean) 10 true false := ⟨by decide +kernel, by decide +kernel, by decide +kernel, by decide +kernel, by decide +kernel, by decide +kernel⟩
theorem I243 (y0 : Int64) (x1 : Int32) : IA 3 [.long y0, .int x1] [.long y0, eU, .int x1] := in_ok (k := 0) (bs := [.long y0, eU, .int x1]) rfl rfl rfl
theorem M244 : MT 244 4 4 (some .boolean) 10 false false := ⟨by decide +kernel, by decide +kernel, by decide +kernel, by decide +kernel, by decide +kernel, by decide +kernel⟩
theorem I244 (a0 : Nat) (x1 : Int32) (x2 : Int32) (x3 : Int32) : IA 4 [.ref a0, .int x1, .int x2, .int x3] [.ref a0, .int x1, .int x2, .int x3] := in_ok (k := 0) (bs := [.ref a0, .int x1, .int x2, .int x3]) rfl rfl rfl
theorem M245 : MT 245 3 6 (some .long) 10 false false := ⟨by decide +kernel, by decide +kernel, by decide +kernel, by decide +kernel, by decide +kernel, by decide +kernel⟩
theorem I245 (a0 : Nat) (x1 : Int32) (x2 : Int32) : IA 6 [.ref a0, .int x1, .int x2] [.ref a0, .int x1, .int x2, eU, eU, eU] := in_ok (k := 3) (bs := [.ref a0, .int x1, .int x2]) rfl rfl rfl
theorem M246 : MT 246 4 4 (some .int) 10 false false := ⟨by decide +kernel, by decide +kernel, by decide +kernel, by decide +kernel, by decide +kernel, by decide +kernel⟩
theorem I246 (a0 : Nat) (x1 : Int32) (x2 : Int32) (x3 : Int32) : IA 4 [.ref a0, .int x1, .int x2, .int x3] [.ref a0, .int x1, .int x2, .int x3] := in_ok (k := 0) (bs := [.ref a0, .int x1, .int x2, .int x3]) rfl rfl rfl
theorem M247 : MT 247 2 2 (some .boolean) 10 false false := ⟨by decide +kernel, by decide +kernel, by decide +kernel, by decide +kernel, by decide +kernel, by decide +kernel⟩
theorem I247 (a0 : Nat) (x1 : Int32) : IA 2 [.ref a0, .int x1] [.ref a0, .int x1] := in_ok (k := 0) (bs := [.ref a0, .int x1]) rfl rfl rfl
theorem M248 : MT 248 2 4 none 10 false false := ⟨by decide +kernel, by decide +kernel, by decide +kernel, by decide +kernel, by decide +kernel, by decide +kernel⟩
theorem I248 (a0 : Nat) (x1 : Int32) : IA 4 [.ref a0, .int x1] [.ref a0, .int x1, eU, eU] := in_ok (k := 2) (bs := [.ref a0, .int x1]) rfl rfl rfl
theorem M249 : MT 249 2 4 none 10 false false := ⟨by decide +kernel, by decide +kernel, by decide +kernel, by decide +kernel, by decide +kernel, by decide +kernel⟩
theorem I249 (a0 : Nat) (x1 : Int32) : IA 4 [.ref a0, .int x1] [.ref a0, .int x1, eU, eU] := in_ok (k := 2) (bs := [.ref a0, .int x1]) rfl rfl rfl
theorem M250 : MT 250 4 5 (some .int) 10 false false := ⟨by decide +kernel, by decide +kernel, by decide +kernel, by decide +kernel, by decide +kernel, by decide +kernel⟩
theorem I250 (a0 : Nat) (x1 : Int32) (x2 : Int32) (x3 : Int32) : IA 5 [.ref a0, .int x1, .int x2, .int x3] [.ref a0, .int x1, .int x2, .int x3, eU] := in_ok (k := 1) (bs := [.ref a0, .int x1, .int x2, .int x3]) rfl rfl rfl
theorem M251 : MT 251 5 5 (some .int) 10 false false := ⟨by decide +kernel, by decide +kernel, by decide +kernel, by decide +kernel, by decide +kernel, by decide +kernel⟩
theorem I251 (a0 : Nat) (x1 : Int32) (x2 : Int32) (x3 : Int32) (x4 : Int32) : IA 5 [.ref a0, .int x1, .int x2, .int x3, .int x4] [.ref a0, .int x1, .int x2, .int x3, .int x4] := in_ok (k := 0) (bs := [.ref a0, .int x1, .int x2, .int x3, .int x4]) rfl rfl rfl
theorem M252 : MT 252 1 1 (some .boolean) 10 true false := ⟨by decide +kernel, by decide +kernel, by decide +kernel, by decide +kernel, by decide +kernel, by decide +kernel⟩
theorem I252 (x0 : Int32) : IA 1 [.int x0] [.int x0] := in_ok (k := 0) (bs := [.int x0]) rfl rfl rfl
theorem M253 : MT 253 2 2 (some .int) 10 false false := ⟨by decide +kernel, by decide +kernel, by decide +kernel, by decide +kernel, by decide +kernel, by decide +kernel⟩
theorem I253 (a0 : Nat) (x1 : Int32) : IA 2 [.ref a0, .int x1] [.ref a0, .int x1] := in_ok (k := 0) (bs := [.ref a0, .int x1]) rfl rfl rfl
theorem M254 : MT 254 1 5 (some .long) 10 false false := ⟨by decide +kernel, by decide +kernel, by decide +kernel, by decide +kernel, by decide +kernel, by decide +kernel⟩
theorem I254 (a0 : Nat) : IA 5 [.ref a0] [.ref a0, eU, eU, eU, eU] := in_ok (k := 4) (bs := [.ref a0]) rfl rfl rfl
theorem M255 : MT 255 3 3 (some .boolean) 10 false false := ⟨by decide +kernel, by decide +kernel, by decide +kernel, by decide +kernel, by decide +kernel, by decide +kernel⟩
theorem I255 (a0 : Nat) (x1 : Int32) (x2 : Int32) : IA 3 [.ref a0, .int x1, .int x2] [.ref a0, .int x1, .int x2] := in_ok (k := 0) (bs := [.ref a0, .int x1, .int x2]) rfl rfl rfl
theorem M256 : MT 256 4 5 (some .int) 10 false false := ⟨by decide +kernel, by decide +kernel, by decide +kernel, by decide +kernel, by decide +kernel, by decide +kernel⟩
theorem I256 (a0 : Nat) (x1 : Int32) (x2 : Int32) (x3 : Int32) : IA 5 [.ref a0, .int x1, .int x2, .int x3] [.ref a0, .int x1, .int x2, .int x3, eU] := in_ok (k := 1) (bs := [.ref a0, .int x1, .int x2, .int x3]) rfl rfl rfl
theorem M257 : MT 257 3 3 (some .boolean) 10 true false := ⟨by decide +kernel, by decide +kernel, by decide +kernel, by decide +kernel, by decide +kernel, by decide +kernel⟩
theorem I257 (x0 : Int32) (x1 : Int32) (x2 : Int32) : IA 3 [.int x0, .int x1, .int x2] [.int x0, .int x1, .int x2] := in_ok (k := 0) (bs := [.int x0, .int x1, .int x2]) rfl rfl rfl
theorem M258 : MT 258 2 4 (some .int) 10 false false := ⟨by decide +kernel, by decide +kernel, by decide +kernel, by decide +kernel, by decide +kernel, by decide +kernel⟩
theorem I258 (a0 : Nat) (x1 : Int32) : IA 4 [.ref a0, .int x1] [.ref a0, .int x1, eU, eU] := in_ok (k := 2) (bs := [.ref a0, .int x1]) rfl rfl rfl
theorem M259 : MT 259 2 2 (some .boolean) 10 false false := ⟨by decide +kernel, by decide +kernel, by decide +kernel, by decide +kernel, by decide +kernel, by decide +kernel⟩
theorem I259 (a0 : Nat) (x1 : Int32) : IA 2 [.ref a0, .int x1] [.ref a0, .int x1] := in_ok (k := 0) (bs := [.ref a0, .int x1]) rfl rfl rfl
theorem M260 : MT 260 2 5 (some .long) 10 false false := ⟨by decide +kernel, by decide +kernel, by decide +kernel, by decide +kernel, by decide +kernel, by decide +kernel⟩
theorem I260 (a0 : Nat) (x1 : Int32) : IA 5 [.ref a0, .int x1] [.ref a0, .int x1, eU, eU, eU] := in_ok (k := 3) (bs := [.ref a0, .int x1]) rfl rfl rfl
theorem M261 : MT 261 1 4 (some .int) 10 true false := ⟨by decide +kernel, by decide +kernel, by decide +kernel, by decide +kernel, by decide +kernel, by decide +kernel⟩
theorem I261 (y0 : Int64) : IA 4 [.long y0] [.long y0, eU, eU, eU] := in_ok (k := 2) (bs := [.long y0, eU]) rfl rfl rfl
theorem M262 : MT 262 2 2 (some .int) 10 false false := ⟨by decide +kernel, by decide +kernel, by decide +kernel, by decide +kernel, by decide +kernel, by decide +kernel⟩
theorem I262 (a0 : Nat) (x1 : Int32) : IA 2 [.ref a0, .int x1] [.ref a0, .int x1] := in_ok (k := 0) (bs := [.ref a0, .int x1]) rfl rfl rfl
theorem M263 : MT 263 2 4 (some .int) 10 true false := ⟨by decide +kernel, by decide +kernel, by decide +kernel, by decide +kernel, by decide +kernel, by decide +kernel⟩
theorem I263 (y0 : Int64) (y1 : Int64) : IA 4 [.long y0, .long y1] [.long y0, eU, .long y1, eU] := in_ok (k := 0) (bs := [.long y0, eU, .long y1, eU]) rfl rfl rfl
theorem M264 : MT 264 2 2 (some .int) 10 false false := ⟨by decide +kernel, by decide +kernel, by decide +kernel, by decide +kernel, by decide +kernel, by decide +kernel⟩
theorem I264 (a0 : Nat) (x1 : Int32) : IA 2 [.ref a0, .int x1] [.ref a0, .int x1] := in_ok (k := 0) (bs := [.ref a0, .int x1]) rfl rfl rfl
theorem M265 : MT 265 3 10 (some .long) 10 false false := ⟨by decide +kernel, by decide +kernel, by decide +kernel, by decide +kernel, by decide +kernel, by decide +kernel⟩
theorem I265 (a0 : Nat) (x1 : Int32) (x2 : Int32) : IA 10 [.ref a0, .int x1, .int x2] [.ref a0, .int x1, .int x2, eU, eU, eU, eU, eU, eU, eU] := in_ok (k := 7) (bs := [.ref a0, .int x1, .int x2]) rfl rfl rfl
theorem M266 : MT 266 3 3 (some .boolean) 10 true false := ⟨by decide +kernel, by decide +kernel, by decide +kernel, by decide +kernel, by decide +kernel, by decide +kernel⟩
theorem I266 (x0 : Int32) (x1 : Int32) (x2 : Int32) : IA 3 [.int x0, .int x1, .int x2] [.int x0, .int x1, .int x2] := in_ok (k := 0) (bs := [.int x0, .int x1, .int x2]) rfl rfl rfl
theorem M267 : MT 267 2 5 (some .long) 10 false false := ⟨by decide +kernel, by decide +kernel, by decide +kernel, by decide +kernel, by decide +kernel, by decide +kernel⟩
theorem I267 (a0 : Nat) (x1 : Int32) : IA 5 [.ref a0, .int x1] [.ref a0, .int x1, eU, eU, eU] := in_ok (k := 3) (bs := [.ref a0, .int x1]) rfl rfl rfl
theorem M268 : MT 268 3 11 (some .long) 10 true false := ⟨by decide +kernel, by decide +kernel, by decide +kernel, by decide +kernel, by decide +kernel, by decide +kernel⟩
theorem I268 (y0 : Int64) (y1 : Int64) (x2 : Int32) : IA 11 [.long y0, .long y1, .int x2] [.long y0, eU, .long y1, eU, .int x2, eU, eU, eU, eU, eU, eU] := in_ok (k := 6) (bs := [.long y0, eU, .long y1, eU, .int x2]) rfl rfl rfl
theorem M269 : MT 269 3 6 (some .int) 10 false false := ⟨by decide +kernel, by decide +kernel, by decide +kernel, by decide +kernel, by decide +kernel, by decide +kernel⟩
theorem I269 (a0 : Nat) (x1 : Int32) (x2 : Int32) : IA 6 [.ref a0, .int x1, .int x2] [.ref a0, .int x1, .int x2, eU, eU, eU] := in_ok (k := 3) (bs := [.ref a0, .int x1, .int x2]) rfl rfl rfl
theorem M270 : MT 270 2 5 (some .long) 10 false false := ⟨by decide +kernel, by decide +kernel, by decide +kernel, by decide +kernel, by decide +kernel, by decide +kernel⟩
theorem I270 (a0 : Nat) (x1 : Int32) : IA 5 [.ref a0, .int x1] [.ref a0, .int x1, eU, eU, eU] := in_ok (k := 3) (bs := [.ref a0, .int x1]) rfl rfl rfl
theorem M271 : MT 271 2 4 (some .int) 10 false false := ⟨by decide +kernel, by decide +kernel, by decide +kernel, by decide +kernel, by decide +kernel, by decide +kernel⟩
theorem I271 (a0 : Nat) (x1 : Int32) : IA 4 [.ref a0, .int x1] [.ref a0, .int x1, eU, eU] := in_ok (k := 2) (bs := [.ref a0, .int x1]) rfl rfl rfl
theorem M272 : MT 272 5 11 (some .int) 10 false false := ⟨by decide +kernel, by decide +kernel, by decide +kernel, by decide +kernel, by decide +kernel, by decide +kernel⟩
theorem I272 (a0 : Nat) (x1 : Int32) (x2 : Int32) (x3 : Int32) (x4 : Int32) : IA 11 [.ref a0, .int x1, .int x2, .int x3, .int x4] [.ref a0, .int x1, .int x2, .int x3, .int x4, eU, eU, eU, eU, eU, eU] := in_ok (k := 6) (bs := [.ref a0, .int x1, .int x2, .int x3, .int x4]) rfl rfl rfl
theorem M273 : MT 273 4 4 (some .boolean) 10 false false := ⟨by decide +kernel, by decide +kernel, by decide +kernel, by decide +kernel, by decide +kernel, by decide +kernel⟩
theorem I273 (a0 : Nat) (x1 : Int32) (x2 : Int32) (x3 : Int32) : IA 4 [.ref a0, .int x1, .int x2, .int x3] [.ref a0, .int x1, .int x2, .int x3] := in_ok (k := 0) (bs := [.ref a0, .int x1, .int x2, .int x3]) rfl rfl rfl
theorem M274 : MT 274 4 5 (some .boolean) 10 false false := ⟨by decide +kernel, by decide +kernel, by decide +kernel, by decide +kernel, by decide +kernel, by decide +kernel⟩
theorem I274 (a0 : Nat) (x1 : Int32) (x2 : Int32) (x3 : Int32) : IA 5 [.ref a0, .int x1, .int x2, .int x3] [.ref a0, .int x1, .int x2, .int x3, eU] := in_ok (k := 1) (bs := [.ref a0, .int x1, .int x2, .int x3]) rfl rfl rfl
theorem M275 : MT 275 5 10 (some .int) 10 false false := ⟨by decide +kernel, by decide +kernel, by decide +kernel, by decide +kernel, by decide +kernel, by decide +kernel⟩
theorem I275 (a0 : Nat) (x1 : Int32) (x2 : Int32) (y3 : Int64) (x4 : Int32) : IA 10 [.ref a0, .int x1, .int x2, .long y3, .int x4] [.ref a0, .int x1, .int x2, .long y3, eU, .int x4, eU, eU, eU, eU] := in_ok (k := 4) (bs := [.ref a0, .int x1, .int x2, .long y3, eU, .int x4]) rfl rfl rfl
theorem M276 : MT 276 5 11 (some .int) 10 false false := ⟨by decide +kernel, by decide +kernel, by decide +kernel, by decide +kernel, by decide +kernel, by decide +kernel⟩
theorem I276 (a0 : Nat) (x1 : Int32) (x2 : Int32) (x3 : Int32) (x4 : Int32) : IA 11 [.ref a0, .int x1, .int x2, .int x3, .int x4] [.ref a0, .int x1, .int x2, .int x3, .int x4, eU, eU, eU, eU, eU, eU] := in_ok (k := 6) (bs := [.ref a0, .int x1, .int x2, .int x3, .int x4]) rfl rfl rfl
theorem M277 : MT 277 6 11 (some .int) 10 false false := ⟨by decide +kernel, by decide +kernel, by decide +kernel, by decide +kernel, by decide +kernel, by decide +kernel⟩
theorem I277 (a0 : Nat) (x1 : Int32) (x2 : Int32) (x3 : Int32) (x4 : Int32) (x5 : Int32) : IA 11 [.ref a0, .int x1, .int x2, .int x3, .int x4, .int x5] [.ref a0, .int x1, .int x2, .int x3, .int x4, .int x5, eU, eU, eU, eU, eU] := in_ok (k := 5) (bs := [.ref a0, .int x1, .int x2, .int x3, .int x4, .int x5]) rfl rfl rfl
theorem M278 : MT 278 1 2 (some .int) 10 false false := ⟨by decide +kernel, by decide +kernel, by decide +kernel, by decide +kernel, by decide +kernel, by decide +kernel⟩
theorem I278 (a0 : Nat) : IA 2 [.ref a0] [.ref a0, eU] := in_ok (k := 1) (bs := [.ref a0]) rfl rfl rfl
theorem M279 : MT 279 3 7 (some .int) 10 false false := ⟨by decide +kernel, by decide +kernel, by decide +kernel, by decide +kernel, by decide +kernel, by decide +kernel⟩
theorem I279 (a0 : Nat) (x1 : Int32) (x2 : Int32) : IA 7 [.ref a0, .int x1, .int x2] [.ref a0, .int x1, .int x2, eU, eU, eU, eU] := in_ok (k := 4) (bs := [.ref a0, .int x1, .int x2]) rfl rfl rfl
theorem M280 : MT 280 5 7 (some .int) 10 false false := ⟨by decide +kernel, by decide +kernel, by decide +kernel, by decide +kernel, by decide +kernel, by decide +kernel⟩
theorem I280 (a0 : Nat) (x1 : Int32) (x2 : Int32) (x3 : Int32) (x4 : Int32) : IA 7 [.ref a0, .int x1, .int x2, .int x3, .int x4] [.ref a0, .int x1, .int x2, .int x3, .int x4, eU, eU] := in_ok (k := 2) (bs := [.ref a0, .int x1, .int x2, .int x3, .int x4]) rfl rfl rfl
theorem M281 : MT 281 3 7 (some .int) 10 false false := ⟨by decide +kernel, by decide +kernel, by decide +kernel, by decide +kernel, by decide +kernel, by decide +kernel⟩
theorem I281 (a0 : Nat) (x1 : Int32) (x2 : Int32) : IA 7 [.ref a0, .int x1, .int x2] [.ref a0, .int x1, .int x2, eU, eU, eU, eU] := in_ok (k := 4) (bs := [.ref a0, .int x1, .int x2]) rfl rfl rfl
theorem M282 : MT 282 2 3 (some .int) 10 true false := ⟨by decide +kernel, by decide +kernel, by decide +kernel, by decide +kernel, by decide +kernel, by decide +kernel⟩
theorem I282 (x0 : Int32) (x1 : Int32) : IA 3 [.int x0, .int x1] [.int x0, .int x1, eU] := in_ok (k := 1) (bs := [.int x0, .int x1]) rfl rfl rfl
theorem M283 : MT 283 3 3 (some .int) 10 false false := ⟨by decide +kernel, by decide +kernel, by decide +kernel, by decide +kernel, by decide +kernel, by decide +kernel⟩
theorem I283 (a0 : Nat) (x1 : Int32) (x2 : Int32) : IA 3 [.ref a0, .int x1, .int x2] [.ref a0, .int x1, .int x2] := in_ok (k := 0) (bs := [.ref a0, .int x1, .int x2]) rfl rfl rfl
theorem M284 : MT 284 3 3 (some .int) 10 false false := ⟨by decide +kernel, by decide +kernel, by decide +kernel, by decide +kernel, by decide +kernel, by decide +kernel⟩
theorem I284 (a0 : Nat) (x1 : Int32) (x2 : Int32) : IA 3 [.ref a0, .int x1, .int x2] [.ref a0, .int x1, .int x2] := in_ok (k := 0) (bs := [.ref a0, .int x1, .int x2]) rfl rfl rfl
theorem M285 : MT 285 3 3 (some .boolean) 10 false false := ⟨by decide +kernel, by decide +kernel, by decide +kernel, by decide +kernel, by decide +kernel, by decide +kernel⟩
theorem I285 (a0 : Nat) (x1 : Int32) (x2 : Int32) : IA 3 [.ref a0, .int x1, .int x2] [.ref a0, .int x1, .int x2] := in_ok (k := 0) (bs := [.ref a0, .int x1, .int x2]) rfl rfl rfl
theorem M286 : MT 286 3 7 (some .boolean) 10 false false := ⟨by decide +kernel, by decide +kernel, by decide +kernel, by decide +kernel, by decide +kernel, by decide +kernel⟩
theorem I286 (a0 : Nat) (x1 : Int32) (x2 : Int32) : IA 7 [.ref a0, .int x1, .int x2] [.ref a0, .int x1, .int x2, eU, eU, eU, eU] := in_ok (k := 4) (bs := [.ref a0, .int x1, .int x2]) rfl rfl rfl
theorem M287 : MT 287 3 5 (some .int) 10 false false := ⟨by decide +kernel, by decide +kernel, by decide +kernel, by decide +kernel, by decide +kernel, by decide +kernel⟩
theorem I287 (a0 : Nat) (x1 : Int32) (x2 : Int32) : IA 5 [.ref a0, .int x1, .int x2] [.ref a0, .int x1, .int x2, eU, eU] := in_ok (k := 2) (bs := [.ref a0, .int x1, .int x2]) rfl rfl rfl
theorem M288 : MT 288 6 11 (some .long) 10 false false := ⟨by decide +kernel, by decide +kernel, by decide +kernel, by decide +kernel, by decide +kernel, by decide +kernel⟩
theorem I288 (a0 : Nat) (x1 : Int32) (x2 : Int32) (x3 : Int32) (x4 : Int32) (x5 : Int32) : IA 11 [.ref a0, .int x1, .int x2, .int x3, .int x4, .int x5] [.ref a0, .int x1, .int x2, .int x3, .int x4, .int x5, eU, eU, eU, eU, eU] := in_ok (k := 5) (bs := [.ref a0, .int x1, .int x2, .int x3, .int x4, .int x5]) rfl rfl rfl
theorem M289 : MT 289 3 5 (some .int) 10 false false := ⟨by decide +kernel, by decide +kernel, by decide +kernel, by decide +kernel, by decide +kernel, by decide +kernel⟩
theorem I289 (a0 : Nat) (x1 : Int32) (x2 : Int32) : IA 5 [.ref a0, .int x1, .int x2] [.ref a0, .int x1, .int x2, eU, eU] := in_ok (k := 2) (bs := [.ref a0, .int x1, .int x2]) rfl rfl rfl
theorem M290 : MT 290 3 10 (some .int) 10 false false := ⟨by decide +kernel, by decide +kernel, by decide +kernel, by decide +kernel, by decide +kernel, by decide +kernel⟩
theorem I290 (a0 : Nat) (x1 : Int32) (x2 : Int32) : IA 10 [.ref a0, .int x1, .int x2] [.ref a0, .int x1, .int x2, eU, eU, eU, eU, eU, eU, eU] := in_ok (k := 7) (bs := [.ref a0, .int x1, .int x2]) rfl rfl rfl
theorem M291 : MT 291 2 2 (some .int) 10 false false := ⟨by decide +kernel, by decide +kernel, by decide +kernel, by decide +kernel, by decide +kernel, by decide +kernel⟩
theorem I291 (a0 : Nat) (x1 : Int32) : IA 2 [.ref a0, .int x1] [.ref a0, .int x1] := in_ok (k := 0) (bs := [.ref a0, .int x1]) rfl rfl rfl
theorem M292 : MT 292 2 7 (some .int) 10 false false := ⟨by decide +kernel, by decide +kernel, by decide +kernel, by decide +kernel, by decide +kernel, by decide +kernel⟩
theorem I292 (a0 : Nat) (x1 : Int32) : IA 7 [.ref a0, .int x1] [.ref a0, .int x1, eU, eU, eU, eU, eU] := in_ok (k := 5) (bs := [.ref a0, .int x1]) rfl rfl rfl
theorem M293 : MT 293 3 5 (some .int) 10 false false := ⟨by decide +kernel, by decide +kernel, by decide +kernel, by decide +kernel, by decide +kernel, by decide +kernel⟩
theorem I293 (a0 : Nat) (x1 : Int32) (x2 : Int32) : IA 5 [.ref a0, .int x1, .int x2] [.ref a0, .int x1, .int x2, eU, eU] := in_ok (k := 2) (bs := [.ref a0, .int x1, .int x2]) rfl rfl rfl
theorem M294 : MT 294 3 3 (some .int) 10 false false := ⟨by decide +kernel, by decide +kernel, by decide +kernel, by decide +kernel, by decide +kernel, by decide +kernel⟩
theorem I294 (a0 : Nat) (x1 : Int32) (x2 : Int32) : IA 3 [.ref a0, .int x1, .int x2] [.ref a0, .int x1, .int x2] := in_ok (k := 0) (bs := [.ref a0, .int x1, .int x2]) rfl rfl rfl
theorem M295 : MT 295 4 7 (some .int) 10 false false := ⟨by decide +kernel, by decide +kernel, by decide +kernel, by decide +kernel, by decide +kernel, by decide +kernel⟩
theorem I295 (a0 : Nat) (x1 : Int32) (x2 : Int32) (x3 : Int32) : IA 7 [.ref a0, .int x1, .int x2, .int x3] [.ref a0, .int x1, .int x2, .int x3, eU, eU, eU] := in_ok (k := 3) (bs := [.ref a0, .int x1, .int x2, .int x3]) rfl rfl rfl
theorem M296 : MT 296 3 7 none 10 false false := ⟨by decide +kernel, by decide +kernel, by decide +kernel, by decide +kernel, by decide +kernel, by decide +kernel⟩
theorem I296 (a0 : Nat) (x1 : Int32) (y2 : Int64) : IA 7 [.ref a0, .int x1, .long y2] [.ref a0, .int x1, .long y2, eU, eU, eU, eU] := in_ok (k := 3) (bs := [.ref a0, .int x1, .long y2, eU]) rfl rfl rfl
theorem M297 : MT 297 4 6 (some .boolean) 10 false false := ⟨by decide +kernel, by decide +kernel, by decide +kernel, by decide +kernel, by decide +kernel, by decide +kernel⟩
theorem I297 (a0 : Nat) (x1 : Int32) (x2 : Int32) (y3 : Int64) : IA 6 [.ref a0, .int x1, .int x2, .long y3] [.ref a0, .int x1, .int x2, .long y3, eU, eU] := in_ok (k := 1) (bs := [.ref a0, .int x1, .int x2, .long y3, eU]) rfl rfl rfl
theorem M298 : MT 298 5 7 (some .boolean) 10 false false := ⟨by decide +kernel, by decide +kernel, by decide +kernel, by decide +kernel, by decide +kernel, by decide +kernel⟩
theorem I298 (a0 : Nat) (x1 : Int32) (x2 : Int32) (x3 : Int32) (y4 : Int64) : IA 7 [.ref a0, .int x1, .int x2, .int x3, .long y4] [.ref a0, .int x1, .int x2, .int x3, .long y4, eU, eU] := in_ok (k := 1) (bs := [.ref a0, .int x1, .int x2, .int x3, .long y4, eU]) rfl rfl rfl
theorem M299 : MT 299 4 9 (some .boolean) 10 false false := ⟨by decide +kernel, by decide +kernel, by decide +kernel, by decide +kernel, by decide +kernel, by decide +kernel⟩
theorem I299 (a0 : Nat) (x1 : Int32) (x2 : Int32) (y3 : Int64) : IA 9 [.ref a0, .int x1, .int x2, .long y3] [.ref a0, .int x1, .int x2, .long y3, eU, eU, eU, eU, eU] := in_ok (k := 4) (bs := [.ref a0, .int x1, .int x2, .long y3, eU]) rfl rfl rfl
theorem M300 : MT 300 3 5 (some .int) 10 false false := ⟨by decide +kernel, by decide +kernel, by decide +kernel, by decide +kernel, by decide +kernel, by decide +kernel⟩
theorem I300 (a0 : Nat) (x1 : Int32) (x2 : Int32) : IA 5 [.ref a0, .int x1, .int x2] [.ref a0, .int x1, .int x2, eU, eU] := in_ok (k := 2) (bs := [.ref a0, .int x1, .int x2]) rfl rfl rfl
theorem M301 : MT 301 5 11 (some .int) 10 false false := ⟨by decide +kernel, by decide +kernel, by decide +kernel, by decide +kernel, by decide +kernel, by decide +kernel⟩
theorem I301 (a0 : Nat) (x1 : Int32) (x2 : Int32) (x3 : Int32) (x4 : Int32) : IA 11 [.ref a0, .int x1, .int x2, .int x3, .int x4] [.ref a0, .int x1, .int x2, .int x3, .int x4, eU, eU, eU, eU, eU, eU] := in_ok (k := 6) (bs := [.ref a0, .int x1, .int x2, .int x3, .int x4]) rfl rfl rfl
theorem M302 : MT 302 3 5 (some .int) 10 false false := ⟨by decide +kernel, by decide +kernel, by decide +kernel, by decide +kernel, by decide +kernel, by decide +kernel⟩
theorem I302 (a0 : Nat) (x1 : Int32) (x2 : Int32) : IA 5 [.ref a0, .int x1, .int x2] [.ref a0, .int x1, .int x2, eU, eU] := in_ok (k := 2) (bs := [.ref a0, .int x1, .int x2]) rfl rfl rfl
theorem M303 : MT 303 3 4 (some .boolean) 10 false false := ⟨by decide +kernel, by decide +kernel, by decide +kernel, by decide +kernel, by decide +kernel, by decide +kernel⟩
theorem I303 (a0 : Nat) (x1 : Int32) (x2 : Int32) : IA 4 [.ref a0, .int x1, .int x2] [.ref a0, .int x1, .int x2, eU] := in_ok (k := 1) (bs := [.ref a0, .int x1, .int x2]) rfl rfl rfl
theorem M304 : MT 304 4 5 none 10 false false := ⟨by decide +kernel, by decide +kernel, by decide +kernel, by decide +kernel, by decide +kernel, by decide +kernel⟩
theorem I304 (a0 : Nat) (a1 : Nat) (x2 : Int32) (x3 : Int32) : IA 5 [.ref a0, .ref a1, .int x2, .int x3] [.ref a0, .ref a1, .int x2, .int x3, eU] := in_ok (k := 1) (bs := [.ref a0, .ref a1, .int x2, .int x3]) rfl rfl rfl
theorem M305 : MT 305 3 4 (some .int) 10 false false := ⟨by decide +kernel, by decide +kernel, by decide +kernel, by decide +kernel, by decide +kernel, by decide +kernel⟩
theorem I305 (a0 : Nat) (x1 : Int32) (x2 : Int32) : IA 4 [.ref a0, .int x1, .int x2] [.ref a0, .int x1, .int x2, eU] := in_ok (k := 1) (bs := [.ref a0, .int x1, .int x2]) rfl rfl rfl
theorem M306 : MT 306 5 6 none 10 false false := ⟨by decide +kernel, by decide +kernel, by decide +kernel, by decide +kernel, by decide +kernel, by decide +kernel⟩
theorem I306 (a0 : Nat) (a1 : Nat) (x2 : Int32) (x3 : Int32) (x4 : Int32) : IA 6 [.ref a0, .ref a1, .int x2, .int x3, .int x4] [.ref a0, .ref a1, .int x2, .int x3, .int x4, eU] := in_ok (k := 1) (bs := [.ref a0, .ref a1, .int x2, .int x3, .int x4]) rfl rfl rfl
theorem M307 : MT 307 2 2 (some .int) 10 false false := ⟨by decide +kernel, by decide +kernel, by decide +kernel, by decide +kernel, by decide +kernel, by decide +kernel⟩
theorem I307 (a0 : Nat) (x1 : Int32) : IA 2 [.ref a0, .int x1] [.ref a0, .int x1] := in_ok (k := 0) (bs := [.ref a0, .int x1]) rfl rfl rfl
theorem M308 : MT 308 7 8 (some .int) 11 true false := ⟨by decide +kernel, by decide +kernel, by decide +kernel, by decide +kernel, by decide +kernel, by decide +kernel⟩
theorem I308 (a0 : Nat) (x1 : Int32) (x2 : Int32) (x3 : Int32) (x4 : Int32) (x5 : Int32) (a6 : Nat) : IA 8 [.ref a0, .int x1, .int x2, .int x3, .int x4, .int x5, .ref a6] [.ref a0, .int x1, .int x2, .int x3, .int x4, .int x5, .ref a6, eU] := in_ok (k := 1) (bs := [.ref a0, .int x1, .int x2, .int x3, .int x4, .int x5, .ref a6]) rfl rfl rfl
theorem M309 : MT 309 1 8 (some .boolean) 11 true false := ⟨by decide +kernel, by decide +kernel, by decide +kernel, by decide +kernel, by decide +kernel, by decide +kernel⟩
theorem I309 (a0 : Nat) : IA 8 [.ref a0] [.ref a0, eU, eU, eU, eU, eU, eU, eU] := in_ok (k := 7) (bs := [.ref a0]) rfl rfl rfl
