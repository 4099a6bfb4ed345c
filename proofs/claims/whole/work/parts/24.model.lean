/-! ===== literals ===== -/
theorem l_2 : (2 : Int32) = nI 2 := rfl
theorem l_3 : (3 : Int32) = nI 3 := rfl
theorem l_4 : (4 : Int32) = nI 4 := rfl
theorem l_5 : (5 : Int32) = nI 5 := rfl
theorem l_6 : (6 : Int32) = nI 6 := rfl
theorem l_7 : (7 : Int32) = nI 7 := rfl
theorem l_8 : (8 : Int32) = nI 8 := rfl
theorem l_9 : (9 : Int32) = nI 9 := rfl
theorem l_10 : (10 : Int32) = nI 10 := rfl
theorem l_12 : (12 : Int32) = nI 12 := rfl
theorem l_15 : (15 : Int32) = nI 15 := rfl
theorem l_16 : (16 : Int32) = nI 16 := rfl
theorem l_18 : (18 : Int32) = nI 18 := rfl
theorem l_20 : (20 : Int32) = nI 20 := rfl
theorem l_21 : (21 : Int32) = nI 21 := rfl
theorem l_22 : (22 : Int32) = nI 22 := rfl
theorem l_24 : (24 : Int32) = nI 24 := rfl
theorem l_25 : (25 : Int32) = nI 25 := rfl
theorem l_26 : (26 : Int32) = nI 26 := rfl
theorem l_27 : (27 : Int32) = nI 27 := rfl
theorem l_28 : (28 : Int32) = nI 28 := rfl
theorem l_29 : (29 : Int32) = nI 29 := rfl
theorem l_30 : (30 : Int32) = nI 30 := rfl
theorem l_31 : (31 : Int32) = nI 31 := rfl
theorem l_32 : (32 : Int32) = nI 32 := rfl
theorem l_36 : (36 : Int32) = nI 36 := rfl
theorem l_40 : (40 : Int32) = nI 40 := rfl
theorem l_41 : (41 : Int32) = nI 41 := rfl
theorem l_42 : (42 : Int32) = nI 42 := rfl
theorem l_43 : (43 : Int32) = nI 43 := rfl
theorem l_45 : (45 : Int32) = nI 45 := rfl
theorem l_48 : (48 : Int32) = nI 48 := rfl
theorem l_56 : (56 : Int32) = nI 56 := rfl
theorem l_57 : (57 : Int32) = nI 57 := rfl
theorem l_59 : (59 : Int32) = nI 59 := rfl
theorem l_60 : (60 : Int32) = nI 60 := rfl
theorem l_61 : (61 : Int32) = nI 61 := rfl
theorem l_62 : (62 : Int32) = nI 62 := rfl
theorem l_63 : (63 : Int32) = nI 63 := rfl
theorem l_64 : (64 : Int32) = nI 64 := rfl
theorem l_97 : (97 : Int32) = nI 97 := rfl
theorem l_99 : (99 : Int32) = nI 99 := rfl
theorem l_100 : (100 : Int32) = nI 100 := rfl
theorem l_122 : (122 : Int32) = nI 122 := rfl
theorem l_126 : (126 : Int32) = nI 126 := rfl
theorem l_127 : (127 : Int32) = nI 127 := rfl
theorem l_168 : (168 : Int32) = nI 168 := rfl
theorem l_180 : (180 : Int32) = nI 180 := rfl
theorem l_255 : (255 : Int32) = nI 255 := rfl
theorem l_300 : (300 : Int32) = nI 300 := rfl
theorem l_359 : (359 : Int32) = nI 359 := rfl
theorem l_360 : (360 : Int32) = nI 360 := rfl
theorem l_400 : (400 : Int32) = nI 400 := rfl
theorem l_1000 : (1000 : Int32) = nI 1000 := rfl
theorem l_1200 : (1200 : Int32) = nI 1200 := rfl
theorem l_1439 : (1439 : Int32) = nI 1439 := rfl
theorem l_1440 : (1440 : Int32) = nI 1440 := rfl
theorem l_1536 : (1536 : Int32) = nI 1536 := rfl
theorem l_4096 : (4096 : Int32) = nI 4096 := rfl
theorem mQ_u (m : eM) (a j : Nat) (v : Option Nat) (k : eM → oX) : mQ m a j v k = k (sR m a j v) := rfl
theorem not_lt_zero {n : Nat} : (n < 0) = False := eq_false (Nat.not_lt_zero n)
theorem gz_209 {m : eM} {o : oX} : ga m 209 20 0 o = o := ga_209 (n := 0) (by decide)
theorem gy_209 {m : eM} {o : oX} : ga m 209 20 1 o = o := ga_209 (n := 1) (by decide)
theorem gx_209 {m : eM} {o : oX} : gw m 209 20 0 o = o := gw_209 (n := 0) (by decide)
theorem gz_210 {m : eM} {o : oX} : ga m 210 20 0 o = o := ga_210 (n := 0) (by decide)
theorem gy_210 {m : eM} {o : oX} : ga m 210 20 1 o = o := ga_210 (n := 1) (by decide)
theorem gx_210 {m : eM} {o : oX} : gw m 210 20 0 o = o := gw_210 (n := 0) (by decide)
theorem gz_211 {m : eM} {o : oX} : ga m 211 21 0 o = o := ga_211 (n := 0) (by decide)
theorem gy_211 {m : eM} {o : oX} : ga m 211 21 1 o = o := ga_211 (n := 1) (by decide)
theorem gx_211 {m : eM} {o : oX} : gw m 211 21 0 o = o := gw_211 (n := 0) (by decide)
theorem gz_212 {m : eM} {o : oX} : ga m 212 20 0 o = o := ga_212 (n := 0) (by decide)
theorem gy_212 {m : eM} {o : oX} : ga m 212 20 1 o = o := ga_212 (n := 1) (by decide)
theorem gx_212 {m : eM} {o : oX} : gw m 212 20 0 o = o := gw_212 (n := 0) (by decide)
theorem gz_213 {m : eM} {o : oX} : ga m 213 20 0 o = o := ga_213 (n := 0) (by decide)
theorem gy_213 {m : eM} {o : oX} : ga m 213 20 1 o = o := ga_213 (n := 1) (by decide)
theorem gx_213 {m : eM} {o : oX} : gw m 213 20 0 o = o := gw_213 (n := 0) (by decide)
theorem gz_214 {m : eM} {o : oX} : ga m 214 20 0 o = o := ga_214 (n := 0) (by decide)
theorem gy_214 {m : eM} {o : oX} : ga m 214 20 1 o = o := ga_214 (n := 1) (by decide)
theorem gx_214 {m : eM} {o : oX} : gw m 214 20 0 o = o := gw_214 (n := 0) (by decide)
theorem gz_215 {m : eM} {o : oX} : ga m 215 20 0 o = o := ga_215 (n := 0) (by decide)
theorem gy_215 {m : eM} {o : oX} : ga m 215 20 1 o = o := ga_215 (n := 1) (by decide)
theorem gx_215 {m : eM} {o : oX} : gw m 215 20 0 o = o := gw_215 (n := 0) (by decide)
theorem gz_216 {m : eM} {o : oX} : ga m 216 20 0 o = o := ga_216 (n := 0) (by decide)
theorem gy_216 {m : eM} {o : oX} : ga m 216 20 1 o = o := ga_216 (n := 1) (by decide)
theorem gx_216 {m : eM} {o : oX} : gw m 216 20 0 o = o := gw_216 (n := 0) (by decide)
theorem gz_217 {m : eM} {o : oX} : ga m 217 20 0 o = o := ga_217 (n := 0) (by decide)
theorem gy_217 {m : eM} {o : oX} : ga m 217 20 1 o = o := ga_217 (n := 1) (by decide)
theorem gx_217 {m : eM} {o : oX} : gw m 217 20 0 o = o := gw_217 (n := 0) (by decide)
theorem gz_218 {m : eM} {o : oX} : ga m 218 23 0 o = o := ga_218 (n := 0) (by decide)
theorem gy_218 {m : eM} {o : oX} : ga m 218 23 1 o = o := ga_218 (n := 1) (by decide)
theorem gx_218 {m : eM} {o : oX} : gw m 218 23 0 o = o := gw_218 (n := 0) (by decide)
theorem gz_219 {m : eM} {o : oX} : ga m 219 21 0 o = o := ga_219 (n := 0) (by decide)
theorem gy_219 {m : eM} {o : oX} : ga m 219 21 1 o = o := ga_219 (n := 1) (by decide)
theorem gx_219 {m : eM} {o : oX} : gw m 219 21 0 o = o := gw_219 (n := 0) (by decide)
theorem gz_220 {m : eM} {o : oX} : ga m 220 20 0 o = o := ga_220 (n := 0) (by decide)
theorem gy_220 {m : eM} {o : oX} : ga m 220 20 1 o = o := ga_220 (n := 1) (by decide)
theorem gx_220 {m : eM} {o : oX} : gw m 220 20 0 o = o := gw_220 (n := 0) (by decide)
theorem gz_221 {m : eM} {o : oX} : ga m 221 20 0 o = o := ga_221 (n := 0) (by decide)
theorem gy_221 : True := trivial
theorem gx_221 {m : eM} {o : oX} : gw m 221 20 0 o = o := gw_221 (n := 0) (by decide)
theorem gz_222 {m : eM} {o : oX} : ga m 222 20 0 o = o := ga_222 (n := 0) (by decide)
theorem gy_222 : True := trivial
theorem gx_222 {m : eM} {o : oX} : gw m 222 20 0 o = o := gw_222 (n := 0) (by decide)
theorem gz_223 {m : eM} {o : oX} : ga m 223 20 0 o = o := ga_223 (n := 0) (by decide)
theorem gy_223 {m : eM} {o : oX} : ga m 223 20 1 o = o := ga_223 (n := 1) (by decide)
theorem gx_223 {m : eM} {o : oX} : gw m 223 20 0 o = o := gw_223 (n := 0) (by decide)
theorem gz_224 {m : eM} {o : oX} : ga m 224 23 0 o = o := ga_224 (n := 0) (by decide)
theorem gy_224 {m : eM} {o : oX} : ga m 224 23 1 o = o := ga_224 (n := 1) (by decide)
theorem gx_224 {m : eM} {o : oX} : gw m 224 23 0 o = o := gw_224 (n := 0) (by decide)
theorem gz_225 {m : eM} {o : oX} : ga m 225 20 0 o = o := ga_225 (n := 0) (by decide)
theorem gy_225 {m : eM} {o : oX} : ga m 225 20 1 o = o := ga_225 (n := 1) (by decide)
theorem gx_225 {m : eM} {o : oX} : gw m 225 20 0 o = o := gw_225 (n := 0) (by decide)
theorem gz_226 {m : eM} {o : oX} : ga m 226 20 0 o = o := ga_226 (n := 0) (by decide)
theorem gy_226 {m : eM} {o : oX} : ga m 226 20 1 o = o := ga_226 (n := 1) (by decide)
theorem gx_226 {m : eM} {o : oX} : gw m 226 20 0 o = o := gw_226 (n := 0) (by decide)
theorem gz_227 {m : eM} {o : oX} : ga m 227 20 0 o = o := ga_227 (n := 0) (by decide)
theorem gy_227 {m : eM} {o : oX} : ga m 227 20 1 o = o := ga_227 (n := 1) (by decide)
theorem gx_227 {m : eM} {o : oX} : gw m 227 20 0 o = o := gw_227 (n := 0) (by decide)
theorem gz_228 {m : eM} {o : oX} : ga m 228 20 0 o = o := ga_228 (n := 0) (by decide)
theorem gy_228 {m : eM} {o : oX} : ga m 228 20 1 o = o := ga_228 (n := 1) (by decide)
theorem gx_228 {m : eM} {o : oX} : gw m 228 20 0 o = o := gw_228 (n := 0) (by decide)
theorem gz_229 {m : eM} {o : oX} : ga m 229 20 0 o = o := ga_229 (n := 0) (by decide)
theorem gy_229 {m : eM} {o : oX} : ga m 229 20 1 o = o := ga_229 (n := 1) (by decide)
theorem gx_229 {m : eM} {o : oX} : gw m 229 20 0 o = o := gw_229 (n := 0) (by decide)
theorem gz_230 {m : eM} {o : oX} : ga m 230 20 0 o = o := ga_230 (n := 0) (by decide)
theorem gy_230 {m : eM} {o : oX} : ga m 230 20 1 o = o := ga_230 (n := 1) (by decide)
theorem gx_230 {m : eM} {o : oX} : gw m 230 20 0 o = o := gw_230 (n := 0) (by decide)
theorem gz_231 {m : eM} {o : oX} : ga m 231 20 0 o = o := ga_231 (n := 0) (by decide)
theorem gy_231 {m : eM} {o : oX} : ga m 231 20 1 o = o := ga_231 (n := 1) (by decide)
theorem gx_231 {m : eM} {o : oX} : gw m 231 20 0 o = o := gw_231 (n := 0) (by decide)
theorem gz_232 {m : eM} {o : oX} : ga m 232 20 0 o = o := ga_232 (n := 0) (by decide)
theorem gy_232 {m : eM} {o : oX} : ga m 232 20 1 o = o := ga_232 (n := 1) (by decide)
theorem gx_232 {m : eM} {o : oX} : gw m 232 20 0 o = o := gw_232 (n := 0) (by decide)
theorem gz_233 {m : eM} {o : oX} : ga m 233 20 0 o = o := ga_233 (n := 0) (by decide)
theorem gy_233 {m : eM} {o : oX} : ga m 233 20 1 o = o := ga_233 (n := 1) (by decide)
theorem gx_233 {m : eM} {o : oX} : gw m 233 20 0 o = o := gw_233 (n := 0) (by decide)
theorem gz_234 {m : eM} {o : oX} : ga m 234 20 0 o = o := ga_234 (n := 0) (by decide)
theorem gy_234 {m : eM} {o : oX} : ga m 234 20 1 o = o := ga_234 (n := 1) (by decide)
theorem gx_234 {m : eM} {o : oX} : gw m 234 20 0 o = o := gw_234 (n := 0) (by decide)
theorem gz_235 {m : eM} {o : oX} : ga m 235 23 0 o = o := ga_235 (n := 0) (by decide)
theorem gy_235 {m : eM} {o : oX} : ga m 235 23 1 o = o := ga_235 (n := 1) (by decide)
theorem gx_235 {m : eM} {o : oX} : gw m 235 23 0 o = o := gw_235 (n := 0) (by decide)
theorem gz_236 {m : eM} {o : oX} : ga m 236 21 0 o = o := ga_236 (n := 0) (by decide)
theorem gy_236 {m : eM} {o : oX} : ga m 236 21 1 o = o := ga_236 (n := 1) (by decide)
theorem gx_236 {m : eM} {o : oX} : gw m 236 21 0 o = o := gw_236 (n := 0) (by decide)
theorem gz_237 {m : eM} {o : oX} : ga m 237 20 0 o = o := ga_237 (n := 0) (by decide)
theorem gy_237 {m : eM} {o : oX} : ga m 237 20 1 o = o := ga_237 (n := 1) (by decide)
theorem gx_237 {m : eM} {o : oX} : gw m 237 20 0 o = o := gw_237 (n := 0) (by decide)
theorem gz_238 {m : eM} {o : oX} : ga m 238 20 0 o = o := ga_238 (n := 0) (by decide)
theorem gy_238 {m : eM} {o : oX} : ga m 238 20 1 o = o := ga_238 (n := 1) (by decide)
theorem gx_238 {m : eM} {o : oX} : gw m 238 20 0 o = o := gw_238 (n := 0) (by decide)
theorem gz_239 {m : eM} {o : oX} : ga m 239 21 0 o = o := ga_239 (n := 0) (by decide)
theorem gy_239 {m : eM} {o : oX} : ga m 239 21 1 o = o := ga_239 (n := 1) (by decide)
theorem gx_239 {m : eM} {o : oX} : gw m 239 21 0 o = o := gw_239 (n := 0) (by decide)
theorem gz_240 {m : eM} {o : oX} : ga m 240 23 0 o = o := ga_240 (n := 0) (by decide)
theorem gy_240 {m : eM} {o : oX} : ga m 240 23 1 o = o := ga_240 (n := 1) (by decide)
theorem gx_240 {m : eM} {o : oX} : gw m 240 23 0 o = o := gw_240 (n := 0) (by decide)
theorem gz_241 {m : eM} {o : oX} : ga m 241 20 0 o = o := ga_241 (n := 0) (by decide)
theorem gy_241 {m : eM} {o : oX} : ga m 241 20 1 o = o := ga_241 (n := 1) (by decide)
theorem gx_241 {m : eM} {o : oX} : gw m 241 20 0 o = o := gw_241 (n := 0) (by decide)
theorem gz_242 {m : eM} {o : oX} : ga m 242 21 0 o = o := ga_242 (n := 0) (by decide)
theorem gy_242 {m : eM} {o : oX} : ga m 242 21 1 o = o := ga_242 (n := 1) (by decide)
theorem gx_242 {m : eM} {o : oX} : gw m 242 21 0 o = o := gw_242 (n := 0) (by decide)
theorem gz_243 {m : eM} {o : oX} : ga m 243 20 0 o = o := ga_243 (n := 0) (by decide)
theorem gy_243 {m : eM} {o : oX} : ga m 243 20 1 o = o := ga_243 (n := 1) (by decide)
theorem gx_243 {m : eM} {o : oX} : gw m 243 20 0 o = o := gw_243 (n := 0) (by decide)
theorem gz_244 {m : eM} {o : oX} : ga m 244 20 0 o = o := ga_244 (n := 0) (by decide)
theorem gy_244 {m : eM} {o : oX} : ga m 244 20 1 o = o := ga_244 (n := 1) (by decide)
theorem gx_244 {m : eM} {o : oX} : gw m 244 20 0 o = o := gw_244 (n := 0) (by decide)
theorem gz_245 {m : eM} {o : oX} : ga m 245 20 0 o = o := ga_245 (n := 0) (by decide)
theorem gy_245 {m : eM} {o : oX} : ga m 245 20 1 o = o := ga_245 (n := 1) (by decide)
theorem gx_245 {m : eM} {o : oX} : gw m 245 20 0 o = o := gw_245 (n := 0) (by decide)
theorem gz_246 {m : eM} {o : oX} : ga m 246 20 0 o = o := ga_246 (n := 0) (by decide)
theorem gy_246 {m : eM} {o : oX} : ga m 246 20 1 o = o := ga_246 (n := 1) (by decide)
theorem gx_246 {m : eM} {o : oX} : gw m 246 20 0 o = o := gw_246 (n := 0) (by decide)
theorem gz_247 {m : eM} {o : oX} : ga m 247 21 0 o = o := ga_247 (n := 0) (by decide)
theorem gy_247 {m : eM} {o : oX} : ga m 247 21 1 o = o := ga_247 (n := 1) (by decide)
theorem gx_247 {m : eM} {o : oX} : gw m 247 21 0 o = o := gw_247 (n := 0) (by decide)
theorem gz_248 {m : eM} {o : oX} : ga m 248 20 0 o = o := ga_248 (n := 0) (by decide)
theorem gy_248 {m : eM} {o : oX} : ga m 248 20 1 o = o := ga_248 (n := 1) (by decide)
theorem gx_248 {m : eM} {o : oX} : gw m 248 20 0 o = o := gw_248 (n := 0) (by decide)
theorem gz_249 {m : eM} {o : oX} : ga m 249 20 0 o = o := ga_249 (n := 0) (by decide)
theorem gy_249 {m : eM} {o : oX} : ga m 249 20 1 o = o := ga_249 (n := 1) (by decide)
theorem gx_249 {m : eM} {o : oX} : gw m 249 20 0 o = o := gw_249 (n := 0) (by decide)
theorem gz_250 {m : eM} {o : oX} : ga m 250 20 0 o = o := ga_250 (n := 0) (by decide)
theorem gy_250 {m : eM} {o : oX} : ga m 250 20 1 o = o := ga_250 (n := 1) (by decide)
theorem gx_250 {m : eM} {o : oX} : gw m 250 20 0 o = o := gw_250 (n := 0) (by decide)
theorem gz_251 {m : eM} {o : oX} : ga m 251 20 0 o = o := ga_251 (n := 0) (by decide)
theorem gy_251 {m : eM} {o : oX} : ga m 251 20 1 o = o := ga_251 (n := 1) (by decide)
theorem gx_251 {m : eM} {o : oX} : gw m 251 20 0 o = o := gw_251 (n := 0) (by decide)
theorem gz_252 {m : eM} {o : oX} : ga m 252 20 0 o = o := ga_252 (n := 0) (by decide)
theorem gy_252 {m : eM} {o : oX} : ga m 252 20 1 o = o := ga_252 (n := 1) (by decide)
theorem gx_252 {m : eM} {o : oX} : gw m 252 20 0 o = o := gw_252 (n := 0) (by decide)
theorem gz_253 {m : eM} {o : oX} : ga m 253 20 0 o = o := ga_253 (n := 0) (by decide)
theorem gy_253 {m : eM} {o : oX} : ga m 253 20 1 o = o := ga_253 (n := 1) (by decide)
theorem gx_253 {m : eM} {o : oX} : gw m 253 20 0 o = o := gw_253 (n := 0) (by decide)
theorem gz_254 {m : eM} {o : oX} : ga m 254 20 0 o = o := ga_254 (n := 0) (by decide)
theorem gy_254 {m : eM} {o : oX} : ga m 254 20 1 o = o := ga_254 (n := 1) (by decide)
theorem gx_254 {m : eM} {o : oX} : gw m 254 20 0 o = o := gw_254 (n := 0) (by decide)
theorem gz_255 {m : eM} {o : oX} : ga m 255 23 0 o = o := ga_255 (n := 0) (by decide)
theorem gy_255 {m : eM} {o : oX} : ga m 255 23 1 o = o := ga_255 (n := 1) (by decide)
theorem gx_255 {m : eM} {o : oX} : gw m 255 23 0 o = o := gw_255 (n := 0) (by decide)
theorem gz_256 {m : eM} {o : oX} : ga m 256 20 0 o = o := ga_256 (n := 0) (by decide)
theorem gy_256 {m : eM} {o : oX} : ga m 256 20 1 o = o := ga_256 (n := 1) (by decide)
theorem gx_256 {m : eM} {o : oX} : gw m 256 20 0 o = o := gw_256 (n := 0) (by decide)
theorem gz_257 {m : eM} {o : oX} : ga m 257 21 0 o = o := ga_257 (n := 0) (by decide)
theorem gy_257 {m : eM} {o : oX} : ga m 257 21 1 o = o := ga_257 (n := 1) (by decide)
theorem gx_257 {m : eM} {o : oX} : gw m 257 21 0 o = o := gw_257 (n := 0) (by decide)
/-! ===== the reference's memory holds a view ===== -/
def mpI (a j : Nat) : Option (Nat × Nat) :=
  if a = 208 then (if j = 37 then some (0, 3) else if 40 ≤ j ∧ j ≤ 44 then some (0, j - 36) else none)
  else if a = 210 ∧ j < 3 then some (0, j)
  else if 212 ≤ a ∧ a ≤ 218 ∧ (j < 2 ∨ a ≤ 215 ∧ j < 6) then some (a - 211, j)
  else if (a = 237 ∨ a = 238) ∧ j < 30 then some (a - 228, j)
  else if a = 240 ∧ j < 30 then some (11, j)
  else if 243 ≤ a ∧ a ≤ 246 ∧ j < 12 then some (a - 231, j)
  else if (a = 250 ∨ a = 251) ∧ j < 4 then some (a - 234, j)
  else none
def mpL (a j : Nat) : Option (Nat × Nat) := if a = 219 ∧ j = 0 then some (1, 0) else if a = 239 ∧ j < 30 then some (0, j) else none
def Mp (v : eV) (m : eM) : Prop := Sk m ∧ (∀ a j q, mpI a j = some q → gI m a j = nI (v.1 q.1 q.2)) ∧ (∀ a j q, mpL a j = some q → gL m a j = v.2 q.1 q.2) ∧ ∀ j, j < 18 → gL m 211 j = lN (nam v j)
theorem Mp.sk {v : eV} {m : eM} (h : Mp v m) : Sk m := h.1
theorem mp_f {v : eV} {m : eM} (h : Mp v m) : gI m 210 0 = nI (nF v) := h.2.1 210 0 (0, 0) rfl
theorem mp_pl {v : eV} {m : eM} (h : Mp v m) : gI m 210 1 = nI (nPl v) := h.2.1 210 1 (0, 1) rfl
theorem mp_p {v : eV} {m : eM} (h : Mp v m) : gI m 210 2 = nI (nP v) := h.2.1 210 2 (0, 2) rfl
theorem mp_cm {v : eV} {m : eM} (h : Mp v m) : gI m 208 37 = nI (nCm v) := h.2.1 208 37 (0, 3) rfl
theorem mp_s {v : eV} {m : eM} (h : Mp v m) : gI m 208 40 = nI (nS v) := h.2.1 208 40 (0, 4) rfl
theorem mp_o {v : eV} {m : eM} (h : Mp v m) : gI m 208 41 = nI (nO v) := h.2.1 208 41 (0, 5) rfl
theorem mp_l {v : eV} {m : eM} (h : Mp v m) : gI m 208 42 = nI (nL v) := h.2.1 208 42 (0, 6) rfl
theorem mp_w {v : eV} {m : eM} (h : Mp v m) : gI m 208 43 = nI (nWt v) := h.2.1 208 43 (0, 7) rfl
theorem mp_t {v : eV} {m : eM} (h : Mp v m) : gI m 208 44 = nI (tru v) := h.2.1 208 44 (0, 8) rfl
theorem mp_cha {v : eV} {m : eM} {j : Nat} (h : Mp v m) (hj : j < 6) : gI m 212 j = nI (cha v j) := h.2.1 212 j (1, j) (by simp [mpI, hj])
theorem mp_bea {v : eV} {m : eM} {j : Nat} (h : Mp v m) (hj : j < 6) : gI m 213 j = nI (bea v j) := h.2.1 213 j (2, j) (by simp [mpI, hj])
theorem mp_hom {v : eV} {m : eM} {j : Nat} (h : Mp v m) (hj : j < 6) : gI m 214 j = nI (hom v j) := h.2.1 214 j (3, j) (by simp [mpI, hj])
theorem mp_kno {v : eV} {m : eM} {j : Nat} (h : Mp v m) (hj : j < 6) : gI m 215 j = nI (kno v j) := h.2.1 215 j (4, j) (by simp [mpI, hj])
theorem mp_law {v : eV} {m : eM} {j : Nat} (h : Mp v m) (hj : j < 2) : gI m 216 j = nI (lawV v j) := h.2.1 216 j (5, j) (by simp [mpI, hj])
theorem mp_lat {v : eV} {m : eM} {j : Nat} (h : Mp v m) (hj : j < 2) : gI m 217 j = nI (lat v j) := h.2.1 217 j (6, j) (by simp [mpI, hj])
theorem mp_isc {v : eV} {m : eM} {j : Nat} (h : Mp v m) (hj : j < 2) : gI m 218 j = nI (isc v j) := h.2.1 218 j (7, j) (by simp [mpI, hj])
theorem mp_who {v : eV} {m : eM} {j : Nat} (h : Mp v m) (hj : j < 30) : gI m 237 j = nI (who v j) := h.2.1 237 j (9, j) (by simp [mpI, hj])
theorem mp_whn {v : eV} {m : eM} {j : Nat} (h : Mp v m) (hj : j < 30) : gI m 238 j = nI (whn v j) := h.2.1 238 j (10, j) (by simp [mpI, hj])
theorem mp_isq {v : eV} {m : eM} {j : Nat} (h : Mp v m) (hj : j < 30) : gI m 240 j = nI (isq v j) := h.2.1 240 j (11, j) (by simp [mpI, hj])
theorem mp_so {v : eV} {m : eM} {j : Nat} (h : Mp v m) (hj : j < 30) : gL m 239 j = soV v j := h.2.2.1 239 j (0, j) (by simp [mpL, hj])
theorem mp_com {v : eV} {m : eM} (h : Mp v m) : gL m 219 0 = com v := h.2.2.1 219 0 (1, 0) rfl
theorem mp_lc {v : eV} {m : eM} {j : Nat} (h : Mp v m) (hj : j < 12) : gI m 243 j = nI (lkC v j) := h.2.1 243 j (12, j) (by simp [mpI, hj])
theorem mp_lm {v : eV} {m : eM} {j : Nat} (h : Mp v m) (hj : j < 12) : gI m 244 j = nI (lkM v j) := h.2.1 244 j (13, j) (by simp [mpI, hj])
theorem mp_lf {v : eV} {m : eM} {j : Nat} (h : Mp v m) (hj : j < 12) : gI m 245 j = nI (lkF v j) := h.2.1 245 j (14, j) (by simp [mpI, hj])
theorem mp_lt {v : eV} {m : eM} {j : Nat} (h : Mp v m) (hj : j < 12) : gI m 246 j = nI (lkT v j) := h.2.1 246 j (15, j) (by simp [mpI, hj])
theorem mp_wc {v : eV} {m : eM} {j : Nat} (h : Mp v m) (hj : j < 4) : gI m 250 j = nI (wtC v j) := h.2.1 250 j (16, j) (by simp [mpI, hj])
theorem mp_wm {v : eV} {m : eM} {j : Nat} (h : Mp v m) (hj : j < 4) : gI m 251 j = nI (wtM v j) := h.2.1 251 j (17, j) (by simp [mpI, hj])
/-- what lasts of the reference's cells -/
def pM (a j : Nat) : Bool := decide ((a = 208 ∧ (j = 1 ∨ j = 37 ∨ 40 ≤ j ∧ j ≤ 44)) ∨ a = 209 ∨ (a = 210 ∧ j < 3) ∨ (a = 211 ∧ j < 18) ∨ (212 ≤ a ∧ a ≤ 215 ∧ j < 6) ∨ (216 ≤ a ∧ a ≤ 218 ∧ j < 2) ∨ (a = 219 ∧ j = 0) ∨ (237 ≤ a ∧ a ≤ 240 ∧ j < 30) ∨ (243 ≤ a ∧ a ≤ 246) ∨ a = 250 ∨ a = 251 ∨ (255 ≤ a ∧ a ≤ 257))
theorem mpI_p {a j : Nat} {q : Nat × Nat} (h : mpI a j = some q) : pM a j = true := by
  unfold mpI at h
  apply decide_eq_true
  split at h
  · split at h
    · omega
    · split at h
      · omega
      · cases h
  · split at h
    · omega
    · split at h
      · omega
      · split at h
        · omega
        · split at h
          · omega
          · split at h
            · omega
            · split at h
              · omega
              · cases h
theorem mpL_p {a j : Nat} {q : Nat × Nat} (h : mpL a j = some q) : pM a j = true := by
  unfold mpL at h
  apply decide_eq_true
  split at h
  · omega
  · split at h
    · omega
    · cases h
theorem Mp.fr {v : eV} {m m' : eM} {S : Nat → Nat → Bool} (h : Mp v m) (f : Fr S m m') (hS : ∀ a j, pM a j = true → S a j = false) : Mp v m' :=
  ⟨f.sk h.1, fun a j q z => (f.1 a j (hS a j (mpI_p z))).trans (h.2.1 a j q z), fun a j q z => (f.2.1 a j (hS a j (mpL_p z))).trans (h.2.2.1 a j q z), fun j z => (f.2.1 211 j (hS 211 j (decide_eq_true (by omega)))).trans (h.2.2.2 j z)⟩
/-- what a question of the reference may write -/
def sQ (a j : Nat) : Bool := decide (208 ≤ a ∧ a ≤ 257 ∧ a ≠ 221) && !pM a j
theorem sQ_p (a j : Nat) (h : pM a j = true) : sQ a j = false := by unfold sQ; rw [h, Bool.not_true, Bool.and_false]
theorem Mp.q {v : eV} {m m' : eM} (h : Mp v m) (f : Fr sQ m m') : Mp v m' := h.fr f sQ_p
theorem Mp.si {v : eV} {m : eM} (h : Mp v m) {a j : Nat} (hS : sQ a j = true) (x : Int32) : Mp v (sI m a j x) := h.q (Fr.rfl'.i hS)
theorem Mp.sl {v : eV} {m : eM} (h : Mp v m) {a j : Nat} (hS : sQ a j = true) (x : Int64) : Mp v (sL m a j x) := h.q (Fr.rfl'.l hS)
/-! ===== the reference's small methods ===== -/
theorem Mo_isIn_s (d : Nat) (y : Int64) {k : Nat} (hk : k < 64) (m : eM) : Mo_isIn d y (nI k) m = yI (bb (tb y k)) m := by
  rw [Mo_isIn_e, bit_s hk]
  by_cases h : tb y k = true <;> simp [h, cmp0, bb]
theorem Mo_isPerson_s {v : eV} {m : eM} (h : Mp v m) (hs : Sk m) (d : Nat) (x : Int32) : Mo_isPerson d 208 x m = yI (bb (inN x (nP v))) m := by
  rw [Mo_isPerson_e _ _ _ _ kd_208]
  simp (disch := first | assumption | omega) only [bR_s, bI_y, bL_y, bV_y, mI_u, mJ_u, mQ_u, lI_u, lL_u, toI, gI_sI, gI_sL, gL_sI, gL_sL, gR_sI, gR_sL, bb_0, bb_1, n_lt0, n_ge0, n_eq, n_le, n_lt, n_eq0, n_eq1, n_le0, n_cl, n_cl0, n_cl1, nI_1, nI_add, false_and, and_false, true_and, and_true, if_true, if_false, not_true, not_false_iff, Classical.not_not, eq_self, Bool.false_eq_true, not_lt_zero, Nat.reduceEqDiff, Nat.reduceAdd, Nat.reduceSub, Nat.reduceMul, Nat.reduceLeDiff, Nat.reduceLT, l_2, l_3, l_4, l_5, l_6, l_7, l_8, l_9, l_10, l_12, l_15, l_16, l_18, l_20, l_21, l_22, l_24, l_25, l_26, l_27, l_28, l_29, l_30, l_32, l_36, l_40, l_41, l_42, l_43, l_45, l_48, l_56, l_57, l_59, l_60, l_61, l_62, l_63, l_64, l_97, l_99, l_100, l_122, l_126, l_127, l_168, l_180, l_255, l_300, l_359, l_360, l_400, l_1000, l_1200, l_1439, l_1440, l_1536, l_4096, rf_208_2, rf_208_10, rf_208_11, rf_208_12, rf_208_13, rf_208_14, rf_208_15, rf_208_16, rf_208_17, rf_208_18, rf_208_19, rf_208_20, rf_208_21, rf_208_22, rf_208_24, rf_208_25, rf_208_26, rf_208_27, rf_208_28, rf_208_29, rf_208_30, rf_208_31, rf_208_32, rf_208_33, rf_208_34, rf_208_35, rf_208_36, rf_208_39, rf_208_45, rf_208_46, rf_208_47, rf_208_48, rf_208_49, rf_208_51, rf_208_52, rf_208_53, rf_208_54, rf_208_55, rf_208_56, rf_208_57, rf_208_58, rf_208_59, rf_208_60, rf_208_62, rf_208_63, rf_208_64, rf_208_65, rf_208_66, rf_208_67, gl_209, ga_209, gw_209, al_209, gz_209, gy_209, gx_209, gl_210, ga_210, gw_210, al_210, gz_210, gy_210, gx_210, gl_211, ga_211, gw_211, al_211, gz_211, gy_211, gx_211, gl_212, ga_212, gw_212, al_212, gz_212, gy_212, gx_212, gl_213, ga_213, gw_213, al_213, gz_213, gy_213, gx_213, gl_214, ga_214, gw_214, al_214, gz_214, gy_214, gx_214, gl_215, ga_215, gw_215, al_215, gz_215, gy_215, gx_215, gl_216, ga_216, gw_216, al_216, gz_216, gy_216, gx_216, gl_217, ga_217, gw_217, al_217, gz_217, gy_217, gx_217, gl_218, ga_218, gw_218, al_218, gz_218, gy_218, gx_218, gl_219, ga_219, gw_219, al_219, gz_219, gy_219, gx_219, gl_220, ga_220, gw_220, al_220, gz_220, gy_220, gx_220, gl_221, ga_221, gw_221, al_221, gz_221, gy_221, gx_221, gl_222, ga_222, gw_222, al_222, gz_222, gy_222, gx_222, gl_223, ga_223, gw_223, al_223, gz_223, gy_223, gx_223, gl_224, ga_224, gw_224, al_224, gz_224, gy_224, gx_224, gl_225, ga_225, gw_225, al_225, gz_225, gy_225, gx_225, gl_226, ga_226, gw_226, al_226, gz_226, gy_226, gx_226, gl_227, ga_227, gw_227, al_227, gz_227, gy_227, gx_227, gl_228, ga_228, gw_228, al_228, gz_228, gy_228, gx_228, gl_229, ga_229, gw_229, al_229, gz_229, gy_229, gx_229, gl_230, ga_230, gw_230, al_230, gz_230, gy_230, gx_230, gl_231, ga_231, gw_231, al_231, gz_231, gy_231, gx_231, gl_232, ga_232, gw_232, al_232, gz_232, gy_232, gx_232, gl_233, ga_233, gw_233, al_233, gz_233, gy_233, gx_233, gl_234, ga_234, gw_234, al_234, gz_234, gy_234, gx_234, gl_235, ga_235, gw_235, al_235, gz_235, gy_235, gx_235, gl_236, ga_236, gw_236, al_236, gz_236, gy_236, gx_236, gl_237, ga_237, gw_237, al_237, gz_237, gy_237, gx_237, gl_238, ga_238, gw_238, al_238, gz_238, gy_238, gx_238, gl_239, ga_239, gw_239, al_239, gz_239, gy_239, gx_239, gl_240, ga_240, gw_240, al_240, gz_240, gy_240, gx_240, gl_241, ga_241, gw_241, al_241, gz_241, gy_241, gx_241, gl_242, ga_242, gw_242, al_242, gz_242, gy_242, gx_242, gl_243, ga_243, gw_243, al_243, gz_243, gy_243, gx_243, gl_244, ga_244, gw_244, al_244, gz_244, gy_244, gx_244, gl_245, ga_245, gw_245, al_245, gz_245, gy_245, gx_245, gl_246, ga_246, gw_246, al_246, gz_246, gy_246, gx_246, gl_247, ga_247, gw_247, al_247, gz_247, gy_247, gx_247, gl_248, ga_248, gw_248, al_248, gz_248, gy_248, gx_248, gl_249, ga_249, gw_249, al_249, gz_249, gy_249, gx_249, gl_250, ga_250, gw_250, al_250, gz_250, gy_250, gx_250, gl_251, ga_251, gw_251, al_251, gz_251, gy_251, gx_251, gl_252, ga_252, gw_252, al_252, gz_252, gy_252, gx_252, gl_253, ga_253, gw_253, al_253, gz_253, gy_253, gx_253, gl_254, ga_254, gw_254, al_254, gz_254, gy_254, gx_254, gl_255, ga_255, gw_255, al_255, gz_255, gy_255, gx_255, gl_256, ga_256, gw_256, al_256, gz_256, gy_256, gx_256, gl_257, ga_257, gw_257, al_257, gz_257, gy_257, gx_257, mp_f, mp_pl, mp_p, mp_cm, mp_s, mp_o, mp_l, mp_w, mp_t, mp_cha, mp_bea, mp_hom, mp_kno, mp_law, mp_lat, mp_isc, mp_who, mp_whn, mp_isq, mp_so, mp_com, mp_lc, mp_lm, mp_lf, mp_lt, mp_wc, mp_wm]
  rw [inN_t, yI_if]
theorem Mo_isFact_s {v : eV} {m : eM} (h : Mp v m) (hs : Sk m) (d : Nat) (x : Int32) : Mo_isFact d 208 x m = yI (bb (inN x (nF v))) m := by
  rw [Mo_isFact_e _ _ _ _ kd_208]
  simp (disch := first | assumption | omega) only [bR_s, bI_y, bL_y, bV_y, mI_u, mJ_u, mQ_u, lI_u, lL_u, toI, gI_sI, gI_sL, gL_sI, gL_sL, gR_sI, gR_sL, bb_0, bb_1, n_lt0, n_ge0, n_eq, n_le, n_lt, n_eq0, n_eq1, n_le0, n_cl, n_cl0, n_cl1, nI_1, nI_add, false_and, and_false, true_and, and_true, if_true, if_false, not_true, not_false_iff, Classical.not_not, eq_self, Bool.false_eq_true, not_lt_zero, Nat.reduceEqDiff, Nat.reduceAdd, Nat.reduceSub, Nat.reduceMul, Nat.reduceLeDiff, Nat.reduceLT, l_2, l_3, l_4, l_5, l_6, l_7, l_8, l_9, l_10, l_12, l_15, l_16, l_18, l_20, l_21, l_22, l_24, l_25, l_26, l_27, l_28, l_29, l_30, l_32, l_36, l_40, l_41, l_42, l_43, l_45, l_48, l_56, l_57, l_59, l_60, l_61, l_62, l_63, l_64, l_97, l_99, l_100, l_122, l_126, l_127, l_168, l_180, l_255, l_300, l_359, l_360, l_400, l_1000, l_1200, l_1439, l_1440, l_1536, l_4096, rf_208_2, rf_208_10, rf_208_11, rf_208_12, rf_208_13, rf_208_14, rf_208_15, rf_208_16, rf_208_17, rf_208_18, rf_208_19, rf_208_20, rf_208_21, rf_208_22, rf_208_24, rf_208_25, rf_208_26, rf_208_27, rf_208_28, rf_208_29, rf_208_30, rf_208_31, rf_208_32, rf_208_33, rf_208_34, rf_208_35, rf_208_36, rf_208_39, rf_208_45, rf_208_46, rf_208_47, rf_208_48, rf_208_49, rf_208_51, rf_208_52, rf_208_53, rf_208_54, rf_208_55, rf_208_56, rf_208_57, rf_208_58, rf_208_59, rf_208_60, rf_208_62, rf_208_63, rf_208_64, rf_208_65, rf_208_66, rf_208_67, gl_209, ga_209, gw_209, al_209, gz_209, gy_209, gx_209, gl_210, ga_210, gw_210, al_210, gz_210, gy_210, gx_210, gl_211, ga_211, gw_211, al_211, gz_211, gy_211, gx_211, gl_212, ga_212, gw_212, al_212, gz_212, gy_212, gx_212, gl_213, ga_213, gw_213, al_213, gz_213, gy_213, gx_213, gl_214, ga_214, gw_214, al_214, gz_214, gy_214, gx_214, gl_215, ga_215, gw_215, al_215, gz_215, gy_215, gx_215, gl_216, ga_216, gw_216, al_216, gz_216, gy_216, gx_216, gl_217, ga_217, gw_217, al_217, gz_217, gy_217, gx_217, gl_218, ga_218, gw_218, al_218, gz_218, gy_218, gx_218, gl_219, ga_219, gw_219, al_219, gz_219, gy_219, gx_219, gl_220, ga_220, gw_220, al_220, gz_220, gy_220, gx_220, gl_221, ga_221, gw_221, al_221, gz_221, gy_221, gx_221, gl_222, ga_222, gw_222, al_222, gz_222, gy_222, gx_222, gl_223, ga_223, gw_223, al_223, gz_223, gy_223, gx_223, gl_224, ga_224, gw_224, al_224, gz_224, gy_224, gx_224, gl_225, ga_225, gw_225, al_225, gz_225, gy_225, gx_225, gl_226, ga_226, gw_226, al_226, gz_226, gy_226, gx_226, gl_227, ga_227, gw_227, al_227, gz_227, gy_227, gx_227, gl_228, ga_228, gw_228, al_228, gz_228, gy_228, gx_228, gl_229, ga_229, gw_229, al_229, gz_229, gy_229, gx_229, gl_230, ga_230, gw_230, al_230, gz_230, gy_230, gx_230, gl_231, ga_231, gw_231, al_231, gz_231, gy_231, gx_231, gl_232, ga_232, gw_232, al_232, gz_232, gy_232, gx_232, gl_233, ga_233, gw_233, al_233, gz_233, gy_233, gx_233, gl_234, ga_234, gw_234, al_234, gz_234, gy_234, gx_234, gl_235, ga_235, gw_235, al_235, gz_235, gy_235, gx_235, gl_236, ga_236, gw_236, al_236, gz_236, gy_236, gx_236, gl_237, ga_237, gw_237, al_237, gz_237, gy_237, gx_237, gl_238, ga_238, gw_238, al_238, gz_238, gy_238, gx_238, gl_239, ga_239, gw_239, al_239, gz_239, gy_239, gx_239, gl_240, ga_240, gw_240, al_240, gz_240, gy_240, gx_240, gl_241, ga_241, gw_241, al_241, gz_241, gy_241, gx_241, gl_242, ga_242, gw_242, al_242, gz_242, gy_242, gx_242, gl_243, ga_243, gw_243, al_243, gz_243, gy_243, gx_243, gl_244, ga_244, gw_244, al_244, gz_244, gy_244, gx_244, gl_245, ga_245, gw_245, al_245, gz_245, gy_245, gx_245, gl_246, ga_246, gw_246, al_246, gz_246, gy_246, gx_246, gl_247, ga_247, gw_247, al_247, gz_247, gy_247, gx_247, gl_248, ga_248, gw_248, al_248, gz_248, gy_248, gx_248, gl_249, ga_249, gw_249, al_249, gz_249, gy_249, gx_249, gl_250, ga_250, gw_250, al_250, gz_250, gy_250, gx_250, gl_251, ga_251, gw_251, al_251, gz_251, gy_251, gx_251, gl_252, ga_252, gw_252, al_252, gz_252, gy_252, gx_252, gl_253, ga_253, gw_253, al_253, gz_253, gy_253, gx_253, gl_254, ga_254, gw_254, al_254, gz_254, gy_254, gx_254, gl_255, ga_255, gw_255, al_255, gz_255, gy_255, gx_255, gl_256, ga_256, gw_256, al_256, gz_256, gy_256, gx_256, gl_257, ga_257, gw_257, al_257, gz_257, gy_257, gx_257, mp_f, mp_pl, mp_p, mp_cm, mp_s, mp_o, mp_l, mp_w, mp_t, mp_cha, mp_bea, mp_hom, mp_kno, mp_law, mp_lat, mp_isc, mp_who, mp_whn, mp_isq, mp_so, mp_com, mp_lc, mp_lm, mp_lf, mp_lt, mp_wc, mp_wm]
  rw [inN_t, yI_if]
theorem Mo_isWorld_s {v : eV} (hv : Va v) {m : eM} (h : Mp v m) (hs : Sk m) (d : Nat) (x : Int32) : Mo_isWorld d 208 x m = yI (bb (inN x (2 ^ nF v))) m := by
  have hf := hv.f; have hpl := hv.pl; have hp := hv.p; have hcm := hv.cm; have hss := hv.s; have hoo := hv.o; have hll := hv.l; have hww := hv.wt; have hW := W_le hv; have hW0 := @W_pos v; have htr := hv.tr
  rw [Mo_isWorld_e _ _ _ _ kd_208]
  simp (disch := first | assumption | omega) only [bR_s, bI_y, bL_y, bV_y, mI_u, mJ_u, mQ_u, lI_u, lL_u, toI, gI_sI, gI_sL, gL_sI, gL_sL, gR_sI, gR_sL, bb_0, bb_1, n_lt0, n_ge0, n_eq, n_le, n_lt, n_eq0, n_eq1, n_le0, n_cl, n_cl0, n_cl1, nI_1, nI_add, false_and, and_false, true_and, and_true, if_true, if_false, not_true, not_false_iff, Classical.not_not, eq_self, Bool.false_eq_true, not_lt_zero, Nat.reduceEqDiff, Nat.reduceAdd, Nat.reduceSub, Nat.reduceMul, Nat.reduceLeDiff, Nat.reduceLT, l_2, l_3, l_4, l_5, l_6, l_7, l_8, l_9, l_10, l_12, l_15, l_16, l_18, l_20, l_21, l_22, l_24, l_25, l_26, l_27, l_28, l_29, l_30, l_32, l_36, l_40, l_41, l_42, l_43, l_45, l_48, l_56, l_57, l_59, l_60, l_61, l_62, l_63, l_64, l_97, l_99, l_100, l_122, l_126, l_127, l_168, l_180, l_255, l_300, l_359, l_360, l_400, l_1000, l_1200, l_1439, l_1440, l_1536, l_4096, rf_208_2, rf_208_10, rf_208_11, rf_208_12, rf_208_13, rf_208_14, rf_208_15, rf_208_16, rf_208_17, rf_208_18, rf_208_19, rf_208_20, rf_208_21, rf_208_22, rf_208_24, rf_208_25, rf_208_26, rf_208_27, rf_208_28, rf_208_29, rf_208_30, rf_208_31, rf_208_32, rf_208_33, rf_208_34, rf_208_35, rf_208_36, rf_208_39, rf_208_45, rf_208_46, rf_208_47, rf_208_48, rf_208_49, rf_208_51, rf_208_52, rf_208_53, rf_208_54, rf_208_55, rf_208_56, rf_208_57, rf_208_58, rf_208_59, rf_208_60, rf_208_62, rf_208_63, rf_208_64, rf_208_65, rf_208_66, rf_208_67, gl_209, ga_209, gw_209, al_209, gz_209, gy_209, gx_209, gl_210, ga_210, gw_210, al_210, gz_210, gy_210, gx_210, gl_211, ga_211, gw_211, al_211, gz_211, gy_211, gx_211, gl_212, ga_212, gw_212, al_212, gz_212, gy_212, gx_212, gl_213, ga_213, gw_213, al_213, gz_213, gy_213, gx_213, gl_214, ga_214, gw_214, al_214, gz_214, gy_214, gx_214, gl_215, ga_215, gw_215, al_215, gz_215, gy_215, gx_215, gl_216, ga_216, gw_216, al_216, gz_216, gy_216, gx_216, gl_217, ga_217, gw_217, al_217, gz_217, gy_217, gx_217, gl_218, ga_218, gw_218, al_218, gz_218, gy_218, gx_218, gl_219, ga_219, gw_219, al_219, gz_219, gy_219, gx_219, gl_220, ga_220, gw_220, al_220, gz_220, gy_220, gx_220, gl_221, ga_221, gw_221, al_221, gz_221, gy_221, gx_221, gl_222, ga_222, gw_222, al_222, gz_222, gy_222, gx_222, gl_223, ga_223, gw_223, al_223, gz_223, gy_223, gx_223, gl_224, ga_224, gw_224, al_224, gz_224, gy_224, gx_224, gl_225, ga_225, gw_225, al_225, gz_225, gy_225, gx_225, gl_226, ga_226, gw_226, al_226, gz_226, gy_226, gx_226, gl_227, ga_227, gw_227, al_227, gz_227, gy_227, gx_227, gl_228, ga_228, gw_228, al_228, gz_228, gy_228, gx_228, gl_229, ga_229, gw_229, al_229, gz_229, gy_229, gx_229, gl_230, ga_230, gw_230, al_230, gz_230, gy_230, gx_230, gl_231, ga_231, gw_231, al_231, gz_231, gy_231, gx_231, gl_232, ga_232, gw_232, al_232, gz_232, gy_232, gx_232, gl_233, ga_233, gw_233, al_233, gz_233, gy_233, gx_233, gl_234, ga_234, gw_234, al_234, gz_234, gy_234, gx_234, gl_235, ga_235, gw_235, al_235, gz_235, gy_235, gx_235, gl_236, ga_236, gw_236, al_236, gz_236, gy_236, gx_236, gl_237, ga_237, gw_237, al_237, gz_237, gy_237, gx_237, gl_238, ga_238, gw_238, al_238, gz_238, gy_238, gx_238, gl_239, ga_239, gw_239, al_239, gz_239, gy_239, gx_239, gl_240, ga_240, gw_240, al_240, gz_240, gy_240, gx_240, gl_241, ga_241, gw_241, al_241, gz_241, gy_241, gx_241, gl_242, ga_242, gw_242, al_242, gz_242, gy_242, gx_242, gl_243, ga_243, gw_243, al_243, gz_243, gy_243, gx_243, gl_244, ga_244, gw_244, al_244, gz_244, gy_244, gx_244, gl_245, ga_245, gw_245, al_245, gz_245, gy_245, gx_245, gl_246, ga_246, gw_246, al_246, gz_246, gy_246, gx_246, gl_247, ga_247, gw_247, al_247, gz_247, gy_247, gx_247, gl_248, ga_248, gw_248, al_248, gz_248, gy_248, gx_248, gl_249, ga_249, gw_249, al_249, gz_249, gy_249, gx_249, gl_250, ga_250, gw_250, al_250, gz_250, gy_250, gx_250, gl_251, ga_251, gw_251, al_251, gz_251, gy_251, gx_251, gl_252, ga_252, gw_252, al_252, gz_252, gy_252, gx_252, gl_253, ga_253, gw_253, al_253, gz_253, gy_253, gx_253, gl_254, ga_254, gw_254, al_254, gz_254, gy_254, gx_254, gl_255, ga_255, gw_255, al_255, gz_255, gy_255, gx_255, gl_256, ga_256, gw_256, al_256, gz_256, gy_256, gx_256, gl_257, ga_257, gw_257, al_257, gz_257, gy_257, gx_257, mp_f, mp_pl, mp_p, mp_cm, mp_s, mp_o, mp_l, mp_w, mp_t, mp_cha, mp_bea, mp_hom, mp_kno, mp_law, mp_lat, mp_isc, mp_who, mp_whn, mp_isq, mp_so, mp_com, mp_lc, mp_lm, mp_lf, mp_lt, mp_wc, mp_wm, shl1]
  rw [inN_t, yI_if]
theorem Mo_isMinute_s (d : Nat) (x : Int32) (m : eM) : Mo_isMinute d x m = yI (bb (inN x 1440)) m := by
  rw [Mo_isMinute_e, l_1440, inN_t, yI_if]
theorem Mo_isBearing_s (d : Nat) (x : Int32) (m : eM) : Mo_isBearing d x m = yI (bb (inN x 360)) m := by
  rw [Mo_isBearing_e, l_360, inN_t, yI_if]
theorem Mo_isWithin_s (d : Nat) {b x y : Nat} (hb : b < 1000) (hx : x < 1000) (hy : y < 1000) (m : eM) : Mo_isWithin d (nI b) (nI x) (nI y) m = yI (bb (wiB b x y)) m := by
  rw [Mo_isWithin_e]
  simp (disch := first | assumption | omega) only [n_lt, n_le]
  unfold wiB
  by_cases h1 : x ≤ y <;> by_cases h2 : x ≤ b <;> by_cases h3 : b ≤ y <;> simp [h1, h2, h3, bb, Nat.not_lt.mpr, Nat.lt_of_not_le] <;> omega
theorem Mo_isThere_s {v : eV} (hv : Va v) {m : eM} (h : Mp v m) (hs : Sk m) (d : Nat) (x : Int32) : Mo_isThere d 208 x m = yI (bb (thr v x)) m := by
  have hf := hv.f; have hpl := hv.pl; have hp := hv.p; have hcm := hv.cm; have hss := hv.s; have hoo := hv.o; have hll := hv.l; have hww := hv.wt; have hW := W_le hv; have hW0 := @W_pos v; have htr := hv.tr
  rw [Mo_isThere_e _ _ _ _ kd_208]
  unfold thr
  rcases pk_ix x (n := 2) (by decide) with z | z | ⟨j, hj, rfl⟩
  · rw [if_pos z]; unfold inN; rw [decide_eq_true z]; rfl
  · by_cases z1 : x < 0
    · rw [if_pos z1]; unfold inN; rw [decide_eq_true z1]; rfl
    · rw [if_neg z1, l_2, if_pos z]; unfold inN; rw [decide_eq_true z, Bool.not_true, Bool.and_false]; rfl
  · have hic := hv.ic hj
    rw [inN_n (by omega) (by omega), decide_eq_true hj]
    simp (disch := first | assumption | omega) only [bR_s, bI_y, bL_y, bV_y, mI_u, mJ_u, mQ_u, lI_u, lL_u, toI, gI_sI, gI_sL, gL_sI, gL_sL, gR_sI, gR_sL, bb_0, bb_1, n_lt0, n_ge0, n_eq, n_le, n_lt, n_eq0, n_eq1, n_le0, n_cl, n_cl0, n_cl1, nI_1, nI_add, false_and, and_false, true_and, and_true, if_true, if_false, not_true, not_false_iff, Classical.not_not, eq_self, Bool.false_eq_true, not_lt_zero, Nat.reduceEqDiff, Nat.reduceAdd, Nat.reduceSub, Nat.reduceMul, Nat.reduceLeDiff, Nat.reduceLT, l_2, l_3, l_4, l_5, l_6, l_7, l_8, l_9, l_10, l_12, l_15, l_16, l_18, l_20, l_21, l_22, l_24, l_25, l_26, l_27, l_28, l_29, l_30, l_32, l_36, l_40, l_41, l_42, l_43, l_45, l_48, l_56, l_57, l_59, l_60, l_61, l_62, l_63, l_64, l_97, l_99, l_100, l_122, l_126, l_127, l_168, l_180, l_255, l_300, l_359, l_360, l_400, l_1000, l_1200, l_1439, l_1440, l_1536, l_4096, rf_208_2, rf_208_10, rf_208_11, rf_208_12, rf_208_13, rf_208_14, rf_208_15, rf_208_16, rf_208_17, rf_208_18, rf_208_19, rf_208_20, rf_208_21, rf_208_22, rf_208_24, rf_208_25, rf_208_26, rf_208_27, rf_208_28, rf_208_29, rf_208_30, rf_208_31, rf_208_32, rf_208_33, rf_208_34, rf_208_35, rf_208_36, rf_208_39, rf_208_45, rf_208_46, rf_208_47, rf_208_48, rf_208_49, rf_208_51, rf_208_52, rf_208_53, rf_208_54, rf_208_55, rf_208_56, rf_208_57, rf_208_58, rf_208_59, rf_208_60, rf_208_62, rf_208_63, rf_208_64, rf_208_65, rf_208_66, rf_208_67, gl_209, ga_209, gw_209, al_209, gz_209, gy_209, gx_209, gl_210, ga_210, gw_210, al_210, gz_210, gy_210, gx_210, gl_211, ga_211, gw_211, al_211, gz_211, gy_211, gx_211, gl_212, ga_212, gw_212, al_212, gz_212, gy_212, gx_212, gl_213, ga_213, gw_213, al_213, gz_213, gy_213, gx_213, gl_214, ga_214, gw_214, al_214, gz_214, gy_214, gx_214, gl_215, ga_215, gw_215, al_215, gz_215, gy_215, gx_215, gl_216, ga_216, gw_216, al_216, gz_216, gy_216, gx_216, gl_217, ga_217, gw_217, al_217, gz_217, gy_217, gx_217, gl_218, ga_218, gw_218, al_218, gz_218, gy_218, gx_218, gl_219, ga_219, gw_219, al_219, gz_219, gy_219, gx_219, gl_220, ga_220, gw_220, al_220, gz_220, gy_220, gx_220, gl_221, ga_221, gw_221, al_221, gz_221, gy_221, gx_221, gl_222, ga_222, gw_222, al_222, gz_222, gy_222, gx_222, gl_223, ga_223, gw_223, al_223, gz_223, gy_223, gx_223, gl_224, ga_224, gw_224, al_224, gz_224, gy_224, gx_224, gl_225, ga_225, gw_225, al_225, gz_225, gy_225, gx_225, gl_226, ga_226, gw_226, al_226, gz_226, gy_226, gx_226, gl_227, ga_227, gw_227, al_227, gz_227, gy_227, gx_227, gl_228, ga_228, gw_228, al_228, gz_228, gy_228, gx_228, gl_229, ga_229, gw_229, al_229, gz_229, gy_229, gx_229, gl_230, ga_230, gw_230, al_230, gz_230, gy_230, gx_230, gl_231, ga_231, gw_231, al_231, gz_231, gy_231, gx_231, gl_232, ga_232, gw_232, al_232, gz_232, gy_232, gx_232, gl_233, ga_233, gw_233, al_233, gz_233, gy_233, gx_233, gl_234, ga_234, gw_234, al_234, gz_234, gy_234, gx_234, gl_235, ga_235, gw_235, al_235, gz_235, gy_235, gx_235, gl_236, ga_236, gw_236, al_236, gz_236, gy_236, gx_236, gl_237, ga_237, gw_237, al_237, gz_237, gy_237, gx_237, gl_238, ga_238, gw_238, al_238, gz_238, gy_238, gx_238, gl_239, ga_239, gw_239, al_239, gz_239, gy_239, gx_239, gl_240, ga_240, gw_240, al_240, gz_240, gy_240, gx_240, gl_241, ga_241, gw_241, al_241, gz_241, gy_241, gx_241, gl_242, ga_242, gw_242, al_242, gz_242, gy_242, gx_242, gl_243, ga_243, gw_243, al_243, gz_243, gy_243, gx_243, gl_244, ga_244, gw_244, al_244, gz_244, gy_244, gx_244, gl_245, ga_245, gw_245, al_245, gz_245, gy_245, gx_245, gl_246, ga_246, gw_246, al_246, gz_246, gy_246, gx_246, gl_247, ga_247, gw_247, al_247, gz_247, gy_247, gx_247, gl_248, ga_248, gw_248, al_248, gz_248, gy_248, gx_248, gl_249, ga_249, gw_249, al_249, gz_249, gy_249, gx_249, gl_250, ga_250, gw_250, al_250, gz_250, gy_250, gx_250, gl_251, ga_251, gw_251, al_251, gz_251, gy_251, gx_251, gl_252, ga_252, gw_252, al_252, gz_252, gy_252, gx_252, gl_253, ga_253, gw_253, al_253, gz_253, gy_253, gx_253, gl_254, ga_254, gw_254, al_254, gz_254, gy_254, gx_254, gl_255, ga_255, gw_255, al_255, gz_255, gy_255, gx_255, gl_256, ga_256, gw_256, al_256, gz_256, gy_256, gx_256, gl_257, ga_257, gw_257, al_257, gz_257, gy_257, gx_257, mp_f, mp_pl, mp_p, mp_cm, mp_s, mp_o, mp_l, mp_w, mp_t, mp_cha, mp_bea, mp_hom, mp_kno, mp_law, mp_lat, mp_isc, mp_who, mp_whn, mp_isq, mp_so, mp_com, mp_lc, mp_lm, mp_lf, mp_lt, mp_wc, mp_wm]
    by_cases z : isc v j = 1
    · rw [if_neg (by omega), if_neg (by omega), decide_eq_true z]; rfl
    · rw [if_neg (by omega), if_pos (by omega), decide_eq_false z]; rfl
theorem thr_of {v : eV} {x : Int32} (h : thr v x = true) : ∃ k, k < 2 ∧ x = nI k ∧ isc v k = 1 := by
  unfold thr at h
  rw [Bool.and_eq_true] at h
  obtain ⟨k, hk, rfl⟩ := inN_of (by decide) h.1
  refine ⟨k, hk, rfl, ?_⟩
  have := of_decide_eq_true h.2
  rwa [n_cl (by omega)] at this
theorem Mo_sureOf_s (d : Nat) (x y : Int64) (m : eM) : Mo_sureOf d x y m = yI (surN x y) m := by
  rw [Mo_sureOf_e]
  unfold surN
  simp only [cmp0]
  by_cases h1 : x = 0
  · rw [if_neg (fun z => z h1), if_pos h1]
  · rw [if_pos h1, if_neg h1]
    by_cases h2 : x &&& (y ^^^ -1) = 0
    · rw [if_neg (fun z => z h2), if_pos h2]
    · rw [if_pos h2, if_neg h2]
      by_cases h3 : x &&& y = 0
      · rw [if_neg (fun z => z h3), if_pos h3]
      · rw [if_pos h3, if_neg h3]
theorem lt_succ_w {i u : Nat} (h : ¬ i = u) : (i < u + 1) = (i < u) := propext ⟨fun _ => by omega, fun _ => by omega⟩
/-- a set that grows by one world a step -/
theorem mk_step {p : Nat → Bool} {u : Nat} (hu : p u = true) : (mk fun i => (decide (i < u) && p i) || decide (i = u)) = mk fun i => decide (i < u + 1) && p i := mk_c fun i _ => by
  by_cases e : i = u
  · subst e; simp [hu]
  · simp only [lt_succ_w e, decide_eq_false e, Bool.or_false]
theorem mk_skip {p : Nat → Bool} {u : Nat} (hu : p u = false) : (mk fun i => decide (i < u) && p i) = mk fun i => decide (i < u + 1) && p i := mk_c fun i _ => by
  by_cases e : i = u
  · subst e; simp [hu]
  · simp only [lt_succ_w e]
theorem mk_full {p : Nat → Bool} {u n : Nat} (h : n ≤ u) : (mk fun i => decide (i < u) && (decide (i < n) && p i)) = mk fun i => decide (i < n) && p i := mk_c fun i _ => by
  by_cases e : i < n
  · rw [decide_eq_true (by omega : i < u), Bool.true_and]
  · rw [decide_eq_false e, Bool.false_and, Bool.and_false]
theorem Mo_likeFor_5_s {v : eV} (hv : Va v) {m : eM} (h : Mp v m) (hs : Sk m) (d : Nat) {k w : Nat} (hk : k < 64) (hw : w < 64) : ∀ j u, u + j = 2 ^ nF v → Mo_likeFor_5 (d + 1) 208 (nI k) (nI w) (mk fun i => decide (i < u) && likeV v k w i) (nI u) m = yL (mk (likeV v k w)) m
  | 0, u, e => by
    have hf := hv.f; have hpl := hv.pl; have hp := hv.p; have hcm := hv.cm; have hss := hv.s; have hoo := hv.o; have hll := hv.l; have hww := hv.wt; have hW := W_le hv; have hW0 := @W_pos v; have htr := hv.tr
    rw [Mo_likeFor_5_e _ _ _ _ _ _ _ kd_208]
    simp (disch := first | assumption | omega) only [bR_s, bI_y, bL_y, bV_y, mI_u, mJ_u, mQ_u, lI_u, lL_u, toI, gI_sI, gI_sL, gL_sI, gL_sL, gR_sI, gR_sL, bb_0, bb_1, n_lt0, n_ge0, n_eq, n_le, n_lt, n_eq0, n_eq1, n_le0, n_cl, n_cl0, n_cl1, nI_1, nI_add, false_and, and_false, true_and, and_true, if_true, if_false, not_true, not_false_iff, Classical.not_not, eq_self, Bool.false_eq_true, not_lt_zero, Nat.reduceEqDiff, Nat.reduceAdd, Nat.reduceSub, Nat.reduceMul, Nat.reduceLeDiff, Nat.reduceLT, l_2, l_3, l_4, l_5, l_6, l_7, l_8, l_9, l_10, l_12, l_15, l_16, l_18, l_20, l_21, l_22, l_24, l_25, l_26, l_27, l_28, l_29, l_30, l_32, l_36, l_40, l_41, l_42, l_43, l_45, l_48, l_56, l_57, l_59, l_60, l_61, l_62, l_63, l_64, l_97, l_99, l_100, l_122, l_126, l_127, l_168, l_180, l_255, l_300, l_359, l_360, l_400, l_1000, l_1200, l_1439, l_1440, l_1536, l_4096, rf_208_2, rf_208_10, rf_208_11, rf_208_12, rf_208_13, rf_208_14, rf_208_15, rf_208_16, rf_208_17, rf_208_18, rf_208_19, rf_208_20, rf_208_21, rf_208_22, rf_208_24, rf_208_25, rf_208_26, rf_208_27, rf_208_28, rf_208_29, rf_208_30, rf_208_31, rf_208_32, rf_208_33, rf_208_34, rf_208_35, rf_208_36, rf_208_39, rf_208_45, rf_208_46, rf_208_47, rf_208_48, rf_208_49, rf_208_51, rf_208_52, rf_208_53, rf_208_54, rf_208_55, rf_208_56, rf_208_57, rf_208_58, rf_208_59, rf_208_60, rf_208_62, rf_208_63, rf_208_64, rf_208_65, rf_208_66, rf_208_67, gl_209, ga_209, gw_209, al_209, gz_209, gy_209, gx_209, gl_210, ga_210, gw_210, al_210, gz_210, gy_210, gx_210, gl_211, ga_211, gw_211, al_211, gz_211, gy_211, gx_211, gl_212, ga_212, gw_212, al_212, gz_212, gy_212, gx_212, gl_213, ga_213, gw_213, al_213, gz_213, gy_213, gx_213, gl_214, ga_214, gw_214, al_214, gz_214, gy_214, gx_214, gl_215, ga_215, gw_215, al_215, gz_215, gy_215, gx_215, gl_216, ga_216, gw_216, al_216, gz_216, gy_216, gx_216, gl_217, ga_217, gw_217, al_217, gz_217, gy_217, gx_217, gl_218, ga_218, gw_218, al_218, gz_218, gy_218, gx_218, gl_219, ga_219, gw_219, al_219, gz_219, gy_219, gx_219, gl_220, ga_220, gw_220, al_220, gz_220, gy_220, gx_220, gl_221, ga_221, gw_221, al_221, gz_221, gy_221, gx_221, gl_222, ga_222, gw_222, al_222, gz_222, gy_222, gx_222, gl_223, ga_223, gw_223, al_223, gz_223, gy_223, gx_223, gl_224, ga_224, gw_224, al_224, gz_224, gy_224, gx_224, gl_225, ga_225, gw_225, al_225, gz_225, gy_225, gx_225, gl_226, ga_226, gw_226, al_226, gz_226, gy_226, gx_226, gl_227, ga_227, gw_227, al_227, gz_227, gy_227, gx_227, gl_228, ga_228, gw_228, al_228, gz_228, gy_228, gx_228, gl_229, ga_229, gw_229, al_229, gz_229, gy_229, gx_229, gl_230, ga_230, gw_230, al_230, gz_230, gy_230, gx_230, gl_231, ga_231, gw_231, al_231, gz_231, gy_231, gx_231, gl_232, ga_232, gw_232, al_232, gz_232, gy_232, gx_232, gl_233, ga_233, gw_233, al_233, gz_233, gy_233, gx_233, gl_234, ga_234, gw_234, al_234, gz_234, gy_234, gx_234, gl_235, ga_235, gw_235, al_235, gz_235, gy_235, gx_235, gl_236, ga_236, gw_236, al_236, gz_236, gy_236, gx_236, gl_237, ga_237, gw_237, al_237, gz_237, gy_237, gx_237, gl_238, ga_238, gw_238, al_238, gz_238, gy_238, gx_238, gl_239, ga_239, gw_239, al_239, gz_239, gy_239, gx_239, gl_240, ga_240, gw_240, al_240, gz_240, gy_240, gx_240, gl_241, ga_241, gw_241, al_241, gz_241, gy_241, gx_241, gl_242, ga_242, gw_242, al_242, gz_242, gy_242, gx_242, gl_243, ga_243, gw_243, al_243, gz_243, gy_243, gx_243, gl_244, ga_244, gw_244, al_244, gz_244, gy_244, gx_244, gl_245, ga_245, gw_245, al_245, gz_245, gy_245, gx_245, gl_246, ga_246, gw_246, al_246, gz_246, gy_246, gx_246, gl_247, ga_247, gw_247, al_247, gz_247, gy_247, gx_247, gl_248, ga_248, gw_248, al_248, gz_248, gy_248, gx_248, gl_249, ga_249, gw_249, al_249, gz_249, gy_249, gx_249, gl_250, ga_250, gw_250, al_250, gz_250, gy_250, gx_250, gl_251, ga_251, gw_251, al_251, gz_251, gy_251, gx_251, gl_252, ga_252, gw_252, al_252, gz_252, gy_252, gx_252, gl_253, ga_253, gw_253, al_253, gz_253, gy_253, gx_253, gl_254, ga_254, gw_254, al_254, gz_254, gy_254, gx_254, gl_255, ga_255, gw_255, al_255, gz_255, gy_255, gx_255, gl_256, ga_256, gw_256, al_256, gz_256, gy_256, gx_256, gl_257, ga_257, gw_257, al_257, gz_257, gy_257, gx_257, mp_f, mp_pl, mp_p, mp_cm, mp_s, mp_o, mp_l, mp_w, mp_t, mp_cha, mp_bea, mp_hom, mp_kno, mp_law, mp_lat, mp_isc, mp_who, mp_whn, mp_isq, mp_so, mp_com, mp_lc, mp_lm, mp_lf, mp_lt, mp_wc, mp_wm, shl1]
    rw [if_pos (by omega)]
    refine congrArg (yL · m) (mk_c fun i hi => ?_)
    unfold likeV
    by_cases z : i < 2 ^ nF v
    · rw [decide_eq_true (by omega : i < u), Bool.true_and]
    · rw [decide_eq_false z, Bool.false_and, Bool.and_false]
  | j + 1, u, e => by
    have hf := hv.f; have hpl := hv.pl; have hp := hv.p; have hcm := hv.cm; have hss := hv.s; have hoo := hv.o; have hll := hv.l; have hww := hv.wt; have hW := W_le hv; have hW0 := @W_pos v; have htr := hv.tr
    rw [Mo_likeFor_5_e _ _ _ _ _ _ _ kd_208]
    simp (disch := first | assumption | omega) only [bR_s, bI_y, bL_y, bV_y, mI_u, mJ_u, mQ_u, lI_u, lL_u, toI, gI_sI, gI_sL, gL_sI, gL_sL, gR_sI, gR_sL, bb_0, bb_1, n_lt0, n_ge0, n_eq, n_le, n_lt, n_eq0, n_eq1, n_le0, n_cl, n_cl0, n_cl1, nI_1, nI_add, false_and, and_false, true_and, and_true, if_true, if_false, not_true, not_false_iff, Classical.not_not, eq_self, Bool.false_eq_true, not_lt_zero, Nat.reduceEqDiff, Nat.reduceAdd, Nat.reduceSub, Nat.reduceMul, Nat.reduceLeDiff, Nat.reduceLT, l_2, l_3, l_4, l_5, l_6, l_7, l_8, l_9, l_10, l_12, l_15, l_16, l_18, l_20, l_21, l_22, l_24, l_25, l_26, l_27, l_28, l_29, l_30, l_32, l_36, l_40, l_41, l_42, l_43, l_45, l_48, l_56, l_57, l_59, l_60, l_61, l_62, l_63, l_64, l_97, l_99, l_100, l_122, l_126, l_127, l_168, l_180, l_255, l_300, l_359, l_360, l_400, l_1000, l_1200, l_1439, l_1440, l_1536, l_4096, rf_208_2, rf_208_10, rf_208_11, rf_208_12, rf_208_13, rf_208_14, rf_208_15, rf_208_16, rf_208_17, rf_208_18, rf_208_19, rf_208_20, rf_208_21, rf_208_22, rf_208_24, rf_208_25, rf_208_26, rf_208_27, rf_208_28, rf_208_29, rf_208_30, rf_208_31, rf_208_32, rf_208_33, rf_208_34, rf_208_35, rf_208_36, rf_208_39, rf_208_45, rf_208_46, rf_208_47, rf_208_48, rf_208_49, rf_208_51, rf_208_52, rf_208_53, rf_208_54, rf_208_55, rf_208_56, rf_208_57, rf_208_58, rf_208_59, rf_208_60, rf_208_62, rf_208_63, rf_208_64, rf_208_65, rf_208_66, rf_208_67, gl_209, ga_209, gw_209, al_209, gz_209, gy_209, gx_209, gl_210, ga_210, gw_210, al_210, gz_210, gy_210, gx_210, gl_211, ga_211, gw_211, al_211, gz_211, gy_211, gx_211, gl_212, ga_212, gw_212, al_212, gz_212, gy_212, gx_212, gl_213, ga_213, gw_213, al_213, gz_213, gy_213, gx_213, gl_214, ga_214, gw_214, al_214, gz_214, gy_214, gx_214, gl_215, ga_215, gw_215, al_215, gz_215, gy_215, gx_215, gl_216, ga_216, gw_216, al_216, gz_216, gy_216, gx_216, gl_217, ga_217, gw_217, al_217, gz_217, gy_217, gx_217, gl_218, ga_218, gw_218, al_218, gz_218, gy_218, gx_218, gl_219, ga_219, gw_219, al_219, gz_219, gy_219, gx_219, gl_220, ga_220, gw_220, al_220, gz_220, gy_220, gx_220, gl_221, ga_221, gw_221, al_221, gz_221, gy_221, gx_221, gl_222, ga_222, gw_222, al_222, gz_222, gy_222, gx_222, gl_223, ga_223, gw_223, al_223, gz_223, gy_223, gx_223, gl_224, ga_224, gw_224, al_224, gz_224, gy_224, gx_224, gl_225, ga_225, gw_225, al_225, gz_225, gy_225, gx_225, gl_226, ga_226, gw_226, al_226, gz_226, gy_226, gx_226, gl_227, ga_227, gw_227, al_227, gz_227, gy_227, gx_227, gl_228, ga_228, gw_228, al_228, gz_228, gy_228, gx_228, gl_229, ga_229, gw_229, al_229, gz_229, gy_229, gx_229, gl_230, ga_230, gw_230, al_230, gz_230, gy_230, gx_230, gl_231, ga_231, gw_231, al_231, gz_231, gy_231, gx_231, gl_232, ga_232, gw_232, al_232, gz_232, gy_232, gx_232, gl_233, ga_233, gw_233, al_233, gz_233, gy_233, gx_233, gl_234, ga_234, gw_234, al_234, gz_234, gy_234, gx_234, gl_235, ga_235, gw_235, al_235, gz_235, gy_235, gx_235, gl_236, ga_236, gw_236, al_236, gz_236, gy_236, gx_236, gl_237, ga_237, gw_237, al_237, gz_237, gy_237, gx_237, gl_238, ga_238, gw_238, al_238, gz_238, gy_238, gx_238, gl_239, ga_239, gw_239, al_239, gz_239, gy_239, gx_239, gl_240, ga_240, gw_240, al_240, gz_240, gy_240, gx_240, gl_241, ga_241, gw_241, al_241, gz_241, gy_241, gx_241, gl_242, ga_242, gw_242, al_242, gz_242, gy_242, gx_242, gl_243, ga_243, gw_243, al_243, gz_243, gy_243, gx_243, gl_244, ga_244, gw_244, al_244, gz_244, gy_244, gx_244, gl_245, ga_245, gw_245, al_245, gz_245, gy_245, gx_245, gl_246, ga_246, gw_246, al_246, gz_246, gy_246, gx_246, gl_247, ga_247, gw_247, al_247, gz_247, gy_247, gx_247, gl_248, ga_248, gw_248, al_248, gz_248, gy_248, gx_248, gl_249, ga_249, gw_249, al_249, gz_249, gy_249, gx_249, gl_250, ga_250, gw_250, al_250, gz_250, gy_250, gx_250, gl_251, ga_251, gw_251, al_251, gz_251, gy_251, gx_251, gl_252, ga_252, gw_252, al_252, gz_252, gy_252, gx_252, gl_253, ga_253, gw_253, al_253, gz_253, gy_253, gx_253, gl_254, ga_254, gw_254, al_254, gz_254, gy_254, gx_254, gl_255, ga_255, gw_255, al_255, gz_255, gy_255, gx_255, gl_256, ga_256, gw_256, al_256, gz_256, gy_256, gx_256, gl_257, ga_257, gw_257, al_257, gz_257, gy_257, gx_257, mp_f, mp_pl, mp_p, mp_cm, mp_s, mp_o, mp_l, mp_w, mp_t, mp_cha, mp_bea, mp_hom, mp_kno, mp_law, mp_lat, mp_isc, mp_who, mp_whn, mp_isq, mp_so, mp_com, mp_lc, mp_lm, mp_lf, mp_lt, mp_wc, mp_wm, shl1, Mo_isIn_s, xorN, andN, mk_put]
    rw [if_neg (by omega)]
    have ih := Mo_likeFor_5_s hv h hs d hk hw j (u + 1) (by omega)
    have hx : (u ^^^ w) &&& k < 64 := Nat.lt_of_le_of_lt Nat.and_le_right hk
    simp only [show (nI ((u ^^^ w) &&& k) = 0) = ((u ^^^ w) &&& k = 0) from n_eq0 (by omega)]
    by_cases h1 : tb (com v) u = true
    · rw [if_neg (by rw [h1]; decide)]
      by_cases h2 : (u ^^^ w) &&& k = 0
      · rw [if_neg (fun z => z h2), mk_step (p := likeV v k w) (by unfold likeV; rw [h1, decide_eq_true h2, decide_eq_true (by omega)]; rfl)]
        exact ih
      · rw [if_pos h2, mk_skip (p := likeV v k w) (by unfold likeV; rw [decide_eq_false h2, Bool.and_false, Bool.and_false])]
        exact ih
    · rw [Bool.not_eq_true] at h1
      rw [if_pos h1, mk_skip (p := likeV v k w) (by unfold likeV; rw [h1, Bool.false_and, Bool.and_false])]
      exact ih
theorem mk_f {p : Nat → Bool} (h : ∀ i, i < 64 → p i = false) : (0 : Int64) = mk p := mk_e fun i hi => by rw [t_0, h i hi]
theorem Mo_likeFor_s {v : eV} (hv : Va v) {m : eM} (h : Mp v m) (hs : Sk m) {D : Nat} (hD : 1 ≤ D) {k w : Nat} (hk : k < 64) (hw : w < 64) : Mo_likeFor D 208 (nI k) (nI w) m = yL (mk (likeV v k w)) m := by
  obtain ⟨d, rfl⟩ : ∃ d, D = d + 1 := ⟨D - 1, by omega⟩
  rw [Mo_likeFor_e _ _ _ _ _ kd_208, mk_f (p := fun i => decide (i < 0) && likeV v k w i) (fun i _ => rfl)]
  exact Mo_likeFor_5_s hv h hs d hk hw (2 ^ nF v) 0 (by omega)
