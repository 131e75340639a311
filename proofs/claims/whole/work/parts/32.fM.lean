-- @needs 22_cellsM 23_ops
def f_X7_thrown (M : Mem) : Int32 :=
M 0 19
def f_X7_in (a1 : Int64) (a2 : Int64) (a3 : Int64) : Int32 :=
bnd (if lg_cmp a1 a2 < 0 then
(0)
else (if 0 < lg_cmp a1 a3 then
(0)
else (1))) fun (t_4 : Int32) =>
t_4
def f_X7_plainly (a1 : Int32) : Int32 :=
bnd (if 0 ≤ a1 then
(a1)
else ((-a1))) fun (t_3 : Int32) =>
t_3
def f_X7_isBoat (M : Mem) (a1 : Int32) : Int32 :=
f_X7_in a1.toInt64 0 (((M 0 8) - 1).toInt64)
def lp_X7_faultOf_14 : Nat → Mem → Int32 → Int32 → Int32 → Int32 → Int32 × Mem
  | 0, M_167, v_163, v_164, v_165, v_166 => (0, M_167)
  | n + 1, M_167, v_163, v_164, v_165, v_166 =>
    if M_167 0 21 ≤ v_166 then
    (bnd (if ¬ v_163 = 0 then
    ((M_167 0 21))
    else (if v_165 ≤ 0 then
    ((-4))
    else ((M_167 0 21)))) fun (t_172 : Int32) =>
    (t_172, M_167))
    else (bnd (M_167 12 v_166.toNatClampNeg) fun y_173 =>
    bnd (f_X7_in y_173.toInt64 48 57) fun y_178 =>
    if y_178 = 0 then
    (if v_163 = 0 then
    (bnd (if ¬ y_173 = 41 then
    (0)
    else (if v_165 ≤ 0 then
    (0)
    else (1))) fun (t_184 : Int32) =>
    bnd (if y_173 = 43 then
    (1)
    else (if y_173 = 45 then
    (1)
    else (if y_173 = 42 then
    (1)
    else (if y_173 = 47 then
    (1)
    else (if ¬ y_173 = 37 then
    (0)
    else (1)))))) fun (t_191 : Int32) =>
    if ¬ t_184 = 0 then
    (bnd (if t_184 = 0 then
    (0)
    else (1)) fun (t_195 : Int32) =>
    bnd (v_165 - t_195) fun y_196 =>
    bnd (v_166 + 1) fun y_197 =>
    lp_X7_faultOf_14 n M_167 t_191 0 y_196 y_197)
    else (if ¬ t_191 = 0 then
    (bnd (if t_184 = 0 then
    (0)
    else (1)) fun (t_201 : Int32) =>
    bnd (v_165 - t_201) fun y_202 =>
    bnd (v_166 + 1) fun y_203 =>
    lp_X7_faultOf_14 n M_167 t_191 0 y_202 y_203)
    else ((v_166, M_167))))
    else (bnd (if ¬ y_173 = 40 then
    (0)
    else (if 6 ≤ v_165 then
    (0)
    else (1))) fun (t_207 : Int32) =>
    if ¬ t_207 = 0 then
    (bnd (if t_207 = 0 then
    (0)
    else (1)) fun (t_211 : Int32) =>
    bnd (v_165 + t_211) fun y_212 =>
    bnd (if y_178 = 0 then
    (0)
    else (1)) fun (t_215 : Int32) =>
    bnd (up2 M_167 0 22 t_215) fun M_216 =>
    bnd (v_166 + 1) fun y_217 =>
    lp_X7_faultOf_14 n M_216 t_207 y_178 y_212 y_217)
    else (if ¬ y_178 = 0 then
    (bnd (if t_207 = 0 then
    (0)
    else (1)) fun (t_221 : Int32) =>
    bnd (v_165 + t_221) fun y_222 =>
    bnd (if y_178 = 0 then
    (0)
    else (1)) fun (t_225 : Int32) =>
    bnd (up2 M_167 0 22 t_225) fun M_226 =>
    bnd (v_166 + 1) fun y_227 =>
    lp_X7_faultOf_14 n M_226 t_207 y_178 y_222 y_227)
    else (if y_173 = 116 then
    (bnd (if t_207 = 0 then
    (0)
    else (1)) fun (t_231 : Int32) =>
    bnd (v_165 + t_231) fun y_232 =>
    bnd (if y_178 = 0 then
    (0)
    else (1)) fun (t_235 : Int32) =>
    bnd (up2 M_167 0 22 t_235) fun M_236 =>
    bnd (v_166 + 1) fun y_237 =>
    lp_X7_faultOf_14 n M_236 t_207 y_178 y_232 y_237)
    else (if y_173 = 115 then
    (bnd (if t_207 = 0 then
    (0)
    else (1)) fun (t_241 : Int32) =>
    bnd (v_165 + t_241) fun y_242 =>
    bnd (if y_178 = 0 then
    (0)
    else (1)) fun (t_245 : Int32) =>
    bnd (up2 M_167 0 22 t_245) fun M_246 =>
    bnd (v_166 + 1) fun y_247 =>
    lp_X7_faultOf_14 n M_246 t_207 y_178 y_242 y_247)
    else ((v_166, M_167)))))))
    else (if v_164 = 0 then
    (if v_163 = 0 then
    (bnd (if ¬ y_173 = 41 then
    (0)
    else (if v_165 ≤ 0 then
    (0)
    else (1))) fun (t_253 : Int32) =>
    bnd (if y_173 = 43 then
    (1)
    else (if y_173 = 45 then
    (1)
    else (if y_173 = 42 then
    (1)
    else (if y_173 = 47 then
    (1)
    else (if ¬ y_173 = 37 then
    (0)
    else (1)))))) fun (t_260 : Int32) =>
    if ¬ t_253 = 0 then
    (bnd (if t_253 = 0 then
    (0)
    else (1)) fun (t_264 : Int32) =>
    bnd (v_165 - t_264) fun y_265 =>
    bnd (v_166 + 1) fun y_266 =>
    lp_X7_faultOf_14 n M_167 t_260 0 y_265 y_266)
    else (if ¬ t_260 = 0 then
    (bnd (if t_253 = 0 then
    (0)
    else (1)) fun (t_270 : Int32) =>
    bnd (v_165 - t_270) fun y_271 =>
    bnd (v_166 + 1) fun y_272 =>
    lp_X7_faultOf_14 n M_167 t_260 0 y_271 y_272)
    else ((v_166, M_167))))
    else (bnd (if ¬ y_173 = 40 then
    (0)
    else (if 6 ≤ v_165 then
    (0)
    else (1))) fun (t_276 : Int32) =>
    if ¬ t_276 = 0 then
    (bnd (if t_276 = 0 then
    (0)
    else (1)) fun (t_280 : Int32) =>
    bnd (v_165 + t_280) fun y_281 =>
    bnd (if y_178 = 0 then
    (0)
    else (1)) fun (t_284 : Int32) =>
    bnd (up2 M_167 0 22 t_284) fun M_285 =>
    bnd (v_166 + 1) fun y_286 =>
    lp_X7_faultOf_14 n M_285 t_276 y_178 y_281 y_286)
    else (if ¬ y_178 = 0 then
    (bnd (if t_276 = 0 then
    (0)
    else (1)) fun (t_290 : Int32) =>
    bnd (v_165 + t_290) fun y_291 =>
    bnd (if y_178 = 0 then
    (0)
    else (1)) fun (t_294 : Int32) =>
    bnd (up2 M_167 0 22 t_294) fun M_295 =>
    bnd (v_166 + 1) fun y_296 =>
    lp_X7_faultOf_14 n M_295 t_276 y_178 y_291 y_296)
    else (if y_173 = 116 then
    (bnd (if t_276 = 0 then
    (0)
    else (1)) fun (t_300 : Int32) =>
    bnd (v_165 + t_300) fun y_301 =>
    bnd (if y_178 = 0 then
    (0)
    else (1)) fun (t_304 : Int32) =>
    bnd (up2 M_167 0 22 t_304) fun M_305 =>
    bnd (v_166 + 1) fun y_306 =>
    lp_X7_faultOf_14 n M_305 t_276 y_178 y_301 y_306)
    else (if y_173 = 115 then
    (bnd (if t_276 = 0 then
    (0)
    else (1)) fun (t_310 : Int32) =>
    bnd (v_165 + t_310) fun y_311 =>
    bnd (if y_178 = 0 then
    (0)
    else (1)) fun (t_314 : Int32) =>
    bnd (up2 M_167 0 22 t_314) fun M_315 =>
    bnd (v_166 + 1) fun y_316 =>
    lp_X7_faultOf_14 n M_315 t_276 y_178 y_311 y_316)
    else ((v_166, M_167)))))))
    else (if M_167 0 22 = 3 then
    ((v_166, M_167))
    else (if ¬ M_167 0 22 = 1 then
    (bnd (up2 M_167 0 22 ((M_167 0 22) + 1)) fun M_319 =>
    bnd (v_166 + 1) fun y_320 =>
    lp_X7_faultOf_14 n M_319 v_163 v_164 v_165 y_320)
    else (if ¬ M_167 12 (v_166 - 1).toNatClampNeg = 48 then
    (bnd (up2 M_167 0 22 ((M_167 0 22) + 1)) fun M_322 =>
    bnd (v_166 + 1) fun y_323 =>
    lp_X7_faultOf_14 n M_322 v_163 v_164 v_165 y_323)
    else ((v_166, M_167)))))))
def f_X7_faultOf (M : Mem) : Int32 × Mem :=
bnd (up2 M 0 22 0) fun M_1 =>
lp_X7_faultOf_14 101 M_1 1 0 0 0
def f_X7_openLevel (M : Mem) : Mem :=
bnd (up2 M 13 (M 0 27).toNatClampNeg 0) fun M_1 =>
bnd (up2 M_1 14 (M_1 0 27).toNatClampNeg 1) fun M_2 =>
bnd (up2 M_2 16 (M_2 0 27).toNatClampNeg 0) fun M_3 =>
M_3
def f_X7_atom (M : Mem) (a1 : Int32) : Mem :=
bnd (M 15 (M 0 27).toNatClampNeg) fun y_1 =>
bnd (M 16 (M 0 27).toNatClampNeg) fun y_2 =>
bnd (if ¬ y_2 = 0 then
(if ¬ y_2 = 42 then
(if ¬ a1 = 0 then
(if ¬ y_2 = 47 then
((y_1 - y_1 / a1 * a1))
else ((y_1 / a1)))
else (0))
else ((y_1 * a1)))
else (a1)) fun (t_8 : Int32) =>
bnd (up2 M 15 (M 0 27).toNatClampNeg t_8) fun M_9 =>
M_9
def f_X7_levelSum (M : Mem) : Int32 :=
bnd (if M 14 (M 0 27).toNatClampNeg ≤ 0 then
(((M 13 (M 0 27).toNatClampNeg) - (M 15 (M 0 27).toNatClampNeg)))
else (((M 13 (M 0 27).toNatClampNeg) + (M 15 (M 0 27).toNatClampNeg)))) fun (t_3 : Int32) =>
t_3
def f_X7_work (M : Mem) (a1 : Int32) : Mem :=
bnd (if a1 = 43 then
(bnd (up2 M 13 (M 0 27).toNatClampNeg (f_X7_levelSum M)) fun M_6 =>
bnd (if ¬ a1 = 43 then
((-1))
else (1)) fun (t_9 : Int32) =>
bnd (up2 M_6 14 (M_6 0 27).toNatClampNeg t_9) fun M_10 =>
bnd (up2 M_10 16 (M_10 0 27).toNatClampNeg 0) fun M_11 =>
M_11)
else (if ¬ a1 = 45 then
(bnd (up2 M 16 (M 0 27).toNatClampNeg a1) fun M_13 =>
M_13)
else (bnd (up2 M 13 (M 0 27).toNatClampNeg (f_X7_levelSum M)) fun M_17 =>
bnd (if ¬ a1 = 43 then
((-1))
else (1)) fun (t_20 : Int32) =>
bnd (up2 M_17 14 (M_17 0 27).toNatClampNeg t_20) fun M_21 =>
bnd (up2 M_21 16 (M_21 0 27).toNatClampNeg 0) fun M_22 =>
M_22))) fun (M_23 : Mem) =>
M_23
def lp_X7_windBy_150' : Nat → Mem → Int32 → Int32 → Int32 × Int32
  | 0, M_76, v_103, v_104 => (v_103, v_104)
  | n + 1, M_76, v_103, v_104 =>
    if M_76 0 5 ≤ v_103 then
    ((v_103, v_104))
    else (if f_X7_in ((M_76 1 v_103.toNatClampNeg).toInt64) 48 57 = 0 then
    ((v_103, v_104))
    else (bnd (((10 * v_104) + (M_76 1 v_103.toNatClampNeg)) - 48) fun y_112 =>
    bnd (v_103 + 1) fun y_113 =>
    lp_X7_windBy_150' n M_76 y_113 y_112))
def lp_X7_windBy_20 : Nat → Int32 → Int32 → Mem → Int32 → Mem
  | 0, a1, a2, M_76, v_75 => M_76
  | n + 1, a1, a2, M_76, v_75 =>
    if M_76 0 5 ≤ v_75 then
    (M_76)
    else (bnd (M_76 1 v_75.toNatClampNeg) fun y_79 =>
    bnd (v_75 + 1) fun y_80 =>
    bnd2 (if ¬ y_79 = 40 then
    (if ¬ y_79 = 41 then
    (if y_79 = 116 then
    (bnd (if ¬ y_79 = 116 then
    (a2)
    else (a1)) fun (t_87 : Int32) =>
    bnd (f_X7_atom M_76 t_87) fun M_90 =>
    (y_80, M_90))
    else (if ¬ y_79 = 115 then
    (if f_X7_in y_79.toInt64 48 57 = 0 then
    (bnd (f_X7_work M_76 y_79) fun M_100 =>
    (y_80, M_100))
    else (bnd (y_79 - 48) fun y_102 =>
    bnd2 (lp_X7_windBy_150' 101 M_76 y_80 y_102) fun w_114 w_115 =>
    bnd (f_X7_atom M_76 w_115) fun M_118 =>
    (w_114, M_118)))
    else (bnd (if ¬ y_79 = 116 then
    (a2)
    else (a1)) fun (t_122 : Int32) =>
    bnd (f_X7_atom M_76 t_122) fun M_125 =>
    (y_80, M_125))))
    else (bnd (f_X7_levelSum M_76) fun y_130 =>
    bnd (up2 M_76 0 27 ((M_76 0 27) - 1)) fun M_131 =>
    bnd (f_X7_atom M_131 y_130) fun M_134 =>
    (y_80, M_134)))
    else (bnd (up2 M_76 0 27 ((M_76 0 27) + 1)) fun M_136 =>
    bnd (f_X7_openLevel M_136) fun M_139 =>
    (y_80, M_139))) fun (x_141 : Int32) (M_142 : Mem) =>
    lp_X7_windBy_20 n a1 a2 M_142 x_141)
def f_X7_windBy (M : Mem) (a1 : Int32) (a2 : Int32) : Int32 × Mem :=
if ¬ M 0 5 = 0 then
(bnd (up2 M 0 27 0) fun M_2 =>
bnd (f_X7_openLevel M_2) fun M_5 =>
bnd (lp_X7_windBy_20 101 a1 a2 M_5 0) fun M_143 =>
bnd (f_X7_levelSum M_143) fun y_147 =>
bnd (if (-40) ≤ y_147 then
(if y_147 ≤ 40 then
(y_147)
else (40))
else ((-40))) fun (t_151 : Int32) =>
(t_151, M_143))
else ((0, M))
def lp_X7_layWinds_20 : Nat → Mem → Int32 → Mem
  | 0, M_14, v_13 => M_14
  | n + 1, M_14, v_13 =>
    if 400 < v_13 then
    (M_14)
    else (bnd2 (f_X7_windBy M_14 v_13 (M_14 0 4)) fun r_17 M_19 =>
    bnd (up2 M_19 17 v_13.toNatClampNeg r_17) fun M_21 =>
    bnd (v_13 + 1) fun y_22 =>
    lp_X7_layWinds_20 n M_21 y_22)
def lp_X7_layWinds_20' : Nat → Mem → Int32 → Mem
  | 0, M_38, v_37 => M_38
  | n + 1, M_38, v_37 =>
    if 400 < v_37 then
    (M_38)
    else (bnd2 (f_X7_windBy M_38 v_37 (M_38 0 4)) fun r_41 M_43 =>
    bnd (up2 M_43 17 v_37.toNatClampNeg r_41) fun M_45 =>
    bnd (v_37 + 1) fun y_46 =>
    lp_X7_layWinds_20' n M_45 y_46)
def f_X7_layWinds (M : Mem) : Mem :=
bnd (if b01 (M 0 29) = 0 then
(bnd (lp_X7_layWinds_20 402 M 0) fun M_23 =>
bnd (up2 M_23 0 29 1) fun M_24 =>
bnd (up2 M_24 0 30 (M_24 0 4)) fun M_25 =>
M_25)
else (if M 0 30 = M 0 4 then
(M)
else (bnd (lp_X7_layWinds_20' 402 M 0) fun M_47 =>
bnd (up2 M_47 0 29 1) fun M_48 =>
bnd (up2 M_48 0 30 (M_48 0 4)) fun M_49 =>
M_49))) fun (M_50 : Mem) =>
M_50
def f_X7_isIn (M : Mem) (a1 : Int32) : Int32 :=
bnd (if M 10 a1.toNatClampNeg < 0 then
(0)
else (1)) fun (t_3 : Int32) =>
t_3
def f_X7_isAtDist (M : Mem) (a1 : Int32) : Int32 :=
bnd (if M 7 a1.toNatClampNeg < M 0 0 then
(0)
else (1)) fun (t_3 : Int32) =>
t_3
def lp_X7_isBad_4 : Nat → Mem → Int32 → Int32 → Int32 → Int32
  | 0, M, a1, v_28, v_29 => v_28
  | n + 1, M, a1, v_28, v_29 =>
    if M 0 8 ≤ v_29 then
    (v_28)
    else (bnd (if f_X7_in (((M 7 v_29.toNatClampNeg) - (M 7 a1.toNatClampNeg)).toInt64) 1 20 = 0 then
    (0)
    else (if f_X7_in (((M 6 v_29.toNatClampNeg) - (M 6 a1.toNatClampNeg)).toInt64) (-6) 6 = 0 then
    (0)
    else (1))) fun (t_43 : Int32) =>
    bnd (if ¬ v_28 = 0 then
    (1)
    else (if v_29 = a1 then
    (0)
    else (if ¬ f_X7_isIn M v_29 = 0 then
    (0)
    else (if t_43 = 0 then
    (0)
    else (1))))) fun (t_53 : Int32) =>
    bnd (v_29 + 1) fun y_54 =>
    lp_X7_isBad_4 n M a1 t_53 y_54)
def f_X7_isBad (M : Mem) (a1 : Int32) : Int32 :=
bnd (lp_X7_isBad_4 5 M a1 0 0) fun w_55 =>
bnd (if w_55 = 0 then
(0)
else (if ¬ f_X7_isIn M a1 = 0 then
(0)
else (1))) fun (t_63 : Int32) =>
t_63
def f_X7_tideAt (M : Mem) (a1 : Int32) : Int32 :=
bnd (if M 0 2 < f_X7_plainly a1 then
(((M 0 1) / 2))
else ((M 0 1))) fun (t_6 : Int32) =>
t_6
def f_X7_moveOne (M : Mem) (a1 : Int32) (a2 : Int32) : Mem :=
bnd (M 6 a1.toNatClampNeg) fun y_1 =>
bnd (if f_X7_isAtDist M a1 = 0 then
(if M 9 a1.toNatClampNeg ≤ 0 then
(bnd (if ¬ M 18 a1.toNatClampNeg = 1 then
(0)
else (2)) fun (t_11 : Int32) =>
bnd (((6 - ((M 8 a1.toNatClampNeg) * (a2 / 5))) - t_11) - (f_X7_tideAt M y_1)) fun y_15 =>
bnd (y_1 + (8 * (M 8 a1.toNatClampNeg))) fun y_16 =>
bnd (if 0 ≤ y_15 then
(y_15)
else (0)) fun (t_19 : Int32) =>
bnd (up2 M 7 a1.toNatClampNeg ((M 7 a1.toNatClampNeg) + t_19)) fun M_20 =>
bnd (if y_16 ≤ 200 then
(if (-200) ≤ y_16 then
(y_16)
else ((-200)))
else (200)) fun (t_24 : Int32) =>
bnd (up2 M_20 6 a1.toNatClampNeg t_24) fun M_25 =>
M_25)
else (bnd ((M 7 a1.toNatClampNeg) - (f_X7_tideAt M y_1)) fun y_29 =>
bnd (if 0 ≤ y_29 then
(y_29)
else (0)) fun (t_32 : Int32) =>
bnd (up2 M 7 a1.toNatClampNeg t_32) fun M_33 =>
bnd (up2 M_33 9 a1.toNatClampNeg ((M_33 9 a1.toNatClampNeg) - 1)) fun M_34 =>
M_34))
else (bnd (if y_1 ≤ 8 then
(if (-8) ≤ y_1 then
(0)
else ((y_1 + 8)))
else ((y_1 - 8))) fun (t_38 : Int32) =>
bnd (up2 M 6 a1.toNatClampNeg t_38) fun M_39 =>
M_39)) fun (M_40 : Mem) =>
bnd (if ¬ M_40 6 a1.toNatClampNeg = 0 then
(M_40)
else (if f_X7_isAtDist M_40 a1 = 0 then
(M_40)
else (bnd (up2 M_40 10 a1.toNatClampNeg ((M_40 0 7) + 1)) fun M_48 =>
M_48))) fun (M_49 : Mem) =>
M_49
def lp_X7_moveAll_2 : Nat → Mem → Int32 → Mem
  | 0, M_15, v_14 => M_15
  | n + 1, M_15, v_14 =>
    if M_15 0 8 ≤ v_14 then
    (M_15)
    else (bnd (if f_X7_isBad M_15 v_14 = 0 then
    (0)
    else (1)) fun (t_24 : Int32) =>
    bnd (up2 M_15 18 v_14.toNatClampNeg t_24) fun M_25 =>
    bnd (v_14 + 1) fun y_26 =>
    lp_X7_moveAll_2 n M_25 y_26)
def lp_X7_moveAll_37 : Nat → Mem → Int32 → Mem
  | 0, M_45, v_44 => M_45
  | n + 1, M_45, v_44 =>
    if M_45 0 8 ≤ v_44 then
    (M_45)
    else (bnd (if ¬ f_X7_isIn M_45 v_44 = 0 then
    (M_45)
    else (bnd (f_X7_moveOne M_45 v_44 (M_45 17 (M_45 0 7).toNatClampNeg)) fun M_56 =>
    M_56)) fun (M_58 : Mem) =>
    bnd (v_44 + 1) fun y_59 =>
    lp_X7_moveAll_37 n M_58 y_59)
def f_X7_moveAll (M : Mem) : Mem :=
bnd (lp_X7_moveAll_2 5 M 0) fun M_27 =>
bnd (lp_X7_moveAll_37 5 M_27 0) fun M_60 =>
bnd (up2 M_60 0 7 ((M_60 0 7) + 1)) fun M_61 =>
M_61
def f_X7_turnOne (M : Mem) (a1 : Int32) : Mem :=
bnd (up2 M 8 a1.toNatClampNeg (-(M 8 a1.toNatClampNeg))) fun M_1 =>
bnd (up2 M_1 9 a1.toNatClampNeg (M_1 0 3)) fun M_2 =>
bnd (up2 M_2 11 a1.toNatClampNeg ((M_2 11 a1.toNatClampNeg) + 1)) fun M_3 =>
M_3
def f_X7_mayTurn (M : Mem) (a1 : Int32) : Int32 :=
bnd (if ¬ f_X7_isIn M a1 = 0 then
(0)
else (if ¬ f_X7_isAtDist M a1 = 0 then
(0)
else (if ¬ M 9 a1.toNatClampNeg = 0 then
(0)
else (1)))) fun (t_13 : Int32) =>
t_13
def f_X7_isOut (M : Mem) (a1 : Int32) : Int32 :=
bnd (if ¬ (M 6 a1.toNatClampNeg) * (M 8 a1.toNatClampNeg) = 200 then
(0)
else (1)) fun (t_3 : Int32) =>
t_3
def f_X7_isHeaded (M : Mem) (a1 : Int32) : Int32 :=
bnd (if (M 8 a1.toNatClampNeg) * ((M 17 (M 0 7).toNatClampNeg) / 5) ≤ (M 5 a1.toNatClampNeg) / 5 then
(0)
else (1)) fun (t_3 : Int32) =>
t_3
def f_X7_isTurnTime (M : Mem) (a1 : Int32) : Int32 :=
bnd (if M 5 a1.toNatClampNeg ≤ 0 then
(0)
else (if ¬ (M 0 7) - (M 0 7) / (5 * (M 5 a1.toNatClampNeg)) * (5 * (M 5 a1.toNatClampNeg)) = 0 then
(0)
else (1))) fun (t_4 : Int32) =>
t_4
def f_X7_isCovering (M : Mem) (a1 : Int32) : Int32 :=
bnd (if ¬ a1 = 0 then
((a1 - 1))
else (((M 0 8) - 1))) fun (t_3 : Int32) =>
bnd (if t_3 = a1 then
(0)
else (if M 8 t_3.toNatClampNeg = M 8 a1.toNatClampNeg then
(0)
else (if M 7 a1.toNatClampNeg ≤ M 7 t_3.toNatClampNeg then
(0)
else (1)))) fun (t_8 : Int32) =>
t_8
def f_X7_isSide (M : Mem) (a1 : Int32) : Int32 :=
bnd (if (M 6 a1.toNatClampNeg) * (M 8 a1.toNatClampNeg) < 5 * (M 5 a1.toNatClampNeg) then
(0)
else (1)) fun (t_3 : Int32) =>
t_3
def f_X7_isLast (M : Mem) (a1 : Int32) : Int32 :=
bnd (if (M 6 a1.toNatClampNeg) * (M 8 a1.toNatClampNeg) ≤ 0 then
(0)
else (if f_X7_plainly (M 6 a1.toNatClampNeg) < (8 * ((M 0 0) - (M 7 a1.toNatClampNeg))) / 6 then
(0)
else (1))) fun (t_7 : Int32) =>
t_7
def f_X7_turnsByKind (M : Mem) (a1 : Int32) : Int32 :=
if M 2 a1.toNatClampNeg = 0 then
(f_X7_isTurnTime M a1)
else (if M 2 a1.toNatClampNeg = 1 then
(f_X7_isHeaded M a1)
else (if M 2 a1.toNatClampNeg = 2 then
(f_X7_isBad M a1)
else (if M 2 a1.toNatClampNeg = 3 then
(bnd (if ¬ f_X7_isBad M a1 = 0 then
(1)
else (if f_X7_isCovering M a1 = 0 then
(0)
else (1))) fun (t_28 : Int32) =>
t_28)
else (if M 2 a1.toNatClampNeg = 4 then
(bnd (if f_X7_isTurnTime M a1 = 0 then
(0)
else (if ¬ ((M 0 7) / (5 * (M 5 a1.toNatClampNeg))) - ((M 0 7) / (5 * (M 5 a1.toNatClampNeg))) / 2 * 2 = 1 then
(0)
else (1))) fun (t_37 : Int32) =>
t_37)
else (if M 2 a1.toNatClampNeg = 5 then
(f_X7_isSide M a1)
else (if M 2 a1.toNatClampNeg = 6 then
(bnd (if ¬ f_X7_isSide M a1 = 0 then
(1)
else (if f_X7_isLast M a1 = 0 then
(0)
else (1))) fun (t_55 : Int32) =>
t_55)
else (bnd (if f_X7_isHeaded M a1 = 0 then
(0)
else (if M 0 3 ≤ 2 then
(1)
else (if ¬ (M 0 7) - (M 0 7) / 10 * 10 = 0 then
(0)
else (1)))) fun (t_64 : Int32) =>
t_64)))))))
def lp_X7_turnAll_2 : Nat → Mem → Int32 → Mem
  | 0, M_14, v_13 => M_14
  | n + 1, M_14, v_13 =>
    if M_14 0 8 ≤ v_13 then
    (M_14)
    else (bnd (if ¬ M_14 19 v_13.toNatClampNeg = 1 then
    (M_14)
    else (bnd (f_X7_turnOne M_14 v_13) fun M_21 =>
    M_21)) fun (M_23 : Mem) =>
    bnd (v_13 + 1) fun y_24 =>
    lp_X7_turnAll_2 n M_23 y_24)
def f_X7_turnAll (M : Mem) : Mem :=
bnd (lp_X7_turnAll_2 5 M 0) fun M_25 =>
M_25
def lp_X7_raceOn_6 : Nat → Mem → Int32 → Mem
  | 0, M_29, v_28 => M_29
  | n + 1, M_29, v_28 =>
    if M_29 0 8 ≤ v_28 then
    (M_29)
    else (bnd (if f_X7_mayTurn M_29 v_28 = 0 then
    (0)
    else (if ¬ f_X7_isOut M_29 v_28 = 0 then
    (1)
    else (if f_X7_turnsByKind M_29 v_28 = 0 then
    (0)
    else (1)))) fun (t_48 : Int32) =>
    bnd (up2 M_29 19 v_28.toNatClampNeg t_48) fun M_49 =>
    bnd (v_28 + 1) fun y_50 =>
    lp_X7_raceOn_6 n M_49 y_50)
def f_X7_raceOn (M : Mem) : Mem :=
bnd (f_X7_moveAll M) fun M_3 =>
bnd (lp_X7_raceOn_6 5 M_3 0) fun M_51 =>
bnd (f_X7_turnAll M_51) fun M_54 =>
M_54
def lp_X7_isEnded_4 : Nat → Mem → Int32 → Int32 → Int32
  | 0, M, v_14, v_15 => v_14
  | n + 1, M, v_14, v_15 =>
    if M 0 8 ≤ v_15 then
    (v_14)
    else (bnd (if v_14 = 0 then
    (0)
    else (if f_X7_isIn M v_15 = 0 then
    (0)
    else (1))) fun (t_25 : Int32) =>
    bnd (v_15 + 1) fun y_26 =>
    lp_X7_isEnded_4 n M t_25 y_26)
def f_X7_isEnded (M : Mem) : Int32 :=
bnd (lp_X7_isEnded_4 5 M 1 0) fun w_27 =>
bnd (if ¬ w_27 = 0 then
(1)
else (if M 0 7 < 400 then
(0)
else (1))) fun (t_31 : Int32) =>
t_31
def lp_X7_raceToEnd_4 : Nat → Mem → Mem
  | 0, M_5 => M_5
  | n + 1, M_5 =>
    if ¬ f_X7_isEnded M_5 = 0 then
    (M_5)
    else (bnd (f_X7_raceOn M_5) fun M_14 =>
    lp_X7_raceToEnd_4 n M_14)
def f_X7_raceToEnd (M : Mem) : Mem :=
bnd (f_X7_layWinds M) fun M_3 =>
bnd (lp_X7_raceToEnd_4 401 M_3) fun M_16 =>
M_16
def f_X7_worthOf (M : Mem) (a1 : Int32) : Int32 :=
(M 7 a1.toNatClampNeg) - ((f_X7_plainly (M 6 a1.toNatClampNeg)) / 2)
def f_X7_isAhead (M : Mem) (a1 : Int32) (a2 : Int32) : Int32 :=
if ¬ f_X7_isIn M a1 = f_X7_isIn M a2 then
(bnd (if f_X7_isIn M a1 = 0 then
(0)
else (if f_X7_isIn M a2 = 0 then
(1)
else (if M 10 a2.toNatClampNeg ≤ M 10 a1.toNatClampNeg then
(0)
else (1)))) fun (t_22 : Int32) =>
t_22)
else (if f_X7_isIn M a1 = 0 then
(bnd (if f_X7_worthOf M a1 = f_X7_worthOf M a2 then
(if a2 ≤ a1 then
(0)
else (1))
else (if f_X7_worthOf M a1 ≤ f_X7_worthOf M a2 then
(0)
else (1))) fun (t_44 : Int32) =>
t_44)
else (if M 10 a1.toNatClampNeg = M 10 a2.toNatClampNeg then
(bnd (if f_X7_worthOf M a1 = f_X7_worthOf M a2 then
(if a2 ≤ a1 then
(0)
else (1))
else (if f_X7_worthOf M a1 ≤ f_X7_worthOf M a2 then
(0)
else (1))) fun (t_62 : Int32) =>
t_62)
else (bnd (if f_X7_isIn M a1 = 0 then
(0)
else (if f_X7_isIn M a2 = 0 then
(1)
else (if M 10 a2.toNatClampNeg ≤ M 10 a1.toNatClampNeg then
(0)
else (1)))) fun (t_75 : Int32) =>
t_75)))
def lp_X7_placeOf_4 : Nat → Mem → Int32 → Int32 → Int32 → Int32
  | 0, M, a1, v_15, v_16 => v_15
  | n + 1, M, a1, v_15, v_16 =>
    if M 0 8 ≤ v_16 then
    (v_15)
    else (bnd (if v_16 = a1 then
    (0)
    else (if f_X7_isAhead M v_16 a1 = 0 then
    (0)
    else (1))) fun (t_26 : Int32) =>
    bnd (v_15 + t_26) fun y_27 =>
    bnd (v_16 + 1) fun y_28 =>
    lp_X7_placeOf_4 n M a1 y_27 y_28)
def f_X7_placeOf (M : Mem) (a1 : Int32) : Int32 :=
bnd (lp_X7_placeOf_4 5 M a1 1 0) fun w_29 =>
w_29
def f_X7_carry (M : Mem) (a1 : Int32) : Int32 × Mem :=
bnd (if b01 (M 0 37) = 0 then
(M)
else (if M 0 38 = 1 then
(bnd (up2 M 20 (M 0 36).toNatClampNeg a1) fun M_4 =>
M_4)
else (bnd (up2 M 21 (M 0 36).toNatClampNeg a1) fun M_5 =>
M_5))) fun (M_6 : Mem) =>
bnd (up2 M_6 0 36 ((M_6 0 36) + 1)) fun M_7 =>
if M_7 0 38 = 1 then
((M_7 20 ((M_7 0 36) - 1).toNatClampNeg, M_7))
else ((M_7 21 ((M_7 0 36) - 1).toNatClampNeg, M_7))
def lp_X7_carryBoats_2 : Nat → Mem → Int32 → Mem
  | 0, M_47, v_46 => M_47
  | n + 1, M_47, v_46 =>
    if 4 ≤ v_46 then
    (M_47)
    else (bnd2 (f_X7_carry M_47 (M_47 2 v_46.toNatClampNeg)) fun r_50 M_52 =>
    bnd (up2 M_52 2 v_46.toNatClampNeg r_50) fun M_53 =>
    bnd2 (f_X7_carry M_53 (M_53 3 v_46.toNatClampNeg)) fun r_54 M_56 =>
    bnd (up2 M_56 3 v_46.toNatClampNeg r_54) fun M_57 =>
    bnd2 (f_X7_carry M_57 (M_57 4 v_46.toNatClampNeg)) fun r_58 M_60 =>
    bnd (up2 M_60 4 v_46.toNatClampNeg r_58) fun M_61 =>
    bnd2 (f_X7_carry M_61 (M_61 5 v_46.toNatClampNeg)) fun r_62 M_64 =>
    bnd (up2 M_64 5 v_46.toNatClampNeg r_62) fun M_65 =>
    bnd2 (f_X7_carry M_65 (M_65 6 v_46.toNatClampNeg)) fun r_66 M_68 =>
    bnd (up2 M_68 6 v_46.toNatClampNeg r_66) fun M_69 =>
    bnd2 (f_X7_carry M_69 (M_69 7 v_46.toNatClampNeg)) fun r_70 M_72 =>
    bnd (up2 M_72 7 v_46.toNatClampNeg r_70) fun M_73 =>
    bnd2 (f_X7_carry M_73 (M_73 8 v_46.toNatClampNeg)) fun r_74 M_76 =>
    bnd (up2 M_76 8 v_46.toNatClampNeg r_74) fun M_77 =>
    bnd2 (f_X7_carry M_77 (M_77 9 v_46.toNatClampNeg)) fun r_78 M_80 =>
    bnd (up2 M_80 9 v_46.toNatClampNeg r_78) fun M_81 =>
    bnd2 (f_X7_carry M_81 (M_81 10 v_46.toNatClampNeg)) fun r_82 M_84 =>
    bnd (up2 M_84 10 v_46.toNatClampNeg r_82) fun M_85 =>
    bnd2 (f_X7_carry M_85 (M_85 11 v_46.toNatClampNeg)) fun r_86 M_88 =>
    bnd (up2 M_88 11 v_46.toNatClampNeg r_86) fun M_89 =>
    bnd (v_46 + 1) fun y_90 =>
    lp_X7_carryBoats_2 n M_89 y_90)
def f_X7_carryBoats (M : Mem) : Mem :=
bnd (lp_X7_carryBoats_2 5 M 0) fun M_91 =>
M_91
def lp_X7_carryAll_117 : Nat → Mem → Int32 → Mem
  | 0, M_49, v_48 => M_49
  | n + 1, M_49, v_48 =>
    if 100 ≤ v_48 then
    (M_49)
    else (bnd2 (f_X7_carry M_49 (M_49 1 v_48.toNatClampNeg)) fun r_52 M_54 =>
    bnd (up2 M_54 1 v_48.toNatClampNeg r_52) fun M_55 =>
    bnd (v_48 + 1) fun y_56 =>
    lp_X7_carryAll_117 n M_55 y_56)
def f_X7_carryAll (M : Mem) (a1 : Int32) (a2 : Int32) : Mem :=
bnd (up2 M 0 38 a1) fun M_1 =>
bnd (up2 M_1 0 37 a2) fun M_2 =>
bnd (up2 M_2 0 36 0) fun M_3 =>
bnd2 (f_X7_carry M_3 (M_3 0 0)) fun r_4 M_6 =>
bnd (up2 M_6 0 0 r_4) fun M_7 =>
bnd2 (f_X7_carry M_7 (M_7 0 1)) fun r_8 M_10 =>
bnd (up2 M_10 0 1 r_8) fun M_11 =>
bnd2 (f_X7_carry M_11 (M_11 0 2)) fun r_12 M_14 =>
bnd (up2 M_14 0 2 r_12) fun M_15 =>
bnd2 (f_X7_carry M_15 (M_15 0 3)) fun r_16 M_18 =>
bnd (up2 M_18 0 3 r_16) fun M_19 =>
bnd2 (f_X7_carry M_19 (M_19 0 4)) fun r_20 M_22 =>
bnd (up2 M_22 0 4 r_20) fun M_23 =>
bnd2 (f_X7_carry M_23 (M_23 0 7)) fun r_24 M_26 =>
bnd (up2 M_26 0 7 r_24) fun M_27 =>
bnd2 (f_X7_carry M_27 (M_27 0 8)) fun r_28 M_30 =>
bnd (up2 M_30 0 8 r_28) fun M_31 =>
bnd (f_X7_carryBoats M_31) fun M_34 =>
bnd2 (f_X7_carry M_34 (M_34 0 5)) fun r_35 M_37 =>
bnd (up2 M_37 0 5 r_35) fun M_38 =>
bnd (lp_X7_carryAll_117 101 M_38 0) fun M_57 =>
M_57
def f_X7_open (M : Mem) : Mem :=
bnd (f_X7_carryAll M 1 1) fun M_3 =>
M_3
def f_X7_close (M : Mem) : Mem :=
bnd (f_X7_carryAll M 1 0) fun M_3 =>
M_3
def f_X7_image (M : Mem) : Int32 × Mem :=
bnd (up2 M 0 19 0) fun M_1 =>
bnd (up2 M_1 0 35 1) fun M_2 =>
bnd (f_X7_carryAll M_2 2 1) fun M_5 =>
(M_5 0 7, M_5)
def f_X7_restore (M : Mem) : Int32 × Mem :=
bnd (up2 M 0 19 0) fun M_1 =>
if ¬ b01 (M_1 0 35) = 0 then
(bnd (f_X7_carryAll M_1 2 0) fun M_5 =>
bnd (up2 M_5 0 29 0) fun M_6 =>
(M_6 0 7, M_6))
else (((-3), M_1))
def f_X7_leastOf (a1 : Int32) : Int32 :=
bnd (if ¬ a1 = 0 then
(0)
else (40)) fun (t_3 : Int32) =>
t_3
def f_X7_mostOf (a1 : Int32) : Int32 :=
bnd (if ¬ a1 = 0 then
(if ¬ a1 = 1 then
(if ¬ a1 = 2 then
(if ¬ a1 = 3 then
(999)
else (9))
else (200))
else (3))
else (400)) fun (t_6 : Int32) =>
t_6
def lp_X7_isSomeBeyond_4 : Nat → Mem → Int32 → Int32 → Int32 → Int32
  | 0, M, a1, v_10, v_11 => v_10
  | n + 1, M, a1, v_10, v_11 =>
    if M 0 8 ≤ v_11 then
    (v_10)
    else (bnd (if ¬ v_10 = 0 then
    (1)
    else (if M 7 v_11.toNatClampNeg < a1 then
    (0)
    else (1))) fun (t_17 : Int32) =>
    bnd (v_11 + 1) fun y_18 =>
    lp_X7_isSomeBeyond_4 n M a1 t_17 y_18)
def f_X7_isSomeBeyond (M : Mem) (a1 : Int32) : Int32 :=
bnd (lp_X7_isSomeBeyond_4 5 M a1 0 0) fun w_19 =>
w_19
def f_X7_set (M : Mem) (a1 : Int32) (a2 : Int32) : Int32 × Mem :=
bnd (up2 M 0 19 0) fun M_1 =>
if f_X7_in a1.toInt64 0 4 = 0 then
(((-1), M_1))
else (if ¬ f_X7_in a2.toInt64 ((f_X7_leastOf a1).toInt64) ((f_X7_mostOf a1).toInt64) = 0 then
(if ¬ a1 = 0 then
(bnd (if ¬ a1 = 0 then
(if ¬ a1 = 1 then
(if ¬ a1 = 2 then
(if ¬ a1 = 3 then
((M_1 0 4))
else ((M_1 0 3)))
else ((M_1 0 2)))
else ((M_1 0 1)))
else ((M_1 0 0))) fun (t_24 : Int32) =>
bnd (if ¬ a1 = 0 then
((M_1 0 0))
else (a2)) fun (t_27 : Int32) =>
bnd (up2 M_1 0 0 t_27) fun M_28 =>
bnd (if ¬ a1 = 1 then
((M_28 0 1))
else (a2)) fun (t_31 : Int32) =>
bnd (up2 M_28 0 1 t_31) fun M_32 =>
bnd (if ¬ a1 = 2 then
((M_32 0 2))
else (a2)) fun (t_35 : Int32) =>
bnd (up2 M_32 0 2 t_35) fun M_36 =>
bnd (if ¬ a1 = 3 then
((M_36 0 3))
else (a2)) fun (t_39 : Int32) =>
bnd (up2 M_36 0 3 t_39) fun M_40 =>
bnd (if ¬ a1 = 4 then
((M_40 0 4))
else (a2)) fun (t_43 : Int32) =>
bnd (up2 M_40 0 4 t_43) fun M_44 =>
(t_24, M_44))
else (if f_X7_isSomeBeyond M_1 a2 = 0 then
(bnd (if ¬ a1 = 0 then
(if ¬ a1 = 1 then
(if ¬ a1 = 2 then
(if ¬ a1 = 3 then
((M_1 0 4))
else ((M_1 0 3)))
else ((M_1 0 2)))
else ((M_1 0 1)))
else ((M_1 0 0))) fun (t_55 : Int32) =>
bnd (if ¬ a1 = 0 then
((M_1 0 0))
else (a2)) fun (t_58 : Int32) =>
bnd (up2 M_1 0 0 t_58) fun M_59 =>
bnd (if ¬ a1 = 1 then
((M_59 0 1))
else (a2)) fun (t_62 : Int32) =>
bnd (up2 M_59 0 1 t_62) fun M_63 =>
bnd (if ¬ a1 = 2 then
((M_63 0 2))
else (a2)) fun (t_66 : Int32) =>
bnd (up2 M_63 0 2 t_66) fun M_67 =>
bnd (if ¬ a1 = 3 then
((M_67 0 3))
else (a2)) fun (t_70 : Int32) =>
bnd (up2 M_67 0 3 t_70) fun M_71 =>
bnd (if ¬ a1 = 4 then
((M_71 0 4))
else (a2)) fun (t_74 : Int32) =>
bnd (up2 M_71 0 4 t_74) fun M_75 =>
(t_55, M_75))
else (((-3), M_1))))
else (((-1), M_1)))
def lp_X7_readText_12 : Nat → Int32 → Mem → Int32 → Mem
  | 0, a1, M_10, v_9 => M_10
  | n + 1, a1, M_10, v_9 =>
    if M_10 0 21 ≤ v_9 then
    (M_10)
    else (bnd (up2 M_10 12 v_9.toNatClampNeg ((((M_10 29 ((100 * a1) + v_9).toNatClampNeg).toInt64).toInt32) &&& 255)) fun M_13 =>
    bnd (v_9 + 1) fun y_14 =>
    lp_X7_readText_12 n a1 M_13 y_14)
def f_X7_readText (M : Mem) (a1 : Int32) : Mem :=
bnd (up2 M 0 21 (M 28 a1.toNatClampNeg)) fun M_2 =>
bnd (lp_X7_readText_12 101 a1 M_2 0) fun M_15 =>
M_15
def f_X7_wrongRow (M : Mem) (a1 : Int32) : Int32 :=
bnd (if ¬ f_X7_in a1.toInt64 0 7 = 0 then
(if ¬ M 23 a1.toNatClampNeg = 0 then
(if M 23 a1.toNatClampNeg = 2 then
(0)
else ((-12)))
else ((-11)))
else ((-1))) fun (t_9 : Int32) =>
t_9
def f_X7_wrongSort (M : Mem) (a1 : Int32) (a2 : Int32) : Int32 :=
bnd (if 0 ≤ f_X7_wrongRow M a1 then
(if M 27 a1.toNatClampNeg = a2 then
(0)
else ((-12)))
else ((f_X7_wrongRow M a1))) fun (t_10 : Int32) =>
t_10
def f_X7_fault (M : Mem) (a1 : Int32) : Int32 × Mem :=
bnd (up2 M 0 19 0) fun M_1 =>
bnd (f_X7_wrongSort M_1 a1 0) fun y_5 =>
if 0 ≤ y_5 then
(bnd (f_X7_readText M_1 a1) fun M_9 =>
bnd2 (f_X7_faultOf M_9) fun r_11 M_13 =>
(r_11, M_13))
else ((y_5, M_1))
def lp_X7_law_48 : Nat → Mem → Int32 → Mem
  | 0, M_24, v_23 => M_24
  | n + 1, M_24, v_23 =>
    if M_24 0 21 ≤ v_23 then
    (M_24)
    else (bnd (up2 M_24 1 v_23.toNatClampNeg (M_24 12 v_23.toNatClampNeg)) fun M_27 =>
    bnd (v_23 + 1) fun y_28 =>
    lp_X7_law_48 n M_27 y_28)
def f_X7_law (M : Mem) (a1 : Int32) : Int32 × Mem :=
bnd (up2 M 0 19 0) fun M_1 =>
bnd (f_X7_wrongSort M_1 a1 0) fun y_5 =>
if 0 ≤ y_5 then
(bnd (f_X7_readText M_1 a1) fun M_9 =>
bnd2 (f_X7_faultOf M_9) fun r_11 M_13 =>
if r_11 < 0 then
(bnd (up2 M_13 0 5 (M_13 0 21)) fun M_16 =>
bnd (lp_X7_law_48 101 M_16 0) fun M_29 =>
bnd (up2 M_29 0 29 0) fun M_30 =>
(1, M_30))
else (((-100) - r_11, M_13)))
else ((y_5, M_1))
def f_X7_wind (M : Mem) (a1 : Int32) : Int32 × Mem :=
bnd (up2 M 0 19 0) fun M_1 =>
bnd2 (if f_X7_in a1.toInt64 0 400 = 0 then
(((-1000000001), M_1))
else (bnd2 (f_X7_windBy M_1 a1 (M_1 0 4)) fun r_8 M_10 =>
(r_8, M_10))) fun (t_12 : Int32) (M_13 : Mem) =>
(t_12, M_13)
def f_X7_isPlace (a1 : Int32) : Int32 :=
f_X7_in a1.toInt64 (-200) 200
def f_X7_begin (M : Mem) (a1 : Int32) : Mem :=
bnd (up2 M 6 a1.toNatClampNeg (M 3 a1.toNatClampNeg)) fun M_1 =>
bnd (up2 M_1 7 a1.toNatClampNeg 0) fun M_2 =>
bnd (up2 M_2 8 a1.toNatClampNeg (M_2 4 a1.toNatClampNeg)) fun M_3 =>
bnd (up2 M_3 9 a1.toNatClampNeg 0) fun M_4 =>
bnd (up2 M_4 10 a1.toNatClampNeg (-4)) fun M_5 =>
bnd (up2 M_5 11 a1.toNatClampNeg 0) fun M_6 =>
M_6
def f_X7_boat (M : Mem) (a1 : Int32) (a2 : Int32) (a3 : Int32) (a4 : Int32) : Int32 × Mem :=
bnd (up2 M 0 19 0) fun M_1 =>
if f_X7_in a1.toInt64 0 7 = 0 then
(((-1), M_1))
else (if f_X7_isPlace a2 = 0 then
(((-1), M_1))
else (if ¬ f_X7_in a4.toInt64 0 40 = 0 then
(if M_1 0 8 = 4 then
(bnd (if ¬ M_1 0 8 = 4 then
((-3))
else ((-2))) fun (t_20 : Int32) =>
(t_20, M_1))
else (if M_1 0 7 ≤ 0 then
(bnd (up2 M_1 2 (M_1 0 8).toNatClampNeg a1) fun M_22 =>
bnd (up2 M_22 3 (M_22 0 8).toNatClampNeg a2) fun M_23 =>
bnd (if a3 = 0 then
((-1))
else (1)) fun (t_26 : Int32) =>
bnd (up2 M_23 4 (M_23 0 8).toNatClampNeg t_26) fun M_27 =>
bnd (up2 M_27 5 (M_27 0 8).toNatClampNeg a4) fun M_28 =>
bnd (f_X7_begin M_28 (M_28 0 8)) fun M_31 =>
bnd (up2 M_31 0 8 ((M_31 0 8) + 1)) fun M_33 =>
((M_33 0 8) - 1, M_33))
else (bnd (if ¬ M_1 0 8 = 4 then
((-3))
else ((-2))) fun (t_36 : Int32) =>
(t_36, M_1))))
else (((-1), M_1))))
def f_X7_of (M : Mem) (a1 : Int32) (a2 : Int32) : Int32 × Mem :=
bnd (up2 M 0 19 0) fun M_1 =>
if f_X7_isBoat M_1 a1 = 0 then
(((-1000000001), M_1))
else (if ¬ f_X7_in a2.toInt64 0 7 = 0 then
(if a2 = 0 then
((M_1 2 a1.toNatClampNeg, M_1))
else (if a2 = 1 then
((M_1 6 a1.toNatClampNeg, M_1))
else (if a2 = 2 then
((M_1 7 a1.toNatClampNeg, M_1))
else (if a2 = 3 then
(bnd (if M_1 8 a1.toNatClampNeg ≤ 0 then
(0)
else (1)) fun (t_18 : Int32) =>
(t_18, M_1))
else (if a2 = 4 then
((M_1 9 a1.toNatClampNeg, M_1))
else (if a2 = 5 then
((M_1 10 a1.toNatClampNeg, M_1))
else (if a2 = 6 then
((M_1 5 a1.toNatClampNeg, M_1))
else ((M_1 11 a1.toNatClampNeg, M_1)))))))))
else (((-1000000001), M_1)))
def f_X7_badAir (M : Mem) (a1 : Int32) : Int32 × Mem :=
bnd (up2 M 0 19 0) fun M_1 =>
bnd (if ¬ f_X7_isBoat M_1 a1 = 0 then
(if f_X7_isBad M_1 a1 = 0 then
(0)
else (1))
else ((-1))) fun (t_13 : Int32) =>
(t_13, M_1)
def lp_X7_go_42 : Nat → Int32 → Mem → Int32 → Mem
  | 0, a1, M_32, v_31 => M_32
  | n + 1, a1, M_32, v_31 =>
    if a1 ≤ v_31 then
    (M_32)
    else (if ¬ f_X7_isEnded M_32 = 0 then
    (M_32)
    else (bnd (f_X7_raceOn M_32) fun M_42 =>
    bnd (v_31 + 1) fun y_44 =>
    lp_X7_go_42 n a1 M_42 y_44))
def f_X7_go (M : Mem) (a1 : Int32) : Int32 × Mem :=
bnd (up2 M 0 19 0) fun M_1 =>
if ¬ f_X7_in a1.toInt64 1 100 = 0 then
(if M_1 0 8 = 0 then
(((-3), M_1))
else (if f_X7_isEnded M_1 = 0 then
(bnd (f_X7_layWinds M_1) fun M_15 =>
bnd (lp_X7_go_42 ((a1.toInt - 0).toNat + 1) a1 M_15 0) fun M_45 =>
(M_45 0 7, M_45))
else (((-3), M_1))))
else (((-1), M_1))
def f_X7_turn (M : Mem) (a1 : Int32) : Int32 × Mem :=
bnd (up2 M 0 19 0) fun M_1 =>
if ¬ f_X7_isBoat M_1 a1 = 0 then
(if ¬ f_X7_mayTurn M_1 a1 = 0 then
(bnd (f_X7_turnOne M_1 a1) fun M_14 =>
(M_14 9 a1.toNatClampNeg, M_14))
else (((-3), M_1)))
else (((-1), M_1))
def lp_X7_anew_12 : Nat → Mem → Int32 → Mem
  | 0, M_13, v_12 => M_13
  | n + 1, M_13, v_12 =>
    if M_13 0 8 ≤ v_12 then
    (M_13)
    else (bnd (f_X7_begin M_13 v_12) fun M_18 =>
    bnd (v_12 + 1) fun y_20 =>
    lp_X7_anew_12 n M_18 y_20)
def f_X7_anew (M : Mem) : Int32 × Mem :=
bnd (up2 M 0 19 0) fun M_1 =>
bnd (up2 M_1 0 7 0) fun M_2 =>
bnd (lp_X7_anew_12 5 M_2 0) fun M_21 =>
(M_21 0 8, M_21)
def lp_X7_place_14 : Nat → Int32 → Mem → Int32 → Int32 × Mem
  | 0, a1, M_1, v_10 => (0, M_1)
  | n + 1, a1, M_1, v_10 =>
    if M_1 0 8 ≤ v_10 then
    (((-4), M_1))
    else (if ¬ f_X7_placeOf M_1 v_10 = a1 then
    (bnd (v_10 + 1) fun y_16 =>
    lp_X7_place_14 n a1 M_1 y_16)
    else ((v_10, M_1)))
def f_X7_place (M : Mem) (a1 : Int32) : Int32 × Mem :=
bnd (up2 M 0 19 0) fun M_1 =>
if 1 ≤ a1 then
(lp_X7_place_14 5 a1 M_1 0)
else (((-1), M_1))
def f_X7_ends (M : Mem) (a1 : Int32) : Int32 × Mem :=
bnd (up2 M 0 19 0) fun M_1 =>
if ¬ f_X7_isBoat M_1 a1 = 0 then
(bnd (f_X7_open M_1) fun M_9 =>
bnd (f_X7_raceToEnd M_9) fun M_13 =>
bnd (f_X7_placeOf M_13 a1) fun y_18 =>
bnd (f_X7_close M_13) fun M_21 =>
(y_18, M_21))
else (((-1), M_1))
def f_X7_isBitTime (M : Mem) (a1 : Int32) : Int32 :=
bnd (((M 0 7) / 10) - 1) fun y_1 =>
bnd (if ¬ (M 0 7) - (M 0 7) / 10 * 10 = 0 then
(0)
else (if f_X7_in y_1.toInt64 0 (((M 0 40) - 1).toInt64) = 0 then
(0)
else (if ¬ ((M 22 a1.toNatClampNeg) >>> (y_1 &&& 31)) &&& 1 = 1 then
(0)
else (1)))) fun (t_10 : Int32) =>
t_10
def lp_X7_bitsOn_6 : Nat → Mem → Int32 → Mem
  | 0, M_29, v_28 => M_29
  | n + 1, M_29, v_28 =>
    if M_29 0 8 ≤ v_28 then
    (M_29)
    else (bnd (if f_X7_mayTurn M_29 v_28 = 0 then
    (0)
    else (if ¬ f_X7_isOut M_29 v_28 = 0 then
    (1)
    else (if f_X7_isBitTime M_29 v_28 = 0 then
    (0)
    else (1)))) fun (t_48 : Int32) =>
    bnd (up2 M_29 19 v_28.toNatClampNeg t_48) fun M_49 =>
    bnd (v_28 + 1) fun y_50 =>
    lp_X7_bitsOn_6 n M_49 y_50)
def f_X7_bitsOn (M : Mem) : Mem :=
bnd (f_X7_moveAll M) fun M_3 =>
bnd (lp_X7_bitsOn_6 5 M_3 0) fun M_51 =>
bnd (f_X7_turnAll M_51) fun M_54 =>
M_54
def f_X7_lay (M : Mem) (a1 : Int32) (a2 : Int32) (a3 : Int32) (a4 : Int32) : Mem :=
bnd (up2 M 3 a1.toNatClampNeg a2) fun M_1 =>
bnd (if a3 = 0 then
((-1))
else (1)) fun (t_4 : Int32) =>
bnd (up2 M_1 4 a1.toNatClampNeg t_4) fun M_5 =>
bnd (up2 M_5 22 a1.toNatClampNeg a4) fun M_6 =>
bnd (f_X7_begin M_6 a1) fun M_9 =>
M_9
def lp_X7_secondsBy_24 : Nat → Mem → Mem
  | 0, M_8 => M_8
  | n + 1, M_8 =>
    if ¬ f_X7_isEnded M_8 = 0 then
    (M_8)
    else (bnd (f_X7_bitsOn M_8) fun M_17 =>
    lp_X7_secondsBy_24 n M_17)
def f_X7_secondsBy (M : Mem) (a1 : Int32) (a2 : Int32) (a3 : Int32) : Int32 × Mem :=
bnd (up2 M 0 8 1) fun M_1 =>
bnd (up2 M_1 0 7 0) fun M_2 =>
bnd (up2 M_2 0 40 8) fun M_3 =>
bnd (f_X7_lay M_3 0 a1 a2 a3) fun M_6 =>
bnd (lp_X7_secondsBy_24 401 M_6) fun M_19 =>
bnd (if f_X7_isIn M_19 0 = 0 then
(400)
else ((M_19 10 (0 : Int32).toNatClampNeg))) fun (t_26 : Int32) =>
(t_26, M_19)
def f_X7_tacks (M : Mem) (a1 : Int32) (a2 : Int32) (a3 : Int32) : Int32 × Mem :=
bnd (up2 M 0 19 0) fun M_1 =>
if f_X7_isPlace a1 = 0 then
(((-1), M_1))
else (if ¬ f_X7_in a3.toInt64 0 255 = 0 then
(bnd (f_X7_open M_1) fun M_14 =>
bnd (f_X7_layWinds M_14) fun M_18 =>
bnd2 (f_X7_secondsBy M_18 a1 a2 a3) fun r_20 M_22 =>
bnd (f_X7_close M_22) fun M_26 =>
(r_20, M_26))
else (((-1), M_1)))
def lp_X7_bestSeconds_7 : Nat → Int32 → Int32 → Mem → Int32 → Int32 → Int32 × Mem
  | 0, a1, a2, M_20, v_18, v_19 => (v_18, M_20)
  | n + 1, a1, a2, M_20, v_18, v_19 =>
    if 256 ≤ v_19 then
    ((v_18, M_20))
    else (bnd2 (f_X7_secondsBy M_20 a1 a2 v_19) fun r_23 M_25 =>
    bnd (if v_18 ≤ r_23 then
    ((M_25 0 41))
    else (v_19)) fun (t_29 : Int32) =>
    bnd (up2 M_25 0 41 t_29) fun M_30 =>
    bnd (if v_18 ≤ r_23 then
    (v_18)
    else (r_23)) fun (t_33 : Int32) =>
    bnd (v_19 + 1) fun y_34 =>
    lp_X7_bestSeconds_7 n a1 a2 M_30 t_33 y_34)
def f_X7_bestSeconds (M : Mem) (a1 : Int32) (a2 : Int32) : Int32 × Mem :=
bnd2 (lp_X7_bestSeconds_7 257 a1 a2 M 999 0) fun w_35 M_36 =>
(w_35, M_36)
def f_X7_best (M : Mem) (a1 : Int32) (a2 : Int32) (a3 : Int32) : Int32 × Mem :=
bnd (up2 M 0 19 0) fun M_1 =>
if f_X7_isPlace a1 = 0 then
(((-1), M_1))
else (if ¬ f_X7_in a3.toInt64 0 1 = 0 then
(bnd (f_X7_open M_1) fun M_14 =>
bnd (f_X7_layWinds M_14) fun M_18 =>
bnd2 (f_X7_bestSeconds M_18 a1 a2) fun r_20 M_22 =>
bnd (f_X7_close M_22) fun M_26 =>
bnd (if ¬ a3 = 0 then
(r_20)
else ((M_26 0 41))) fun (t_30 : Int32) =>
(t_30, M_26))
else (((-1), M_1)))
def f_X7_bestFrom (M : Mem) (a1 : Int32) : Int32 × Mem :=
bnd2 (f_X7_bestSeconds M a1 1) fun r_1 M_3 =>
bnd2 (f_X7_bestSeconds M_3 a1 0) fun r_5 M_7 =>
bnd (if r_5 ≤ r_1 then
(r_5)
else (r_1)) fun (t_11 : Int32) =>
(t_11, M_7)
def f_X7_sides (M : Mem) : Int32 × Mem :=
bnd (up2 M 0 19 0) fun M_1 =>
bnd (f_X7_open M_1) fun M_4 =>
bnd (f_X7_layWinds M_4) fun M_8 =>
bnd2 (f_X7_bestFrom M_8 100) fun r_10 M_12 =>
bnd2 (f_X7_bestFrom M_12 (-100)) fun r_14 M_16 =>
bnd (r_10 - r_14) fun y_18 =>
bnd (f_X7_close M_16) fun M_21 =>
(y_18, M_21)
def f_X7_countsAs (M : Mem) (a1 : Int32) : Int32 :=
bnd (if f_X7_isIn M a1 = 0 then
((f_X7_worthOf M a1))
else ((M 0 0))) fun (t_10 : Int32) =>
t_10
def lp_X7_leadBy_58 : Nat → Mem → Int32 → Mem
  | 0, M_28, v_27 => M_28
  | n + 1, M_28, v_27 =>
    if 60 ≤ v_27 then
    (M_28)
    else (bnd (f_X7_bitsOn M_28) fun M_33 =>
    bnd (v_27 + 1) fun y_35 =>
    lp_X7_leadBy_58 n M_33 y_35)
def f_X7_leadBy (M : Mem) (a1 : Int32) (a2 : Int32) (a3 : Int32) (a4 : Int32) (a5 : Int32) : Int32 × Mem :=
bnd (up2 M 0 8 2) fun M_1 =>
bnd (up2 M_1 0 7 0) fun M_2 =>
bnd (up2 M_2 0 40 4) fun M_3 =>
bnd (if ¬ a3 &&& 1 = 1 then
(0)
else (1)) fun (t_6 : Int32) =>
bnd (f_X7_lay M_3 0 a1 t_6 a4) fun M_9 =>
bnd (if ¬ a3 &&& 2 = 2 then
(0)
else (1)) fun (t_13 : Int32) =>
bnd (f_X7_lay M_9 1 a2 t_13 a5) fun M_16 =>
bnd (lp_X7_leadBy_58 61 M_16 0) fun M_36 =>
((f_X7_countsAs M_36 0) - (f_X7_countsAs M_36 1), M_36)
def f_X7_isGame (a1 : Int32) (a2 : Int32) (a3 : Int32) : Int32 :=
bnd (if f_X7_isPlace a1 = 0 then
(0)
else (if f_X7_isPlace a2 = 0 then
(0)
else (if f_X7_in a3.toInt64 0 3 = 0 then
(0)
else (1)))) fun (t_17 : Int32) =>
t_17
def f_X7_lead (M : Mem) (a1 : Int32) (a2 : Int32) (a3 : Int32) (a4 : Int32) (a5 : Int32) : Int32 × Mem :=
bnd (up2 M 0 19 0) fun M_1 =>
if f_X7_isGame a1 a2 a3 = 0 then
(((-1000000001), M_1))
else (if f_X7_in a4.toInt64 0 15 = 0 then
(((-1000000001), M_1))
else (if ¬ f_X7_in a5.toInt64 0 15 = 0 then
(bnd (f_X7_open M_1) fun M_19 =>
bnd (f_X7_layWinds M_19) fun M_23 =>
bnd2 (f_X7_leadBy M_23 a1 a2 a3 a4 a5) fun r_25 M_27 =>
bnd (f_X7_close M_27) fun M_31 =>
(r_25, M_31))
else (((-1000000001), M_1))))
def lp_X7_safe_63'' : Nat → Int32 → Int32 → Int32 → Int32 → Mem → Int32 → Int32 → Int32 × Mem
  | 0, a1, a2, a3, v_104, M_123, v_121, v_122 => (v_121, M_123)
  | n + 1, a1, a2, a3, v_104, M_123, v_121, v_122 =>
    if 16 ≤ v_122 then
    ((v_121, M_123))
    else (bnd2 (f_X7_leadBy M_123 a1 a2 a3 v_104 v_122) fun r_126 M_128 =>
    bnd (if v_121 ≤ r_126 then
    (v_121)
    else (r_126)) fun (t_132 : Int32) =>
    bnd (v_122 + 1) fun y_133 =>
    lp_X7_safe_63'' n a1 a2 a3 v_104 M_128 t_132 y_133)
def lp_X7_safe_48 : Nat → Int32 → Int32 → Int32 → Mem → Int32 → Int32 → Int32 → Int32 × Int32 × Mem
  | 0, a1, a2, a3, M_105, v_102, v_103, v_104 => (v_102, v_103, M_105)
  | n + 1, a1, a2, a3, M_105, v_102, v_103, v_104 =>
    if 16 ≤ v_104 then
    ((v_102, v_103, M_105))
    else (bnd2 (lp_X7_safe_63'' 17 a1 a2 a3 v_104 M_105 1000000000 0) fun w_134 M_135 =>
    bnd (if w_134 ≤ v_103 then
    (v_102)
    else (v_104)) fun (t_138 : Int32) =>
    bnd (if w_134 ≤ v_103 then
    (v_103)
    else (w_134)) fun (t_141 : Int32) =>
    bnd (v_104 + 1) fun y_142 =>
    lp_X7_safe_48 n a1 a2 a3 M_135 t_138 t_141 y_142)
def f_X7_safe (M : Mem) (a1 : Int32) (a2 : Int32) (a3 : Int32) (a4 : Int32) : Int32 × Mem :=
bnd (up2 M 0 19 0) fun M_1 =>
if f_X7_isGame a1 a2 a3 = 0 then
(((-1000000001), M_1))
else (if ¬ f_X7_in a4.toInt64 0 1 = 0 then
(bnd (f_X7_open M_1) fun M_14 =>
bnd (f_X7_layWinds M_14) fun M_18 =>
bnd3 (lp_X7_safe_48 17 a1 a2 a3 M_18 0 (-1000000000) 0) fun w_143 w_144 M_145 =>
bnd (f_X7_close M_145) fun M_148 =>
bnd (if ¬ a4 = 0 then
(w_143)
else (w_144)) fun (t_152 : Int32) =>
(t_152, M_148))
else (((-1000000001), M_1)))
def lp_X7_answer_48 : Nat → Int32 → Int32 → Int32 → Int32 → Mem → Int32 → Int32 → Int32 → Int32 × Mem
  | 0, a1, a2, a3, a4, M_57, v_54, v_55, v_56 => (v_54, M_57)
  | n + 1, a1, a2, a3, a4, M_57, v_54, v_55, v_56 =>
    if 16 ≤ v_56 then
    ((v_54, M_57))
    else (bnd2 (f_X7_leadBy M_57 a1 a2 a3 a4 v_56) fun r_60 M_62 =>
    bnd (if v_55 ≤ r_60 then
    (v_54)
    else (v_56)) fun (t_66 : Int32) =>
    bnd (if v_55 ≤ r_60 then
    (v_55)
    else (r_60)) fun (t_69 : Int32) =>
    bnd (v_56 + 1) fun y_70 =>
    lp_X7_answer_48 n a1 a2 a3 a4 M_62 t_66 t_69 y_70)
def f_X7_answer (M : Mem) (a1 : Int32) (a2 : Int32) (a3 : Int32) (a4 : Int32) : Int32 × Mem :=
bnd (up2 M 0 19 0) fun M_1 =>
if f_X7_isGame a1 a2 a3 = 0 then
(((-1), M_1))
else (if ¬ f_X7_in a4.toInt64 0 15 = 0 then
(bnd (f_X7_open M_1) fun M_14 =>
bnd (f_X7_layWinds M_14) fun M_18 =>
bnd2 (lp_X7_answer_48 17 a1 a2 a3 a4 M_18 0 1000000000 0) fun w_71 M_72 =>
bnd (f_X7_close M_72) fun M_75 =>
(w_71, M_75))
else (((-1), M_1)))
def f_X7_cover (M : Mem) (a1 : Int32) (a2 : Int32) (a3 : Int32) (a4 : Int32) : Int32 × Mem :=
bnd2 (f_X7_lead M a1 a2 a3 a4 a4) fun r_1 M_3 =>
(r_1, M_3)
def lp_X7_which_28 : Nat → Int32 → Mem → Int32 → Int32 → Int32 → Int32 → Int32 × Int32
  | 0, a1, M_1, v_31, v_32, v_33, v_34 => (v_31, v_32)
  | n + 1, a1, M_1, v_31, v_32, v_33, v_34 =>
    if M_1 28 a1.toNatClampNeg ≤ v_34 then
    ((v_31, v_32))
    else (bnd ((M_1 29 (((100 * a1) + v_34) - 1).toNatClampNeg).toInt64) fun y_38 =>
    bnd ((M_1 29 ((100 * a1) + v_34).toNatClampNeg).toInt64) fun y_39 =>
    bnd (if lg_cmp y_39 y_38 ≤ 0 then
    (if 0 ≤ lg_cmp y_39 y_38 then
    (v_33)
    else ((-1)))
    else (1)) fun (t_43 : Int32) =>
    bnd (if lg_cmp y_38 y_39 = 0 then
    (0)
    else (1)) fun (t_46 : Int32) =>
    bnd (v_31 + t_46) fun y_47 =>
    bnd (if lg_cmp y_38 y_39 = 0 then
    (0)
    else (if v_33 = 0 then
    (0)
    else (if t_43 = v_33 then
    (0)
    else (1)))) fun (t_52 : Int32) =>
    bnd (v_32 + t_52) fun y_53 =>
    bnd (v_34 + 1) fun y_54 =>
    lp_X7_which_28 n a1 M_1 y_47 y_53 t_43 y_54)
def f_X7_which (M : Mem) (a1 : Int32) : Int32 × Mem :=
bnd (up2 M 0 19 0) fun M_1 =>
bnd (f_X7_wrongRow M_1 a1) fun y_5 =>
if 0 ≤ y_5 then
(bnd2 (lp_X7_which_28 100 a1 M_1 0 0 0 1) fun w_55 w_56 =>
bnd (if 3 ≤ w_55 then
(if 3 * w_56 < w_55 then
(2)
else (1))
else (0)) fun (t_60 : Int32) =>
(t_60, M_1))
else ((y_5, M_1))
def f_X7_skippedIn (M : Mem) (a1 : Int32) : Int64 :=
bnd (if ¬ M 27 a1.toNatClampNeg = 0 then
(if ¬ M 27 a1.toNatClampNeg = 1 then
((-2147483648))
else ((-32768)))
else ((-128))) fun (t_4 : Int64) =>
t_4
def lp_X7_read_44 : Nat → Int32 → Int32 → Mem → Int32 → Int32 → Int32 × Mem
  | 0, a1, a2, M_50, v_48, v_49 => (v_48, M_50)
  | n + 1, a1, a2, M_50, v_48, v_49 =>
    if M_50 28 a2.toNatClampNeg ≤ v_49 then
    ((v_48, M_50))
    else (if 0 ≤ v_48 then
    ((v_48, M_50))
    else (bnd (if ¬ f_X7_isEnded M_50 = 0 then
    (M_50)
    else (bnd (f_X7_raceOn M_50) fun M_63 =>
    M_63)) fun (M_65 : Mem) =>
    bnd ((M_65 29 ((100 * a2) + v_49).toNatClampNeg).toInt64) fun y_66 =>
    bnd (if lg_cmp y_66 (f_X7_skippedIn M_65 a2) = 0 then
    ((-4))
    else (if lg_cmp y_66 ((M_65 7 a1.toNatClampNeg).toInt64) = 0 then
    ((-4))
    else (v_49))) fun (t_73 : Int32) =>
    bnd (v_49 + 1) fun y_74 =>
    lp_X7_read_44 n a1 a2 M_65 t_73 y_74))
def f_X7_read (M : Mem) (a1 : Int32) (a2 : Int32) : Int32 × Mem :=
bnd (up2 M 0 19 0) fun M_1 =>
bnd (if f_X7_isBoat M_1 a1 = 0 then
((-1))
else ((f_X7_wrongRow M_1 a2))) fun (t_11 : Int32) =>
if 0 ≤ t_11 then
(bnd (f_X7_open M_1) fun M_15 =>
bnd (f_X7_layWinds M_15) fun M_19 =>
bnd2 (lp_X7_read_44 101 a1 a2 M_19 (-4) 0) fun w_75 M_76 =>
bnd (f_X7_close M_76) fun M_79 =>
(w_75, M_79))
else ((t_11, M_1))
def lp_X7_worth_51 : Nat → Int32 → Int32 → Mem → Int32 → Int32 → Int32 × Mem
  | 0, a1, a2, M_49, v_47, v_48 => (v_47, M_49)
  | n + 1, a1, a2, M_49, v_47, v_48 =>
    if a2 ≤ v_48 then
    ((v_47, M_49))
    else (bnd (f_X7_close M_49) fun M_54 =>
    bnd (up2 M_54 0 4 v_48) fun M_56 =>
    bnd (if (M_56 7 (0 : Int32).toNatClampNeg) + a1 ≤ M_56 0 0 then
    (((M_56 7 (0 : Int32).toNatClampNeg) + a1))
    else ((M_56 0 0))) fun (t_59 : Int32) =>
    bnd (if t_59 ≤ M_56 7 (0 : Int32).toNatClampNeg then
    ((M_56 7 (0 : Int32).toNatClampNeg))
    else (t_59)) fun (t_62 : Int32) =>
    bnd (up2 M_56 7 (0 : Int32).toNatClampNeg t_62) fun M_63 =>
    bnd (f_X7_raceToEnd M_63) fun M_66 =>
    bnd (if f_X7_isAhead M_66 0 1 = 0 then
    (0)
    else (1)) fun (t_74 : Int32) =>
    bnd (v_47 + t_74) fun y_75 =>
    bnd (v_48 + 1) fun y_76 =>
    lp_X7_worth_51 n a1 a2 M_66 y_75 y_76)
def f_X7_worth (M : Mem) (a1 : Int32) (a2 : Int32) : Int32 × Mem :=
bnd (up2 M 0 19 0) fun M_1 =>
if f_X7_in a1.toInt64 0 100 = 0 then
(((-1), M_1))
else (if ¬ f_X7_in a2.toInt64 1 20 = 0 then
(if 2 ≤ M_1 0 8 then
(bnd (f_X7_open M_1) fun M_15 =>
bnd2 (lp_X7_worth_51 ((a2.toInt - 0).toNat + 1) a1 a2 M_15 0 0) fun w_77 M_78 =>
bnd (f_X7_close M_78) fun M_81 =>
(w_77, M_81))
else (((-3), M_1)))
else (((-1), M_1)))
def f_X7_pairs (M : Mem) : Int32 × Mem :=
bnd (up2 M 0 19 0) fun M_1 =>
if 4 ≤ M_1 0 8 then
(bnd (f_X7_open M_1) fun M_5 =>
bnd (f_X7_raceToEnd M_5) fun M_9 =>
bnd ((f_X7_placeOf M_9 0) + (f_X7_placeOf M_9 1)) fun y_17 =>
bnd (f_X7_close M_9) fun M_20 =>
(y_17, M_20))
else (((-3), M_1))
def lp_X7_count_15 : Nat → Mem → Int32 → Int32 → Int32 → Int32 → Int32 × Int32 × Int32
  | 0, M_1, v_26, v_27, v_28, v_29 => (v_26, v_27, v_28)
  | n + 1, M_1, v_26, v_27, v_28, v_29 =>
    if M_1 0 8 ≤ v_29 then
    ((v_26, v_27, v_28))
    else (bnd (if f_X7_isIn M_1 v_29 = 0 then
    (0)
    else (1)) fun (t_38 : Int32) =>
    bnd (v_26 + t_38) fun y_39 =>
    bnd (v_27 + (M_1 11 v_29.toNatClampNeg)) fun y_40 =>
    bnd (if f_X7_isBad M_1 v_29 = 0 then
    (0)
    else (1)) fun (t_47 : Int32) =>
    bnd (v_28 + t_47) fun y_48 =>
    bnd (v_29 + 1) fun y_49 =>
    lp_X7_count_15 n M_1 y_39 y_40 y_48 y_49)
def f_X7_count (M : Mem) (a1 : Int32) : Int32 × Mem :=
bnd (up2 M 0 19 0) fun M_1 =>
bnd3 (lp_X7_count_15 5 M_1 0 0 0 0) fun w_50 w_51 w_52 =>
if a1 = 0 then
((M_1 0 8, M_1))
else (if a1 = 1 then
((M_1 0 7, M_1))
else (if a1 = 2 then
((w_50, M_1))
else (if a1 = 3 then
((w_51, M_1))
else (if a1 = 4 then
((w_52, M_1))
else (if a1 = 5 then
((M_1 0 0, M_1))
else (((-1), M_1)))))))
def f_X7_wrongSailor (M : Mem) (a1 : Int32) : Int32 :=
bnd (if ¬ f_X7_in a1.toInt64 0 7 = 0 then
(if ¬ M 23 a1.toNatClampNeg = 0 then
(if M 23 a1.toNatClampNeg = 1 then
(0)
else ((-12)))
else ((-11)))
else ((-1))) fun (t_9 : Int32) =>
t_9
def f_X7_keep (M : Mem) (a1 : Int32) (a2 : Int32) (a3 : Int32) : Int32 × Mem :=
bnd (up2 M 0 19 0) fun M_1 =>
if f_X7_in a1.toInt64 0 7 = 0 then
(((-1), M_1))
else (if f_X7_in a2.toInt64 0 1 = 0 then
(((-1), M_1))
else (if ¬ a2 = 1 then
(bnd (up2 M_1 23 a1.toNatClampNeg a2) fun M_13 =>
bnd (if ¬ a2 = 1 then
(0)
else ((M_13 2 a3.toNatClampNeg))) fun (t_16 : Int32) =>
bnd (up2 M_13 24 a1.toNatClampNeg t_16) fun M_17 =>
bnd (if ¬ a2 = 1 then
(0)
else ((M_17 5 a3.toNatClampNeg))) fun (t_20 : Int32) =>
bnd (up2 M_17 25 a1.toNatClampNeg t_20) fun M_21 =>
bnd (if ¬ a2 = 1 then
(0)
else (a3)) fun (t_24 : Int32) =>
bnd (up2 M_21 26 a1.toNatClampNeg t_24) fun M_25 =>
(0, M_25))
else (if ¬ f_X7_isBoat M_1 a3 = 0 then
(bnd (up2 M_1 23 a1.toNatClampNeg a2) fun M_31 =>
bnd (if ¬ a2 = 1 then
(0)
else ((M_31 2 a3.toNatClampNeg))) fun (t_34 : Int32) =>
bnd (up2 M_31 24 a1.toNatClampNeg t_34) fun M_35 =>
bnd (if ¬ a2 = 1 then
(0)
else ((M_35 5 a3.toNatClampNeg))) fun (t_38 : Int32) =>
bnd (up2 M_35 25 a1.toNatClampNeg t_38) fun M_39 =>
bnd (if ¬ a2 = 1 then
(0)
else (a3)) fun (t_42 : Int32) =>
bnd (up2 M_39 26 a1.toNatClampNeg t_42) fun M_43 =>
(0, M_43))
else (((-1), M_1)))))
def f_X7_narrowed (a1 : Int32) (a2 : Int32) : Int64 :=
bnd (if ¬ a2 = 0 then
(if ¬ a2 = 1 then
(a1.toInt64)
else (a1.toInt16.toInt32.toInt64))
else (a1.toInt8.toInt32.toInt64)) fun (t_4 : Int64) =>
t_4
def lp_X7_row_68 : Nat → Int32 → Mem → Int32 → Mem
  | 0, a1, M_24, v_23 => M_24
  | n + 1, a1, M_24, v_23 =>
    if 100 ≤ v_23 then
    (M_24)
    else (bnd (up2 M_24 29 ((100 * a1) + v_23).toNatClampNeg ((0 : Int64).toInt32)) fun M_27 =>
    bnd (v_23 + 1) fun y_28 =>
    lp_X7_row_68 n a1 M_27 y_28)
def f_X7_row (M : Mem) (a1 : Int32) (a2 : Int32) (a3 : Int32) : Int32 × Mem :=
bnd (up2 M 0 19 0) fun M_1 =>
if f_X7_in a1.toInt64 0 7 = 0 then
(((-1), M_1))
else (if f_X7_in a2.toInt64 0 2 = 0 then
(((-1), M_1))
else (if a3 ≤ 100 then
(if 0 ≤ a3 then
(bnd (up2 M_1 23 a1.toNatClampNeg 2) fun M_14 =>
bnd (up2 M_14 27 a1.toNatClampNeg a2) fun M_15 =>
bnd (up2 M_15 28 a1.toNatClampNeg a3) fun M_16 =>
bnd (lp_X7_row_68 101 a1 M_16 0) fun M_29 =>
(0, M_29))
else (((-14), M_1)))
else (((-1), M_1))))
def f_X7_put (M : Mem) (a1 : Int32) (a2 : Int32) (a3 : Int32) : Int32 × Mem :=
bnd (up2 M 0 19 0) fun M_1 =>
bnd (f_X7_wrongRow M_1 a1) fun y_5 =>
if 0 ≤ y_5 then
(if ¬ f_X7_in a2.toInt64 0 (((M_1 28 a1.toNatClampNeg) - 1).toInt64) = 0 then
(bnd (up2 M_1 29 ((100 * a1) + a2).toNatClampNeg ((f_X7_narrowed a3 (M_1 27 a1.toNatClampNeg)).toInt32)) fun M_16 =>
(0, M_16))
else (((-13), M_1)))
else ((y_5, M_1))
def f_X7_element (M : Mem) (a1 : Int32) (a2 : Int32) : Int64 × Mem :=
bnd (f_X7_wrongRow M a1) fun y_4 =>
bnd (if ¬ y_4 = (-1) then
(if y_4 < 0 then
(2)
else (if ¬ f_X7_in a2.toInt64 0 (((M 28 a1.toNatClampNeg) - 1).toInt64) = 0 then
(0)
else (2)))
else (1)) fun (t_14 : Int32) =>
bnd (up2 M 0 19 t_14) fun M_15 =>
bnd (if M_15 0 19 ≤ 0 then
(((M_15 29 ((100 * a1) + a2).toNatClampNeg).toInt64))
else (0)) fun (t_18 : Int64) =>
(t_18, M_15)
def lp_X7_copy_137 : Nat → Int32 → Int32 → Int32 → Mem → Int32 → Mem
  | 0, a1, a2, a5, M_31, v_30 => M_31
  | n + 1, a1, a2, a5, M_31, v_30 =>
    if a5 ≤ v_30 then
    (M_31)
    else (bnd (up2 M_31 30 v_30.toNatClampNeg (((M_31 29 (((100 * a1) + a2) + v_30).toNatClampNeg).toInt64).toInt32)) fun M_34 =>
    bnd (v_30 + 1) fun y_35 =>
    lp_X7_copy_137 n a1 a2 a5 M_34 y_35)
def lp_X7_copy_174 : Nat → Int32 → Int32 → Int32 → Mem → Int32 → Mem
  | 0, a3, a4, a5, M_44, v_43 => M_44
  | n + 1, a3, a4, a5, M_44, v_43 =>
    if a5 ≤ v_43 then
    (M_44)
    else (bnd (up2 M_44 29 (((100 * a3) + a4) + v_43).toNatClampNeg (((M_44 30 v_43.toNatClampNeg).toInt64).toInt32)) fun M_47 =>
    bnd (v_43 + 1) fun y_48 =>
    lp_X7_copy_174 n a3 a4 a5 M_47 y_48)
def f_X7_copy (M : Mem) (a1 : Int32) (a2 : Int32) (a3 : Int32) (a4 : Int32) (a5 : Int32) : Int32 × Mem :=
bnd (up2 M 0 19 0) fun M_1 =>
if f_X7_in a1.toInt64 0 7 = 0 then
(((-1), M_1))
else (if ¬ f_X7_in a3.toInt64 0 7 = 0 then
(if M_1 23 a1.toNatClampNeg = 0 then
(((-11), M_1))
else (if ¬ M_1 23 a3.toNatClampNeg = 0 then
(if ¬ M_1 23 a1.toNatClampNeg = 2 then
(((-12), M_1))
else (if ¬ M_1 23 a3.toNatClampNeg = 2 then
(((-12), M_1))
else (if M_1 27 a1.toNatClampNeg = M_1 27 a3.toNatClampNeg then
(if a5 < 0 then
(((-13), M_1))
else (if a2 < 0 then
(((-13), M_1))
else (if a4 < 0 then
(((-13), M_1))
else (if (M_1 28 a1.toNatClampNeg) - a5 < a2 then
(((-13), M_1))
else (if a4 ≤ (M_1 28 a3.toNatClampNeg) - a5 then
(bnd (lp_X7_copy_137 ((a5.toInt - 0).toNat + 1) a1 a2 a5 M_1 0) fun M_36 =>
bnd (lp_X7_copy_174 ((a5.toInt - 0).toNat + 1) a3 a4 a5 M_36 0) fun M_49 =>
(a5, M_49))
else (((-13), M_1)))))))
else (((-12), M_1)))))
else (((-11), M_1))))
else (((-1), M_1)))
def f_X7_skillOf (a1 : Int32) (a2 : Int32) : Int32 :=
if a1 = 0 then
(10)
else (if a1 = 1 then
(10 + a2)
else (if a1 = 2 then
(13)
else (if a1 = 3 then
(26)
else (if a1 = 4 then
(10 - a2)
else (if a1 = 5 then
(15)
else (if a1 = 6 then
(15 + a2)
else ((10 + a2) / 2)))))))
def f_X7_skill (M : Mem) (a1 : Int32) : Int32 × Mem :=
bnd (up2 M 0 19 0) fun M_1 =>
bnd (if 0 ≤ f_X7_wrongSailor M_1 a1 then
((f_X7_skillOf (M_1 24 a1.toNatClampNeg) (M_1 25 a1.toNatClampNeg)))
else (((f_X7_wrongSailor M_1 a1) - 1000000000))) fun (t_13 : Int32) =>
(t_13, M_1)
def f_X7_toss (M : Mem) (a1 : Int32) : Int32 × Mem :=
bnd (up2 M 0 19 0) fun M_1 =>
if 0 ≤ f_X7_wrongSailor M_1 a1 then
(bnd (M_1 24 a1.toNatClampNeg) fun y_6 =>
bnd (M_1 25 a1.toNatClampNeg) fun y_7 =>
if y_6 = 4 then
(((-15), M_1))
else (if ¬ y_7 = 0 then
(bnd (if ¬ y_6 = 3 then
(if ¬ y_6 = 6 then
((M_1 26 a1.toNatClampNeg))
else ((200 + (f_X7_skillOf y_6 y_7))))
else ((100 + (M_1 26 a1.toNatClampNeg)))) fun (t_16 : Int32) =>
(t_16, M_1))
else (((-15), M_1))))
else ((f_X7_wrongSailor M_1 a1, M_1))
