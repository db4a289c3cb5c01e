theorem w0_L : Cond.initialized RL ∈ z_TB := z_TBm (List.mem_of_getElem? (i := 114) (by decide +kernel)) rfl
theorem w0_X10 : Cond.initialized RX10 ∈ z_TB := z_TBm (List.mem_of_getElem? (i := 115) (by decide +kernel)) rfl
theorem w0_X9 : Cond.initialized RX9 ∈ z_TB := z_TBm (List.mem_of_getElem? (i := 116) (by decide +kernel)) rfl
theorem w0_J6 : Cond.initialized RJ6 ∈ z_TB := z_TBm (List.mem_of_getElem? (i := 117) (by decide +kernel)) rfl
theorem w0_X0 : Cond.initialized RX0 ∈ z_TB := z_TBm (List.mem_of_getElem? (i := 118) (by decide +kernel)) rfl
theorem w0_J7 : Cond.initialized RJ7 ∈ z_TB := z_TBm (List.mem_of_getElem? (i := 119) (by decide +kernel)) rfl
theorem w0_X2 : Cond.initialized RX2 ∈ z_TB := z_TBm (List.mem_of_getElem? (i := 120) (by decide +kernel)) rfl
theorem w0_X6 : Cond.initialized RX6 ∈ z_TB := z_TBm (List.mem_of_getElem? (i := 121) (by decide +kernel)) rfl
theorem w0_X4 : Cond.initialized RX4 ∈ z_TB := z_TBm (List.mem_of_getElem? (i := 122) (by decide +kernel)) rfl
theorem w0_X8 : Cond.initialized RX8 ∈ z_TB := z_TBm (List.mem_of_getElem? (i := 123) (by decide +kernel)) rfl
theorem w0_X5 : Cond.initialized RX5 ∈ z_TB := z_TBm (List.mem_of_getElem? (i := 124) (by decide +kernel)) rfl
theorem w0_X1 : Cond.initialized RX1 ∈ z_TB := z_TBm (List.mem_of_getElem? (i := 125) (by decide +kernel)) rfl
theorem w0_X3 : Cond.initialized RX3 ∈ z_TB := z_TBm (List.mem_of_getElem? (i := 126) (by decide +kernel)) rfl
theorem w0_X7 : Cond.initialized RX7 ∈ z_TB := z_TBm (List.mem_of_getElem? (i := 127) (by decide +kernel)) rfl
theorem w0_X11 : Cond.initialized RX11 ∈ z_TB := z_TBm (List.mem_of_getElem? (i := 128) (by decide +kernel)) rfl
theorem w0_J0 : Cond.initialized RJ0 ∈ z_TB := z_TBm (List.mem_of_getElem? (i := 129) (by decide +kernel)) rfl
theorem w0_J1 : Cond.initialized RJ1 ∈ z_TB := z_TBm (List.mem_of_getElem? (i := 130) (by decide +kernel)) rfl
theorem w0_J3 : Cond.initialized RJ3 ∈ z_TB := z_TBm (List.mem_of_getElem? (i := 131) (by decide +kernel)) rfl
theorem w0_J2 : Cond.initialized RJ2 ∈ z_TB := z_TBm (List.mem_of_getElem? (i := 132) (by decide +kernel)) rfl
theorem w0_J9 : Cond.initialized RJ9 ∈ z_TB := z_TBm (List.mem_of_getElem? (i := 133) (by decide +kernel)) rfl
theorem w0_J10 : Cond.initialized RJ10 ∈ z_TB := z_TBm (List.mem_of_getElem? (i := 134) (by decide +kernel)) rfl
theorem wk_L_8 : Cond.classLink RL 8 "WovenKeeper" ∈ z_TB := z_TBm (List.mem_of_getElem? (i := 139) (by decide +kernel)) rfl
theorem wb_X10 : Cond.instantiable RX10 14 ∈ z_TB := z_TBm (List.mem_of_getElem? (i := 140) (by decide +kernel)) rfl
theorem wl_L_22 : Cond.methodLink RL 22 yX10_init ∈ z_TB := z_TBm (List.mem_of_getElem? (i := 141) (by decide +kernel)) rfl
theorem wi_X10_init : Cond.instanceMethod yX10_init ∈ z_TB := z_TBm (List.mem_of_getElem? (i := 142) (by decide +kernel)) rfl
theorem wl_X10_3 : Cond.methodLink RX10 3 ⟨"java/lang/Object", "<init>", "()V"⟩ ∈ z_TB := z_TBm (List.mem_of_getElem? (i := 144) (by decide +kernel)) rfl
theorem wk_X10_9 : Cond.classLink RX10 9 "WovenKeeper$Weave" ∈ z_TB := z_TBm (List.mem_of_getElem? (i := 147) (by decide +kernel)) rfl
theorem wb_X9 : Cond.instantiable RX9 10 ∈ z_TB := z_TBm (List.mem_of_getElem? (i := 148) (by decide +kernel)) rfl
theorem wl_X10_11 : Cond.methodLink RX10 11 yX9_init ∈ z_TB := z_TBm (List.mem_of_getElem? (i := 149) (by decide +kernel)) rfl
theorem wi_X9_init : Cond.instanceMethod yX9_init ∈ z_TB := z_TBm (List.mem_of_getElem? (i := 150) (by decide +kernel)) rfl
theorem wl_X9_3 : Cond.methodLink RX9 3 ⟨"java/lang/Object", "<init>", "()V"⟩ ∈ z_TB := z_TBm (List.mem_of_getElem? (i := 152) (by decide +kernel)) rfl
theorem wk_X9_9 : Cond.classLink RX9 9 "[[I" ∈ z_TB := z_TBm (List.mem_of_getElem? (i := 153) (by decide +kernel)) rfl
theorem wl_X9_45 : Cond.methodLink RX9 45 yX9_layFaces ∈ z_TB := z_TBm (List.mem_of_getElem? (i := 155) (by decide +kernel)) rfl
theorem wi_X9_layFaces : Cond.instanceMethod yX9_layFaces ∈ z_TB := z_TBm (List.mem_of_getElem? (i := 157) (by decide +kernel)) rfl
theorem wl_X9_55 : Cond.methodLink RX9 55 yX9_kindAt ∈ z_TB := z_TBm (List.mem_of_getElem? (i := 159) (by decide +kernel)) rfl
theorem wi_X9_kindAt : Cond.instanceMethod yX9_kindAt ∈ z_TB := z_TBm (List.mem_of_getElem? (i := 161) (by decide +kernel)) rfl
theorem wl_X9_59 : Cond.methodLink RX9 59 yX9_bitsAt ∈ z_TB := z_TBm (List.mem_of_getElem? (i := 163) (by decide +kernel)) rfl
theorem wi_X9_bitsAt : Cond.instanceMethod yX9_bitsAt ∈ z_TB := z_TBm (List.mem_of_getElem? (i := 165) (by decide +kernel)) rfl
theorem wl_X9_49 : Cond.methodLink RX9 49 yX9_layQubits ∈ z_TB := z_TBm (List.mem_of_getElem? (i := 167) (by decide +kernel)) rfl
theorem wi_X9_layQubits : Cond.instanceMethod yX9_layQubits ∈ z_TB := z_TBm (List.mem_of_getElem? (i := 169) (by decide +kernel)) rfl
theorem wl_X9_62 : Cond.methodLink RX9 62 yX9_checksOn ∈ z_TB := z_TBm (List.mem_of_getElem? (i := 171) (by decide +kernel)) rfl
theorem wi_X9_checksOn : Cond.instanceMethod yX9_checksOn ∈ z_TB := z_TBm (List.mem_of_getElem? (i := 172) (by decide +kernel)) rfl
theorem ws_X9_checksOn : Cond.selects RX9 yX9_checksOn yX9_checksOn ∈ z_TB := z_TBm (List.mem_of_getElem? (i := 173) (by decide +kernel)) rfl
theorem wl_X9_65 : Cond.methodLink RX9 65 yJ6_numberOfTrailingZeros_0f7a4 ∈ z_TB := z_TBm (List.mem_of_getElem? (i := 175) (by decide +kernel)) rfl
theorem wt_J6_numberOfTrailingZeros_0f7a4 : Cond.static yJ6_numberOfTrailingZeros_0f7a4 ∈ z_TB := z_TBm (List.mem_of_getElem? (i := 176) (by decide +kernel)) rfl
theorem wc_J6_264 : Cond.constant RJ6 264 (65536) ∈ z_TB := z_TBm (List.mem_of_getElem? (i := 178) (by decide +kernel)) rfl
theorem wl_X9_52 : Cond.methodLink RX9 52 yX9_layBorders ∈ z_TB := z_TBm (List.mem_of_getElem? (i := 179) (by decide +kernel)) rfl
theorem wi_X9_layBorders : Cond.instanceMethod yX9_layBorders ∈ z_TB := z_TBm (List.mem_of_getElem? (i := 181) (by decide +kernel)) rfl
theorem wf_X9_35 : Cond.fieldLink RX9 35 (z_T 9 0).1 (z_T 9 0).2.1 (z_T 9 0).2.2.1 ∈ z_TB := z_TBm (List.mem_of_getElem? (i := 183) (by decide +kernel)) rfl
theorem wf_X6_37 : Cond.fieldLink RX6 37 (z_T 9 0).1 (z_T 9 0).2.1 (z_T 9 0).2.2.1 ∈ z_TB := z_TBm (List.mem_of_getElem? (i := 184) (by decide +kernel)) rfl
theorem wf_X10_104 : Cond.fieldLink RX10 104 (z_T 9 0).1 (z_T 9 0).2.1 (z_T 9 0).2.2.1 ∈ z_TB := z_TBm (List.mem_of_getElem? (i := 185) (by decide +kernel)) rfl
theorem wf_X7_73 : Cond.fieldLink RX7 73 (z_T 9 0).1 (z_T 9 0).2.1 (z_T 9 0).2.2.1 ∈ z_TB := z_TBm (List.mem_of_getElem? (i := 186) (by decide +kernel)) rfl
theorem wf_X9_39 : Cond.fieldLink RX9 39 (z_T 9 1).1 (z_T 9 1).2.1 (z_T 9 1).2.2.1 ∈ z_TB := z_TBm (List.mem_of_getElem? (i := 187) (by decide +kernel)) rfl
theorem wf_X4_49 : Cond.fieldLink RX4 49 (z_T 9 1).1 (z_T 9 1).2.1 (z_T 9 1).2.2.1 ∈ z_TB := z_TBm (List.mem_of_getElem? (i := 188) (by decide +kernel)) rfl
theorem wf_X10_116 : Cond.fieldLink RX10 116 (z_T 9 1).1 (z_T 9 1).2.1 (z_T 9 1).2.2.1 ∈ z_TB := z_TBm (List.mem_of_getElem? (i := 189) (by decide +kernel)) rfl
theorem wf_X0_70 : Cond.fieldLink RX0 70 (z_T 9 1).1 (z_T 9 1).2.1 (z_T 9 1).2.2.1 ∈ z_TB := z_TBm (List.mem_of_getElem? (i := 190) (by decide +kernel)) rfl
theorem wf_X9_42 : Cond.fieldLink RX9 42 (z_T 9 2).1 (z_T 9 2).2.1 (z_T 9 2).2.2.1 ∈ z_TB := z_TBm (List.mem_of_getElem? (i := 191) (by decide +kernel)) rfl
theorem wf_X4_55 : Cond.fieldLink RX4 55 (z_T 9 2).1 (z_T 9 2).2.1 (z_T 9 2).2.2.1 ∈ z_TB := z_TBm (List.mem_of_getElem? (i := 192) (by decide +kernel)) rfl
theorem wf_X3_48 : Cond.fieldLink RX3 48 (z_T 9 2).1 (z_T 9 2).2.1 (z_T 9 2).2.2.1 ∈ z_TB := z_TBm (List.mem_of_getElem? (i := 193) (by decide +kernel)) rfl
theorem wf_X6_43 : Cond.fieldLink RX6 43 (z_T 9 2).1 (z_T 9 2).2.1 (z_T 9 2).2.2.1 ∈ z_TB := z_TBm (List.mem_of_getElem? (i := 194) (by decide +kernel)) rfl
theorem wf_X0_53 : Cond.fieldLink RX0 53 (z_T 9 2).1 (z_T 9 2).2.1 (z_T 9 2).2.2.1 ∈ z_TB := z_TBm (List.mem_of_getElem? (i := 195) (by decide +kernel)) rfl
theorem wf_X7_99 : Cond.fieldLink RX7 99 (z_T 9 2).1 (z_T 9 2).2.1 (z_T 9 2).2.2.1 ∈ z_TB := z_TBm (List.mem_of_getElem? (i := 196) (by decide +kernel)) rfl
theorem wf_X10_140 : Cond.fieldLink RX10 140 (z_T 9 2).1 (z_T 9 2).2.1 (z_T 9 2).2.2.1 ∈ z_TB := z_TBm (List.mem_of_getElem? (i := 197) (by decide +kernel)) rfl
theorem wf_X9_11 : Cond.fieldLink RX9 11 (z_T 9 3).1 (z_T 9 3).2.1 (z_T 9 3).2.2.1 ∈ z_TB := z_TBm (List.mem_of_getElem? (i := 198) (by decide +kernel)) rfl
theorem wf_X7_102 : Cond.fieldLink RX7 102 (z_T 9 3).1 (z_T 9 3).2.1 (z_T 9 3).2.2.1 ∈ z_TB := z_TBm (List.mem_of_getElem? (i := 199) (by decide +kernel)) rfl
theorem wf_X10_161 : Cond.fieldLink RX10 161 (z_T 9 3).1 (z_T 9 3).2.1 (z_T 9 3).2.2.1 ∈ z_TB := z_TBm (List.mem_of_getElem? (i := 200) (by decide +kernel)) rfl
theorem wf_X9_16 : Cond.fieldLink RX9 16 (z_T 9 4).1 (z_T 9 4).2.1 (z_T 9 4).2.2.1 ∈ z_TB := z_TBm (List.mem_of_getElem? (i := 201) (by decide +kernel)) rfl
theorem wf_X7_106 : Cond.fieldLink RX7 106 (z_T 9 4).1 (z_T 9 4).2.1 (z_T 9 4).2.2.1 ∈ z_TB := z_TBm (List.mem_of_getElem? (i := 202) (by decide +kernel)) rfl
theorem wf_X10_165 : Cond.fieldLink RX10 165 (z_T 9 4).1 (z_T 9 4).2.1 (z_T 9 4).2.2.1 ∈ z_TB := z_TBm (List.mem_of_getElem? (i := 203) (by decide +kernel)) rfl
theorem wf_X9_19 : Cond.fieldLink RX9 19 (z_T 9 5).1 (z_T 9 5).2.1 (z_T 9 5).2.2.1 ∈ z_TB := z_TBm (List.mem_of_getElem? (i := 204) (by decide +kernel)) rfl
theorem wf_X3_52 : Cond.fieldLink RX3 52 (z_T 9 5).1 (z_T 9 5).2.1 (z_T 9 5).2.2.1 ∈ z_TB := z_TBm (List.mem_of_getElem? (i := 205) (by decide +kernel)) rfl
theorem wf_X0_58 : Cond.fieldLink RX0 58 (z_T 9 5).1 (z_T 9 5).2.1 (z_T 9 5).2.2.1 ∈ z_TB := z_TBm (List.mem_of_getElem? (i := 206) (by decide +kernel)) rfl
theorem wf_X10_168 : Cond.fieldLink RX10 168 (z_T 9 5).1 (z_T 9 5).2.1 (z_T 9 5).2.2.1 ∈ z_TB := z_TBm (List.mem_of_getElem? (i := 207) (by decide +kernel)) rfl
theorem wf_X9_22 : Cond.fieldLink RX9 22 (z_T 9 6).1 (z_T 9 6).2.1 (z_T 9 6).2.2.1 ∈ z_TB := z_TBm (List.mem_of_getElem? (i := 208) (by decide +kernel)) rfl
theorem wf_X4_89 : Cond.fieldLink RX4 89 (z_T 9 6).1 (z_T 9 6).2.1 (z_T 9 6).2.2.1 ∈ z_TB := z_TBm (List.mem_of_getElem? (i := 209) (by decide +kernel)) rfl
theorem wf_X9_25 : Cond.fieldLink RX9 25 (z_T 9 7).1 (z_T 9 7).2.1 (z_T 9 7).2.2.1 ∈ z_TB := z_TBm (List.mem_of_getElem? (i := 210) (by decide +kernel)) rfl
theorem wf_X4_85 : Cond.fieldLink RX4 85 (z_T 9 7).1 (z_T 9 7).2.1 (z_T 9 7).2.2.1 ∈ z_TB := z_TBm (List.mem_of_getElem? (i := 211) (by decide +kernel)) rfl
theorem wf_X9_28 : Cond.fieldLink RX9 28 (z_T 9 8).1 (z_T 9 8).2.1 (z_T 9 8).2.2.1 ∈ z_TB := z_TBm (List.mem_of_getElem? (i := 212) (by decide +kernel)) rfl
theorem wf_X9_32 : Cond.fieldLink RX9 32 (z_T 9 9).1 (z_T 9 9).2.1 (z_T 9 9).2.2.1 ∈ z_TB := z_TBm (List.mem_of_getElem? (i := 213) (by decide +kernel)) rfl
theorem wf_X3_39 : Cond.fieldLink RX3 39 (z_T 9 9).1 (z_T 9 9).2.1 (z_T 9 9).2.2.1 ∈ z_TB := z_TBm (List.mem_of_getElem? (i := 214) (by decide +kernel)) rfl
theorem wf_X10_319 : Cond.fieldLink RX10 319 (z_T 9 9).1 (z_T 9 9).2.1 (z_T 9 9).2.2.1 ∈ z_TB := z_TBm (List.mem_of_getElem? (i := 215) (by decide +kernel)) rfl
theorem wa_int : Cond.arrayClass .int ∈ z_TB := z_TBm (List.mem_of_getElem? (i := 237) (by decide +kernel)) rfl
theorem wk_X10_21 : Cond.classLink RX10 21 "WovenKeeper$Fabric" ∈ z_TB := z_TBm (List.mem_of_getElem? (i := 238) (by decide +kernel)) rfl
theorem wb_X0 : Cond.instantiable RX0 7 ∈ z_TB := z_TBm (List.mem_of_getElem? (i := 239) (by decide +kernel)) rfl
theorem wl_X10_23 : Cond.methodLink RX10 23 yX0_init ∈ z_TB := z_TBm (List.mem_of_getElem? (i := 240) (by decide +kernel)) rfl
theorem wi_X0_init : Cond.instanceMethod yX0_init ∈ z_TB := z_TBm (List.mem_of_getElem? (i := 241) (by decide +kernel)) rfl
theorem wl_X0_3 : Cond.methodLink RX0 3 ⟨"java/lang/Object", "<init>", "()V"⟩ ∈ z_TB := z_TBm (List.mem_of_getElem? (i := 243) (by decide +kernel)) rfl
theorem wk_X0_18 : Cond.classLink RX0 18 "[[I" ∈ z_TB := z_TBm (List.mem_of_getElem? (i := 244) (by decide +kernel)) rfl
theorem wl_X0_29 : Cond.methodLink RX0 29 yX0_startAnew ∈ z_TB := z_TBm (List.mem_of_getElem? (i := 245) (by decide +kernel)) rfl
theorem wi_X0_startAnew : Cond.instanceMethod yX0_startAnew ∈ z_TB := z_TBm (List.mem_of_getElem? (i := 247) (by decide +kernel)) rfl
theorem wl_X0_41 : Cond.methodLink RX0 41 yJ7_fill_53178 ∈ z_TB := z_TBm (List.mem_of_getElem? (i := 249) (by decide +kernel)) rfl
theorem wt_J7_fill_53178 : Cond.static yJ7_fill_53178 ∈ z_TB := z_TBm (List.mem_of_getElem? (i := 250) (by decide +kernel)) rfl
theorem wf_X3_18 : Cond.fieldLink RX3 18 (z_T 0 0).1 (z_T 0 0).2.1 (z_T 0 0).2.2.1 ∈ z_TB := z_TBm (List.mem_of_getElem? (i := 252) (by decide +kernel)) rfl
theorem wf_X0_33 : Cond.fieldLink RX0 33 (z_T 0 0).1 (z_T 0 0).2.1 (z_T 0 0).2.2.1 ∈ z_TB := z_TBm (List.mem_of_getElem? (i := 253) (by decide +kernel)) rfl
theorem wf_X4_45 : Cond.fieldLink RX4 45 (z_T 0 0).1 (z_T 0 0).2.1 (z_T 0 0).2.2.1 ∈ z_TB := z_TBm (List.mem_of_getElem? (i := 254) (by decide +kernel)) rfl
theorem wf_X7_67 : Cond.fieldLink RX7 67 (z_T 0 0).1 (z_T 0 0).2.1 (z_T 0 0).2.2.1 ∈ z_TB := z_TBm (List.mem_of_getElem? (i := 255) (by decide +kernel)) rfl
theorem wf_X10_113 : Cond.fieldLink RX10 113 (z_T 0 0).1 (z_T 0 0).2.1 (z_T 0 0).2.2.1 ∈ z_TB := z_TBm (List.mem_of_getElem? (i := 256) (by decide +kernel)) rfl
theorem wf_X4_36 : Cond.fieldLink RX4 36 (z_T 0 1).1 (z_T 0 1).2.1 (z_T 0 1).2.2.1 ∈ z_TB := z_TBm (List.mem_of_getElem? (i := 257) (by decide +kernel)) rfl
theorem wf_X0_37 : Cond.fieldLink RX0 37 (z_T 0 1).1 (z_T 0 1).2.1 (z_T 0 1).2.2.1 ∈ z_TB := z_TBm (List.mem_of_getElem? (i := 258) (by decide +kernel)) rfl
theorem wf_X10_137 : Cond.fieldLink RX10 137 (z_T 0 1).1 (z_T 0 1).2.1 (z_T 0 1).2.2.1 ∈ z_TB := z_TBm (List.mem_of_getElem? (i := 259) (by decide +kernel)) rfl
theorem wf_X0_9 : Cond.fieldLink RX0 9 (z_T 0 2).1 (z_T 0 2).2.1 (z_T 0 2).2.2.1 ∈ z_TB := z_TBm (List.mem_of_getElem? (i := 260) (by decide +kernel)) rfl
theorem wf_X3_30 : Cond.fieldLink RX3 30 (z_T 0 2).1 (z_T 0 2).2.1 (z_T 0 2).2.2.1 ∈ z_TB := z_TBm (List.mem_of_getElem? (i := 261) (by decide +kernel)) rfl
theorem wf_X7_109 : Cond.fieldLink RX7 109 (z_T 0 2).1 (z_T 0 2).2.1 (z_T 0 2).2.2.1 ∈ z_TB := z_TBm (List.mem_of_getElem? (i := 262) (by decide +kernel)) rfl
theorem wf_X10_143 : Cond.fieldLink RX10 143 (z_T 0 2).1 (z_T 0 2).2.1 (z_T 0 2).2.2.1 ∈ z_TB := z_TBm (List.mem_of_getElem? (i := 263) (by decide +kernel)) rfl
theorem wf_X6_177 : Cond.fieldLink RX6 177 (z_T 0 2).1 (z_T 0 2).2.1 (z_T 0 2).2.2.1 ∈ z_TB := z_TBm (List.mem_of_getElem? (i := 264) (by decide +kernel)) rfl
theorem wf_X0_15 : Cond.fieldLink RX0 15 (z_T 0 3).1 (z_T 0 3).2.1 (z_T 0 3).2.2.1 ∈ z_TB := z_TBm (List.mem_of_getElem? (i := 265) (by decide +kernel)) rfl
theorem wf_X10_151 : Cond.fieldLink RX10 151 (z_T 0 3).1 (z_T 0 3).2.1 (z_T 0 3).2.2.1 ∈ z_TB := z_TBm (List.mem_of_getElem? (i := 266) (by decide +kernel)) rfl
theorem wf_X6_167 : Cond.fieldLink RX6 167 (z_T 0 3).1 (z_T 0 3).2.1 (z_T 0 3).2.2.1 ∈ z_TB := z_TBm (List.mem_of_getElem? (i := 267) (by decide +kernel)) rfl
theorem wf_X0_20 : Cond.fieldLink RX0 20 (z_T 0 4).1 (z_T 0 4).2.1 (z_T 0 4).2.2.1 ∈ z_TB := z_TBm (List.mem_of_getElem? (i := 268) (by decide +kernel)) rfl
theorem wf_X4_113 : Cond.fieldLink RX4 113 (z_T 0 4).1 (z_T 0 4).2.1 (z_T 0 4).2.2.1 ∈ z_TB := z_TBm (List.mem_of_getElem? (i := 269) (by decide +kernel)) rfl
theorem wf_X10_188 : Cond.fieldLink RX10 188 (z_T 0 4).1 (z_T 0 4).2.1 (z_T 0 4).2.2.1 ∈ z_TB := z_TBm (List.mem_of_getElem? (i := 270) (by decide +kernel)) rfl
theorem wf_X0_23 : Cond.fieldLink RX0 23 (z_T 0 5).1 (z_T 0 5).2.1 (z_T 0 5).2.2.1 ∈ z_TB := z_TBm (List.mem_of_getElem? (i := 271) (by decide +kernel)) rfl
theorem wf_X4_92 : Cond.fieldLink RX4 92 (z_T 0 5).1 (z_T 0 5).2.1 (z_T 0 5).2.2.1 ∈ z_TB := z_TBm (List.mem_of_getElem? (i := 272) (by decide +kernel)) rfl
theorem wf_X10_174 : Cond.fieldLink RX10 174 (z_T 0 5).1 (z_T 0 5).2.1 (z_T 0 5).2.2.1 ∈ z_TB := z_TBm (List.mem_of_getElem? (i := 273) (by decide +kernel)) rfl
theorem wf_X3_85 : Cond.fieldLink RX3 85 (z_T 0 5).1 (z_T 0 5).2.1 (z_T 0 5).2.2.1 ∈ z_TB := z_TBm (List.mem_of_getElem? (i := 274) (by decide +kernel)) rfl
theorem wf_X6_170 : Cond.fieldLink RX6 170 (z_T 0 5).1 (z_T 0 5).2.1 (z_T 0 5).2.2.1 ∈ z_TB := z_TBm (List.mem_of_getElem? (i := 275) (by decide +kernel)) rfl
theorem wf_X0_26 : Cond.fieldLink RX0 26 (z_T 0 6).1 (z_T 0 6).2.1 (z_T 0 6).2.2.1 ∈ z_TB := z_TBm (List.mem_of_getElem? (i := 276) (by decide +kernel)) rfl
theorem wf_X4_99 : Cond.fieldLink RX4 99 (z_T 0 6).1 (z_T 0 6).2.1 (z_T 0 6).2.2.1 ∈ z_TB := z_TBm (List.mem_of_getElem? (i := 277) (by decide +kernel)) rfl
theorem wf_X10_171 : Cond.fieldLink RX10 171 (z_T 0 6).1 (z_T 0 6).2.1 (z_T 0 6).2.2.1 ∈ z_TB := z_TBm (List.mem_of_getElem? (i := 278) (by decide +kernel)) rfl
theorem wf_X6_173 : Cond.fieldLink RX6 173 (z_T 0 6).1 (z_T 0 6).2.1 (z_T 0 6).2.2.1 ∈ z_TB := z_TBm (List.mem_of_getElem? (i := 279) (by decide +kernel)) rfl
theorem wk_X10_41 : Cond.classLink RX10 41 "WovenKeeper$History" ∈ z_TB := z_TBm (List.mem_of_getElem? (i := 296) (by decide +kernel)) rfl
theorem wb_X2 : Cond.instantiable RX2 3 ∈ z_TB := z_TBm (List.mem_of_getElem? (i := 297) (by decide +kernel)) rfl
theorem wl_X10_43 : Cond.methodLink RX10 43 yX2_init ∈ z_TB := z_TBm (List.mem_of_getElem? (i := 298) (by decide +kernel)) rfl
theorem wi_X2_init : Cond.instanceMethod yX2_init ∈ z_TB := z_TBm (List.mem_of_getElem? (i := 299) (by decide +kernel)) rfl
theorem wl_X2_3 : Cond.methodLink RX2 3 ⟨"java/lang/Object", "<init>", "()V"⟩ ∈ z_TB := z_TBm (List.mem_of_getElem? (i := 301) (by decide +kernel)) rfl
theorem wk_X2_9 : Cond.classLink RX2 9 "WovenKeeper$Fabric" ∈ z_TB := z_TBm (List.mem_of_getElem? (i := 302) (by decide +kernel)) rfl
theorem wl_X2_17 : Cond.methodLink RX2 17 yX0_init ∈ z_TB := z_TBm (List.mem_of_getElem? (i := 303) (by decide +kernel)) rfl
theorem wf_X2_28 : Cond.fieldLink RX2 28 (z_T 2 0).1 (z_T 2 0).2.1 (z_T 2 0).2.2.1 ∈ z_TB := z_TBm (List.mem_of_getElem? (i := 304) (by decide +kernel)) rfl
theorem wf_X10_110 : Cond.fieldLink RX10 110 (z_T 2 0).1 (z_T 2 0).2.1 (z_T 2 0).2.2.1 ∈ z_TB := z_TBm (List.mem_of_getElem? (i := 305) (by decide +kernel)) rfl
theorem wf_X2_20 : Cond.fieldLink RX2 20 (z_T 2 1).1 (z_T 2 1).2.1 (z_T 2 1).2.2.1 ∈ z_TB := z_TBm (List.mem_of_getElem? (i := 306) (by decide +kernel)) rfl
theorem wf_X2_11 : Cond.fieldLink RX2 11 (z_T 2 2).1 (z_T 2 2).2.1 (z_T 2 2).2.2.1 ∈ z_TB := z_TBm (List.mem_of_getElem? (i := 307) (by decide +kernel)) rfl
theorem wa_boolean : Cond.arrayClass .boolean ∈ z_TB := z_TBm (List.mem_of_getElem? (i := 315) (by decide +kernel)) rfl
theorem wk_X10_48 : Cond.classLink RX10 48 "WovenKeeper$Script" ∈ z_TB := z_TBm (List.mem_of_getElem? (i := 316) (by decide +kernel)) rfl
theorem wb_X6 : Cond.instantiable RX6 17 ∈ z_TB := z_TBm (List.mem_of_getElem? (i := 317) (by decide +kernel)) rfl
theorem wi_X6_init : Cond.instanceMethod yX6_init ∈ z_TB := z_TBm (List.mem_of_getElem? (i := 319) (by decide +kernel)) rfl
theorem wl_X6_3 : Cond.methodLink RX6 3 ⟨"java/lang/Object", "<init>", "()V"⟩ ∈ z_TB := z_TBm (List.mem_of_getElem? (i := 321) (by decide +kernel)) rfl
theorem wf_X10_97 : Cond.fieldLink RX10 97 (z_T 6 0).1 (z_T 6 0).2.1 (z_T 6 0).2.2.1 ∈ z_TB := z_TBm (List.mem_of_getElem? (i := 322) (by decide +kernel)) rfl
theorem wf_X6_33 : Cond.fieldLink RX6 33 (z_T 6 0).1 (z_T 6 0).2.1 (z_T 6 0).2.2.1 ∈ z_TB := z_TBm (List.mem_of_getElem? (i := 323) (by decide +kernel)) rfl
theorem wf_X6_56 : Cond.fieldLink RX6 56 (z_T 6 1).1 (z_T 6 1).2.1 (z_T 6 1).2.2.1 ∈ z_TB := z_TBm (List.mem_of_getElem? (i := 324) (by decide +kernel)) rfl
theorem wf_X10_134 : Cond.fieldLink RX10 134 (z_T 6 1).1 (z_T 6 1).2.1 (z_T 6 1).2.2.1 ∈ z_TB := z_TBm (List.mem_of_getElem? (i := 325) (by decide +kernel)) rfl
theorem wf_X6_59 : Cond.fieldLink RX6 59 (z_T 6 2).1 (z_T 6 2).2.1 (z_T 6 2).2.2.1 ∈ z_TB := z_TBm (List.mem_of_getElem? (i := 326) (by decide +kernel)) rfl
theorem wf_X10_123 : Cond.fieldLink RX10 123 (z_T 6 2).1 (z_T 6 2).2.1 (z_T 6 2).2.2.1 ∈ z_TB := z_TBm (List.mem_of_getElem? (i := 327) (by decide +kernel)) rfl
theorem wf_X6_9 : Cond.fieldLink RX6 9 (z_T 6 3).1 (z_T 6 3).2.1 (z_T 6 3).2.2.1 ∈ z_TB := z_TBm (List.mem_of_getElem? (i := 328) (by decide +kernel)) rfl
theorem wf_X6_15 : Cond.fieldLink RX6 15 (z_T 6 4).1 (z_T 6 4).2.1 (z_T 6 4).2.2.1 ∈ z_TB := z_TBm (List.mem_of_getElem? (i := 329) (by decide +kernel)) rfl
theorem wf_X6_18 : Cond.fieldLink RX6 18 (z_T 6 5).1 (z_T 6 5).2.1 (z_T 6 5).2.2.1 ∈ z_TB := z_TBm (List.mem_of_getElem? (i := 330) (by decide +kernel)) rfl
theorem wf_X6_21 : Cond.fieldLink RX6 21 (z_T 6 6).1 (z_T 6 6).2.1 (z_T 6 6).2.2.1 ∈ z_TB := z_TBm (List.mem_of_getElem? (i := 331) (by decide +kernel)) rfl
theorem wf_X6_24 : Cond.fieldLink RX6 24 (z_T 6 7).1 (z_T 6 7).2.1 (z_T 6 7).2.2.1 ∈ z_TB := z_TBm (List.mem_of_getElem? (i := 332) (by decide +kernel)) rfl
theorem wf_X6_27 : Cond.fieldLink RX6 27 (z_T 6 8).1 (z_T 6 8).2.1 (z_T 6 8).2.2.1 ∈ z_TB := z_TBm (List.mem_of_getElem? (i := 333) (by decide +kernel)) rfl
theorem wf_X6_30 : Cond.fieldLink RX6 30 (z_T 6 9).1 (z_T 6 9).2.1 (z_T 6 9).2.2.1 ∈ z_TB := z_TBm (List.mem_of_getElem? (i := 334) (by decide +kernel)) rfl
theorem wf_X6_50 : Cond.fieldLink RX6 50 (z_T 6 10).1 (z_T 6 10).2.1 (z_T 6 10).2.2.1 ∈ z_TB := z_TBm (List.mem_of_getElem? (i := 335) (by decide +kernel)) rfl
theorem wf_X6_47 : Cond.fieldLink RX6 47 (z_T 6 11).1 (z_T 6 11).2.1 (z_T 6 11).2.2.1 ∈ z_TB := z_TBm (List.mem_of_getElem? (i := 336) (by decide +kernel)) rfl
theorem wf_X6_53 : Cond.fieldLink RX6 53 (z_T 6 12).1 (z_T 6 12).2.1 (z_T 6 12).2.2.1 ∈ z_TB := z_TBm (List.mem_of_getElem? (i := 337) (by decide +kernel)) rfl
theorem wf_X6_42 : Cond.fieldLink RX6 42 (z_T 6 13).1 (z_T 6 13).2.1 (z_T 6 13).2.2.1 ∈ z_TB := z_TBm (List.mem_of_getElem? (i := 338) (by decide +kernel)) rfl
theorem wf_X6_46 : Cond.fieldLink RX6 46 (z_T 6 14).1 (z_T 6 14).2.1 (z_T 6 14).2.2.1 ∈ z_TB := z_TBm (List.mem_of_getElem? (i := 339) (by decide +kernel)) rfl
theorem wf_X6_144 : Cond.fieldLink RX6 144 (z_T 6 15).1 (z_T 6 15).2.1 (z_T 6 15).2.2.1 ∈ z_TB := z_TBm (List.mem_of_getElem? (i := 340) (by decide +kernel)) rfl
theorem wf_X6_147 : Cond.fieldLink RX6 147 (z_T 6 16).1 (z_T 6 16).2.1 (z_T 6 16).2.2.1 ∈ z_TB := z_TBm (List.mem_of_getElem? (i := 341) (by decide +kernel)) rfl
theorem wk_X10_55 : Cond.classLink RX10 55 "WovenKeeper$Net" ∈ z_TB := z_TBm (List.mem_of_getElem? (i := 377) (by decide +kernel)) rfl
theorem wb_X4 : Cond.instantiable RX4 15 ∈ z_TB := z_TBm (List.mem_of_getElem? (i := 378) (by decide +kernel)) rfl
theorem wi_X4_init : Cond.instanceMethod yX4_init ∈ z_TB := z_TBm (List.mem_of_getElem? (i := 380) (by decide +kernel)) rfl
theorem wl_X4_3 : Cond.methodLink RX4 3 ⟨"java/lang/Object", "<init>", "()V"⟩ ∈ z_TB := z_TBm (List.mem_of_getElem? (i := 382) (by decide +kernel)) rfl
theorem wf_X4_59 : Cond.fieldLink RX4 59 (z_T 4 0).1 (z_T 4 0).2.1 (z_T 4 0).2.2.1 ∈ z_TB := z_TBm (List.mem_of_getElem? (i := 383) (by decide +kernel)) rfl
theorem wf_X1_82 : Cond.fieldLink RX1 82 (z_T 4 0).1 (z_T 4 0).2.1 (z_T 4 0).2.2.1 ∈ z_TB := z_TBm (List.mem_of_getElem? (i := 384) (by decide +kernel)) rfl
theorem wf_X4_62 : Cond.fieldLink RX4 62 (z_T 4 1).1 (z_T 4 1).2.1 (z_T 4 1).2.2.1 ∈ z_TB := z_TBm (List.mem_of_getElem? (i := 385) (by decide +kernel)) rfl
theorem wf_X5_56 : Cond.fieldLink RX5 56 (z_T 4 1).1 (z_T 4 1).2.1 (z_T 4 1).2.2.1 ∈ z_TB := z_TBm (List.mem_of_getElem? (i := 386) (by decide +kernel)) rfl
theorem wf_X1_67 : Cond.fieldLink RX1 67 (z_T 4 1).1 (z_T 4 1).2.1 (z_T 4 1).2.2.1 ∈ z_TB := z_TBm (List.mem_of_getElem? (i := 387) (by decide +kernel)) rfl
theorem wf_X8_50 : Cond.fieldLink RX8 50 (z_T 4 1).1 (z_T 4 1).2.1 (z_T 4 1).2.2.1 ∈ z_TB := z_TBm (List.mem_of_getElem? (i := 388) (by decide +kernel)) rfl
theorem wf_X10_276 : Cond.fieldLink RX10 276 (z_T 4 1).1 (z_T 4 1).2.1 (z_T 4 1).2.2.1 ∈ z_TB := z_TBm (List.mem_of_getElem? (i := 389) (by decide +kernel)) rfl
theorem wf_X4_65 : Cond.fieldLink RX4 65 (z_T 4 2).1 (z_T 4 2).2.1 (z_T 4 2).2.2.1 ∈ z_TB := z_TBm (List.mem_of_getElem? (i := 390) (by decide +kernel)) rfl
theorem wf_X7_61 : Cond.fieldLink RX7 61 (z_T 4 2).1 (z_T 4 2).2.1 (z_T 4 2).2.2.1 ∈ z_TB := z_TBm (List.mem_of_getElem? (i := 391) (by decide +kernel)) rfl
theorem wf_X8_65 : Cond.fieldLink RX8 65 (z_T 4 2).1 (z_T 4 2).2.1 (z_T 4 2).2.2.1 ∈ z_TB := z_TBm (List.mem_of_getElem? (i := 392) (by decide +kernel)) rfl
theorem wf_X1_85 : Cond.fieldLink RX1 85 (z_T 4 2).1 (z_T 4 2).2.1 (z_T 4 2).2.2.1 ∈ z_TB := z_TBm (List.mem_of_getElem? (i := 393) (by decide +kernel)) rfl
theorem wf_X10_267 : Cond.fieldLink RX10 267 (z_T 4 2).1 (z_T 4 2).2.1 (z_T 4 2).2.2.1 ∈ z_TB := z_TBm (List.mem_of_getElem? (i := 394) (by decide +kernel)) rfl
theorem wf_X5_32 : Cond.fieldLink RX5 32 (z_T 4 3).1 (z_T 4 3).2.1 (z_T 4 3).2.2.1 ∈ z_TB := z_TBm (List.mem_of_getElem? (i := 395) (by decide +kernel)) rfl
theorem wf_X1_72 : Cond.fieldLink RX1 72 (z_T 4 3).1 (z_T 4 3).2.1 (z_T 4 3).2.2.1 ∈ z_TB := z_TBm (List.mem_of_getElem? (i := 396) (by decide +kernel)) rfl
theorem wf_X4_106 : Cond.fieldLink RX4 106 (z_T 4 3).1 (z_T 4 3).2.1 (z_T 4 3).2.2.1 ∈ z_TB := z_TBm (List.mem_of_getElem? (i := 397) (by decide +kernel)) rfl
theorem wf_X10_195 : Cond.fieldLink RX10 195 (z_T 4 3).1 (z_T 4 3).2.1 (z_T 4 3).2.2.1 ∈ z_TB := z_TBm (List.mem_of_getElem? (i := 398) (by decide +kernel)) rfl
theorem wf_X4_9 : Cond.fieldLink RX4 9 (z_T 4 4).1 (z_T 4 4).2.1 (z_T 4 4).2.2.1 ∈ z_TB := z_TBm (List.mem_of_getElem? (i := 399) (by decide +kernel)) rfl
theorem wf_X8_71 : Cond.fieldLink RX8 71 (z_T 4 4).1 (z_T 4 4).2.1 (z_T 4 4).2.2.1 ∈ z_TB := z_TBm (List.mem_of_getElem? (i := 400) (by decide +kernel)) rfl
theorem wf_X1_88 : Cond.fieldLink RX1 88 (z_T 4 4).1 (z_T 4 4).2.1 (z_T 4 4).2.2.1 ∈ z_TB := z_TBm (List.mem_of_getElem? (i := 401) (by decide +kernel)) rfl
theorem wf_X10_270 : Cond.fieldLink RX10 270 (z_T 4 4).1 (z_T 4 4).2.1 (z_T 4 4).2.2.1 ∈ z_TB := z_TBm (List.mem_of_getElem? (i := 402) (by decide +kernel)) rfl
theorem wf_X4_15 : Cond.fieldLink RX4 15 (z_T 4 5).1 (z_T 4 5).2.1 (z_T 4 5).2.2.1 ∈ z_TB := z_TBm (List.mem_of_getElem? (i := 403) (by decide +kernel)) rfl
theorem wf_X8_68 : Cond.fieldLink RX8 68 (z_T 4 5).1 (z_T 4 5).2.1 (z_T 4 5).2.2.1 ∈ z_TB := z_TBm (List.mem_of_getElem? (i := 404) (by decide +kernel)) rfl
theorem wf_X1_91 : Cond.fieldLink RX1 91 (z_T 4 5).1 (z_T 4 5).2.1 (z_T 4 5).2.2.1 ∈ z_TB := z_TBm (List.mem_of_getElem? (i := 405) (by decide +kernel)) rfl
theorem wf_X10_273 : Cond.fieldLink RX10 273 (z_T 4 5).1 (z_T 4 5).2.1 (z_T 4 5).2.2.1 ∈ z_TB := z_TBm (List.mem_of_getElem? (i := 406) (by decide +kernel)) rfl
theorem wf_X4_18 : Cond.fieldLink RX4 18 (z_T 4 6).1 (z_T 4 6).2.1 (z_T 4 6).2.2.1 ∈ z_TB := z_TBm (List.mem_of_getElem? (i := 407) (by decide +kernel)) rfl
theorem wf_X8_74 : Cond.fieldLink RX8 74 (z_T 4 6).1 (z_T 4 6).2.1 (z_T 4 6).2.2.1 ∈ z_TB := z_TBm (List.mem_of_getElem? (i := 408) (by decide +kernel)) rfl
theorem wf_X1_94 : Cond.fieldLink RX1 94 (z_T 4 6).1 (z_T 4 6).2.1 (z_T 4 6).2.2.1 ∈ z_TB := z_TBm (List.mem_of_getElem? (i := 409) (by decide +kernel)) rfl
theorem wf_X10_279 : Cond.fieldLink RX10 279 (z_T 4 6).1 (z_T 4 6).2.1 (z_T 4 6).2.2.1 ∈ z_TB := z_TBm (List.mem_of_getElem? (i := 410) (by decide +kernel)) rfl
theorem wf_X4_21 : Cond.fieldLink RX4 21 (z_T 4 7).1 (z_T 4 7).2.1 (z_T 4 7).2.2.1 ∈ z_TB := z_TBm (List.mem_of_getElem? (i := 411) (by decide +kernel)) rfl
theorem wf_X8_76 : Cond.fieldLink RX8 76 (z_T 4 7).1 (z_T 4 7).2.1 (z_T 4 7).2.2.1 ∈ z_TB := z_TBm (List.mem_of_getElem? (i := 412) (by decide +kernel)) rfl
theorem wf_X4_24 : Cond.fieldLink RX4 24 (z_T 4 8).1 (z_T 4 8).2.1 (z_T 4 8).2.2.1 ∈ z_TB := z_TBm (List.mem_of_getElem? (i := 413) (by decide +kernel)) rfl
theorem wf_X4_27 : Cond.fieldLink RX4 27 (z_T 4 9).1 (z_T 4 9).2.1 (z_T 4 9).2.2.1 ∈ z_TB := z_TBm (List.mem_of_getElem? (i := 414) (by decide +kernel)) rfl
theorem wf_X10_201 : Cond.fieldLink RX10 201 (z_T 4 9).1 (z_T 4 9).2.1 (z_T 4 9).2.2.1 ∈ z_TB := z_TBm (List.mem_of_getElem? (i := 415) (by decide +kernel)) rfl
theorem wf_X4_30 : Cond.fieldLink RX4 30 (z_T 4 10).1 (z_T 4 10).2.1 (z_T 4 10).2.2.1 ∈ z_TB := z_TBm (List.mem_of_getElem? (i := 416) (by decide +kernel)) rfl
theorem wf_X10_204 : Cond.fieldLink RX10 204 (z_T 4 10).1 (z_T 4 10).2.1 (z_T 4 10).2.2.1 ∈ z_TB := z_TBm (List.mem_of_getElem? (i := 417) (by decide +kernel)) rfl
theorem wf_X4_33 : Cond.fieldLink RX4 33 (z_T 4 11).1 (z_T 4 11).2.1 (z_T 4 11).2.2.1 ∈ z_TB := z_TBm (List.mem_of_getElem? (i := 418) (by decide +kernel)) rfl
theorem wf_X5_47 : Cond.fieldLink RX5 47 (z_T 4 11).1 (z_T 4 11).2.1 (z_T 4 11).2.2.1 ∈ z_TB := z_TBm (List.mem_of_getElem? (i := 419) (by decide +kernel)) rfl
theorem wf_X1_75 : Cond.fieldLink RX1 75 (z_T 4 11).1 (z_T 4 11).2.1 (z_T 4 11).2.2.1 ∈ z_TB := z_TBm (List.mem_of_getElem? (i := 420) (by decide +kernel)) rfl
theorem wf_X10_347 : Cond.fieldLink RX10 347 (z_T 4 11).1 (z_T 4 11).2.1 (z_T 4 11).2.2.1 ∈ z_TB := z_TBm (List.mem_of_getElem? (i := 421) (by decide +kernel)) rfl
theorem wf_X4_42 : Cond.fieldLink RX4 42 (z_T 4 12).1 (z_T 4 12).2.1 (z_T 4 12).2.2.1 ∈ z_TB := z_TBm (List.mem_of_getElem? (i := 422) (by decide +kernel)) rfl
theorem wf_X4_54 : Cond.fieldLink RX4 54 (z_T 4 13).1 (z_T 4 13).2.1 (z_T 4 13).2.2.1 ∈ z_TB := z_TBm (List.mem_of_getElem? (i := 423) (by decide +kernel)) rfl
theorem wf_X4_58 : Cond.fieldLink RX4 58 (z_T 4 14).1 (z_T 4 14).2.1 (z_T 4 14).2.2.1 ∈ z_TB := z_TBm (List.mem_of_getElem? (i := 424) (by decide +kernel)) rfl
theorem wk_X10_62 : Cond.classLink RX10 62 "WovenKeeper$Ways" ∈ z_TB := z_TBm (List.mem_of_getElem? (i := 456) (by decide +kernel)) rfl
theorem wb_X8 : Cond.instantiable RX8 8 ∈ z_TB := z_TBm (List.mem_of_getElem? (i := 457) (by decide +kernel)) rfl
theorem wi_X8_init : Cond.instanceMethod yX8_init ∈ z_TB := z_TBm (List.mem_of_getElem? (i := 459) (by decide +kernel)) rfl
theorem wl_X8_5 : Cond.methodLink RX8 5 ⟨"java/lang/Object", "<init>", "()V"⟩ ∈ z_TB := z_TBm (List.mem_of_getElem? (i := 461) (by decide +kernel)) rfl
theorem wf_X8_33 : Cond.fieldLink RX8 33 (z_T 8 0).1 (z_T 8 0).2.1 (z_T 8 0).2.2.1 ∈ z_TB := z_TBm (List.mem_of_getElem? (i := 462) (by decide +kernel)) rfl
theorem wf_X10_211 : Cond.fieldLink RX10 211 (z_T 8 0).1 (z_T 8 0).2.1 (z_T 8 0).2.2.1 ∈ z_TB := z_TBm (List.mem_of_getElem? (i := 463) (by decide +kernel)) rfl
theorem wf_X8_86 : Cond.fieldLink RX8 86 (z_T 8 1).1 (z_T 8 1).2.1 (z_T 8 1).2.2.1 ∈ z_TB := z_TBm (List.mem_of_getElem? (i := 464) (by decide +kernel)) rfl
theorem wf_X5_104 : Cond.fieldLink RX5 104 (z_T 8 1).1 (z_T 8 1).2.1 (z_T 8 1).2.2.1 ∈ z_TB := z_TBm (List.mem_of_getElem? (i := 465) (by decide +kernel)) rfl
theorem wf_X10_214 : Cond.fieldLink RX10 214 (z_T 8 1).1 (z_T 8 1).2.1 (z_T 8 1).2.2.1 ∈ z_TB := z_TBm (List.mem_of_getElem? (i := 466) (by decide +kernel)) rfl
theorem wf_X8_13 : Cond.fieldLink RX8 13 (z_T 8 2).1 (z_T 8 2).2.1 (z_T 8 2).2.2.1 ∈ z_TB := z_TBm (List.mem_of_getElem? (i := 467) (by decide +kernel)) rfl
theorem wf_X5_107 : Cond.fieldLink RX5 107 (z_T 8 2).1 (z_T 8 2).2.1 (z_T 8 2).2.2.1 ∈ z_TB := z_TBm (List.mem_of_getElem? (i := 468) (by decide +kernel)) rfl
theorem wf_X10_215 : Cond.fieldLink RX10 215 (z_T 8 2).1 (z_T 8 2).2.1 (z_T 8 2).2.2.1 ∈ z_TB := z_TBm (List.mem_of_getElem? (i := 469) (by decide +kernel)) rfl
theorem wf_X8_17 : Cond.fieldLink RX8 17 (z_T 8 3).1 (z_T 8 3).2.1 (z_T 8 3).2.2.1 ∈ z_TB := z_TBm (List.mem_of_getElem? (i := 470) (by decide +kernel)) rfl
theorem wf_X8_20 : Cond.fieldLink RX8 20 (z_T 8 4).1 (z_T 8 4).2.1 (z_T 8 4).2.2.1 ∈ z_TB := z_TBm (List.mem_of_getElem? (i := 471) (by decide +kernel)) rfl
theorem wf_X8_23 : Cond.fieldLink RX8 23 (z_T 8 5).1 (z_T 8 5).2.1 (z_T 8 5).2.2.1 ∈ z_TB := z_TBm (List.mem_of_getElem? (i := 472) (by decide +kernel)) rfl
theorem wf_X8_26 : Cond.fieldLink RX8 26 (z_T 8 6).1 (z_T 8 6).2.1 (z_T 8 6).2.2.1 ∈ z_TB := z_TBm (List.mem_of_getElem? (i := 473) (by decide +kernel)) rfl
theorem wf_X8_47 : Cond.fieldLink RX8 47 (z_T 8 7).1 (z_T 8 7).2.1 (z_T 8 7).2.2.1 ∈ z_TB := z_TBm (List.mem_of_getElem? (i := 474) (by decide +kernel)) rfl
theorem wk_X10_69 : Cond.classLink RX10 69 "WovenKeeper$Pairing" ∈ z_TB := z_TBm (List.mem_of_getElem? (i := 492) (by decide +kernel)) rfl
theorem wb_X5 : Cond.instantiable RX5 9 ∈ z_TB := z_TBm (List.mem_of_getElem? (i := 493) (by decide +kernel)) rfl
theorem wi_X5_init : Cond.instanceMethod yX5_init ∈ z_TB := z_TBm (List.mem_of_getElem? (i := 495) (by decide +kernel)) rfl
theorem wl_X5_3 : Cond.methodLink RX5 3 ⟨"java/lang/Object", "<init>", "()V"⟩ ∈ z_TB := z_TBm (List.mem_of_getElem? (i := 497) (by decide +kernel)) rfl
theorem wk_X5_21 : Cond.classLink RX5 21 "[[I" ∈ z_TB := z_TBm (List.mem_of_getElem? (i := 498) (by decide +kernel)) rfl
theorem wf_X7_24 : Cond.fieldLink RX7 24 (z_T 5 0).1 (z_T 5 0).2.1 (z_T 5 0).2.2.1 ∈ z_TB := z_TBm (List.mem_of_getElem? (i := 499) (by decide +kernel)) rfl
theorem wf_X5_44 : Cond.fieldLink RX5 44 (z_T 5 0).1 (z_T 5 0).2.1 (z_T 5 0).2.2.1 ∈ z_TB := z_TBm (List.mem_of_getElem? (i := 500) (by decide +kernel)) rfl
theorem wf_X5_66 : Cond.fieldLink RX5 66 (z_T 5 1).1 (z_T 5 1).2.1 (z_T 5 1).2.2.1 ∈ z_TB := z_TBm (List.mem_of_getElem? (i := 501) (by decide +kernel)) rfl
theorem wf_X10_226 : Cond.fieldLink RX10 226 (z_T 5 1).1 (z_T 5 1).2.1 (z_T 5 1).2.2.1 ∈ z_TB := z_TBm (List.mem_of_getElem? (i := 502) (by decide +kernel)) rfl
theorem wf_X5_69 : Cond.fieldLink RX5 69 (z_T 5 2).1 (z_T 5 2).2.1 (z_T 5 2).2.2.1 ∈ z_TB := z_TBm (List.mem_of_getElem? (i := 503) (by decide +kernel)) rfl
theorem wf_X10_232 : Cond.fieldLink RX10 232 (z_T 5 2).1 (z_T 5 2).2.1 (z_T 5 2).2.2.1 ∈ z_TB := z_TBm (List.mem_of_getElem? (i := 504) (by decide +kernel)) rfl
theorem wf_X5_9 : Cond.fieldLink RX5 9 (z_T 5 3).1 (z_T 5 3).2.1 (z_T 5 3).2.2.1 ∈ z_TB := z_TBm (List.mem_of_getElem? (i := 505) (by decide +kernel)) rfl
theorem wf_X7_33 : Cond.fieldLink RX7 33 (z_T 5 3).1 (z_T 5 3).2.1 (z_T 5 3).2.2.1 ∈ z_TB := z_TBm (List.mem_of_getElem? (i := 506) (by decide +kernel)) rfl
theorem wf_X5_15 : Cond.fieldLink RX5 15 (z_T 5 4).1 (z_T 5 4).2.1 (z_T 5 4).2.2.1 ∈ z_TB := z_TBm (List.mem_of_getElem? (i := 507) (by decide +kernel)) rfl
theorem wf_X10_259 : Cond.fieldLink RX10 259 (z_T 5 4).1 (z_T 5 4).2.1 (z_T 5 4).2.2.1 ∈ z_TB := z_TBm (List.mem_of_getElem? (i := 508) (by decide +kernel)) rfl
theorem wf_X5_18 : Cond.fieldLink RX5 18 (z_T 5 5).1 (z_T 5 5).2.1 (z_T 5 5).2.2.1 ∈ z_TB := z_TBm (List.mem_of_getElem? (i := 509) (by decide +kernel)) rfl
theorem wf_X5_23 : Cond.fieldLink RX5 23 (z_T 5 6).1 (z_T 5 6).2.1 (z_T 5 6).2.2.1 ∈ z_TB := z_TBm (List.mem_of_getElem? (i := 510) (by decide +kernel)) rfl
theorem wf_X5_26 : Cond.fieldLink RX5 26 (z_T 5 7).1 (z_T 5 7).2.1 (z_T 5 7).2.2.1 ∈ z_TB := z_TBm (List.mem_of_getElem? (i := 511) (by decide +kernel)) rfl
theorem wf_X5_29 : Cond.fieldLink RX5 29 (z_T 5 8).1 (z_T 5 8).2.1 (z_T 5 8).2.2.1 ∈ z_TB := z_TBm (List.mem_of_getElem? (i := 512) (by decide +kernel)) rfl
theorem wk_X10_76 : Cond.classLink RX10 76 "WovenKeeper$Growth" ∈ z_TB := z_TBm (List.mem_of_getElem? (i := 532) (by decide +kernel)) rfl
theorem wb_X1 : Cond.instantiable RX1 13 ∈ z_TB := z_TBm (List.mem_of_getElem? (i := 533) (by decide +kernel)) rfl
theorem wi_X1_init : Cond.instanceMethod yX1_init ∈ z_TB := z_TBm (List.mem_of_getElem? (i := 535) (by decide +kernel)) rfl
theorem wl_X1_3 : Cond.methodLink RX1 3 ⟨"java/lang/Object", "<init>", "()V"⟩ ∈ z_TB := z_TBm (List.mem_of_getElem? (i := 537) (by decide +kernel)) rfl
theorem wf_X1_53 : Cond.fieldLink RX1 53 (z_T 1 0).1 (z_T 1 0).2.1 (z_T 1 0).2.2.1 ∈ z_TB := z_TBm (List.mem_of_getElem? (i := 538) (by decide +kernel)) rfl
theorem wf_X7_46 : Cond.fieldLink RX7 46 (z_T 1 0).1 (z_T 1 0).2.1 (z_T 1 0).2.2.1 ∈ z_TB := z_TBm (List.mem_of_getElem? (i := 539) (by decide +kernel)) rfl
theorem wf_X1_42 : Cond.fieldLink RX1 42 (z_T 1 1).1 (z_T 1 1).2.1 (z_T 1 1).2.2.1 ∈ z_TB := z_TBm (List.mem_of_getElem? (i := 540) (by decide +kernel)) rfl
theorem wf_X7_51 : Cond.fieldLink RX7 51 (z_T 1 1).1 (z_T 1 1).2.1 (z_T 1 1).2.2.1 ∈ z_TB := z_TBm (List.mem_of_getElem? (i := 541) (by decide +kernel)) rfl
theorem wf_X7_54 : Cond.fieldLink RX7 54 (z_T 1 2).1 (z_T 1 2).2.1 (z_T 1 2).2.2.1 ∈ z_TB := z_TBm (List.mem_of_getElem? (i := 542) (by decide +kernel)) rfl
theorem wf_X1_101 : Cond.fieldLink RX1 101 (z_T 1 2).1 (z_T 1 2).2.1 (z_T 1 2).2.2.1 ∈ z_TB := z_TBm (List.mem_of_getElem? (i := 543) (by decide +kernel)) rfl
theorem wf_X7_57 : Cond.fieldLink RX7 57 (z_T 1 3).1 (z_T 1 3).2.1 (z_T 1 3).2.2.1 ∈ z_TB := z_TBm (List.mem_of_getElem? (i := 544) (by decide +kernel)) rfl
theorem wf_X1_108 : Cond.fieldLink RX1 108 (z_T 1 3).1 (z_T 1 3).2.1 (z_T 1 3).2.2.1 ∈ z_TB := z_TBm (List.mem_of_getElem? (i := 545) (by decide +kernel)) rfl
theorem wf_X1_111 : Cond.fieldLink RX1 111 (z_T 1 4).1 (z_T 1 4).2.1 (z_T 1 4).2.2.1 ∈ z_TB := z_TBm (List.mem_of_getElem? (i := 546) (by decide +kernel)) rfl
theorem wf_X10_242 : Cond.fieldLink RX10 242 (z_T 1 4).1 (z_T 1 4).2.1 (z_T 1 4).2.2.1 ∈ z_TB := z_TBm (List.mem_of_getElem? (i := 547) (by decide +kernel)) rfl
theorem wf_X1_9 : Cond.fieldLink RX1 9 (z_T 1 5).1 (z_T 1 5).2.1 (z_T 1 5).2.2.1 ∈ z_TB := z_TBm (List.mem_of_getElem? (i := 548) (by decide +kernel)) rfl
theorem wf_X7_66 : Cond.fieldLink RX7 66 (z_T 1 5).1 (z_T 1 5).2.1 (z_T 1 5).2.2.1 ∈ z_TB := z_TBm (List.mem_of_getElem? (i := 549) (by decide +kernel)) rfl
theorem wf_X10_266 : Cond.fieldLink RX10 266 (z_T 1 5).1 (z_T 1 5).2.1 (z_T 1 5).2.2.1 ∈ z_TB := z_TBm (List.mem_of_getElem? (i := 550) (by decide +kernel)) rfl
theorem wf_X1_15 : Cond.fieldLink RX1 15 (z_T 1 6).1 (z_T 1 6).2.1 (z_T 1 6).2.2.1 ∈ z_TB := z_TBm (List.mem_of_getElem? (i := 551) (by decide +kernel)) rfl
theorem wf_X1_18 : Cond.fieldLink RX1 18 (z_T 1 7).1 (z_T 1 7).2.1 (z_T 1 7).2.2.1 ∈ z_TB := z_TBm (List.mem_of_getElem? (i := 552) (by decide +kernel)) rfl
theorem wf_X1_21 : Cond.fieldLink RX1 21 (z_T 1 8).1 (z_T 1 8).2.1 (z_T 1 8).2.2.1 ∈ z_TB := z_TBm (List.mem_of_getElem? (i := 553) (by decide +kernel)) rfl
theorem wf_X1_24 : Cond.fieldLink RX1 24 (z_T 1 9).1 (z_T 1 9).2.1 (z_T 1 9).2.2.1 ∈ z_TB := z_TBm (List.mem_of_getElem? (i := 554) (by decide +kernel)) rfl
theorem wf_X1_27 : Cond.fieldLink RX1 27 (z_T 1 10).1 (z_T 1 10).2.1 (z_T 1 10).2.2.1 ∈ z_TB := z_TBm (List.mem_of_getElem? (i := 555) (by decide +kernel)) rfl
theorem wf_X1_30 : Cond.fieldLink RX1 30 (z_T 1 11).1 (z_T 1 11).2.1 (z_T 1 11).2.2.1 ∈ z_TB := z_TBm (List.mem_of_getElem? (i := 556) (by decide +kernel)) rfl
theorem wf_X1_33 : Cond.fieldLink RX1 33 (z_T 1 12).1 (z_T 1 12).2.1 (z_T 1 12).2.2.1 ∈ z_TB := z_TBm (List.mem_of_getElem? (i := 557) (by decide +kernel)) rfl
theorem wk_X10_83 : Cond.classLink RX10 83 "WovenKeeper$Likes" ∈ z_TB := z_TBm (List.mem_of_getElem? (i := 585) (by decide +kernel)) rfl
theorem wb_X3 : Cond.instantiable RX3 4 ∈ z_TB := z_TBm (List.mem_of_getElem? (i := 586) (by decide +kernel)) rfl
theorem wi_X3_init : Cond.instanceMethod yX3_init ∈ z_TB := z_TBm (List.mem_of_getElem? (i := 588) (by decide +kernel)) rfl
theorem wl_X3_3 : Cond.methodLink RX3 3 ⟨"java/lang/Object", "<init>", "()V"⟩ ∈ z_TB := z_TBm (List.mem_of_getElem? (i := 590) (by decide +kernel)) rfl
theorem wf_X3_9 : Cond.fieldLink RX3 9 (z_T 3 0).1 (z_T 3 0).2.1 (z_T 3 0).2.2.1 ∈ z_TB := z_TBm (List.mem_of_getElem? (i := 591) (by decide +kernel)) rfl
theorem wf_X10_304 : Cond.fieldLink RX10 304 (z_T 3 0).1 (z_T 3 0).2.1 (z_T 3 0).2.2.1 ∈ z_TB := z_TBm (List.mem_of_getElem? (i := 592) (by decide +kernel)) rfl
theorem wf_X3_15 : Cond.fieldLink RX3 15 (z_T 3 1).1 (z_T 3 1).2.1 (z_T 3 1).2.2.1 ∈ z_TB := z_TBm (List.mem_of_getElem? (i := 593) (by decide +kernel)) rfl
theorem wf_X3_79 : Cond.fieldLink RX3 79 (z_T 3 2).1 (z_T 3 2).2.1 (z_T 3 2).2.2.1 ∈ z_TB := z_TBm (List.mem_of_getElem? (i := 594) (by decide +kernel)) rfl
theorem wf_X3_82 : Cond.fieldLink RX3 82 (z_T 3 3).1 (z_T 3 3).2.1 (z_T 3 3).2.2.1 ∈ z_TB := z_TBm (List.mem_of_getElem? (i := 595) (by decide +kernel)) rfl
theorem wk_X10_90 : Cond.classLink RX10 90 "WovenKeeper$Told" ∈ z_TB := z_TBm (List.mem_of_getElem? (i := 605) (by decide +kernel)) rfl
theorem wb_X7 : Cond.instantiable RX7 8 ∈ z_TB := z_TBm (List.mem_of_getElem? (i := 606) (by decide +kernel)) rfl
theorem wi_X7_init : Cond.instanceMethod yX7_init ∈ z_TB := z_TBm (List.mem_of_getElem? (i := 608) (by decide +kernel)) rfl
theorem wl_X7_3 : Cond.methodLink RX7 3 ⟨"java/lang/Object", "<init>", "()V"⟩ ∈ z_TB := z_TBm (List.mem_of_getElem? (i := 610) (by decide +kernel)) rfl
theorem wf_X7_30 : Cond.fieldLink RX7 30 (z_T 7 0).1 (z_T 7 0).2.1 (z_T 7 0).2.2.1 ∈ z_TB := z_TBm (List.mem_of_getElem? (i := 611) (by decide +kernel)) rfl
theorem wf_X10_227 : Cond.fieldLink RX10 227 (z_T 7 0).1 (z_T 7 0).2.1 (z_T 7 0).2.2.1 ∈ z_TB := z_TBm (List.mem_of_getElem? (i := 612) (by decide +kernel)) rfl
theorem wf_X7_9 : Cond.fieldLink RX7 9 (z_T 7 1).1 (z_T 7 1).2.1 (z_T 7 1).2.2.1 ∈ z_TB := z_TBm (List.mem_of_getElem? (i := 613) (by decide +kernel)) rfl
theorem wf_X10_229 : Cond.fieldLink RX10 229 (z_T 7 1).1 (z_T 7 1).2.1 (z_T 7 1).2.2.1 ∈ z_TB := z_TBm (List.mem_of_getElem? (i := 614) (by decide +kernel)) rfl
theorem wf_X7_42 : Cond.fieldLink RX7 42 (z_T 7 2).1 (z_T 7 2).2.1 (z_T 7 2).2.2.1 ∈ z_TB := z_TBm (List.mem_of_getElem? (i := 615) (by decide +kernel)) rfl
theorem wf_X10_243 : Cond.fieldLink RX10 243 (z_T 7 2).1 (z_T 7 2).2.1 (z_T 7 2).2.2.1 ∈ z_TB := z_TBm (List.mem_of_getElem? (i := 616) (by decide +kernel)) rfl
theorem wf_X7_15 : Cond.fieldLink RX7 15 (z_T 7 3).1 (z_T 7 3).2.1 (z_T 7 3).2.2.1 ∈ z_TB := z_TBm (List.mem_of_getElem? (i := 617) (by decide +kernel)) rfl
theorem wf_X10_247 : Cond.fieldLink RX10 247 (z_T 7 3).1 (z_T 7 3).2.1 (z_T 7 3).2.2.1 ∈ z_TB := z_TBm (List.mem_of_getElem? (i := 618) (by decide +kernel)) rfl
theorem wf_X7_60 : Cond.fieldLink RX7 60 (z_T 7 4).1 (z_T 7 4).2.1 (z_T 7 4).2.2.1 ∈ z_TB := z_TBm (List.mem_of_getElem? (i := 619) (by decide +kernel)) rfl
theorem wf_X10_249 : Cond.fieldLink RX10 249 (z_T 7 4).1 (z_T 7 4).2.1 (z_T 7 4).2.2.1 ∈ z_TB := z_TBm (List.mem_of_getElem? (i := 620) (by decide +kernel)) rfl
theorem wf_X7_18 : Cond.fieldLink RX7 18 (z_T 7 5).1 (z_T 7 5).2.1 (z_T 7 5).2.2.1 ∈ z_TB := z_TBm (List.mem_of_getElem? (i := 621) (by decide +kernel)) rfl
theorem wf_X10_252 : Cond.fieldLink RX10 252 (z_T 7 5).1 (z_T 7 5).2.1 (z_T 7 5).2.2.1 ∈ z_TB := z_TBm (List.mem_of_getElem? (i := 622) (by decide +kernel)) rfl
theorem wf_X7_78 : Cond.fieldLink RX7 78 (z_T 7 6).1 (z_T 7 6).2.1 (z_T 7 6).2.2.1 ∈ z_TB := z_TBm (List.mem_of_getElem? (i := 623) (by decide +kernel)) rfl
theorem wf_X10_325 : Cond.fieldLink RX10 325 (z_T 7 6).1 (z_T 7 6).2.1 (z_T 7 6).2.2.1 ∈ z_TB := z_TBm (List.mem_of_getElem? (i := 624) (by decide +kernel)) rfl
theorem wf_X7_21 : Cond.fieldLink RX7 21 (z_T 7 7).1 (z_T 7 7).2.1 (z_T 7 7).2.2.1 ∈ z_TB := z_TBm (List.mem_of_getElem? (i := 625) (by decide +kernel)) rfl
theorem wf_X10_328 : Cond.fieldLink RX10 328 (z_T 7 7).1 (z_T 7 7).2.1 (z_T 7 7).2.2.1 ∈ z_TB := z_TBm (List.mem_of_getElem? (i := 626) (by decide +kernel)) rfl
theorem wf_X10_14 : Cond.fieldLink RX10 14 (z_T 10 0).1 (z_T 10 0).2.1 (z_T 10 0).2.2.1 ∈ z_TB := z_TBm (List.mem_of_getElem? (i := 644) (by decide +kernel)) rfl
theorem wf_X10_18 : Cond.fieldLink RX10 18 (z_T 10 1).1 (z_T 10 1).2.1 (z_T 10 1).2.2.1 ∈ z_TB := z_TBm (List.mem_of_getElem? (i := 645) (by decide +kernel)) rfl
theorem wf_X10_26 : Cond.fieldLink RX10 26 (z_T 10 2).1 (z_T 10 2).2.1 (z_T 10 2).2.2.1 ∈ z_TB := z_TBm (List.mem_of_getElem? (i := 646) (by decide +kernel)) rfl
theorem wf_X10_30 : Cond.fieldLink RX10 30 (z_T 10 3).1 (z_T 10 3).2.1 (z_T 10 3).2.2.1 ∈ z_TB := z_TBm (List.mem_of_getElem? (i := 647) (by decide +kernel)) rfl
theorem wf_X10_33 : Cond.fieldLink RX10 33 (z_T 10 4).1 (z_T 10 4).2.1 (z_T 10 4).2.2.1 ∈ z_TB := z_TBm (List.mem_of_getElem? (i := 648) (by decide +kernel)) rfl
theorem wf_X10_37 : Cond.fieldLink RX10 37 (z_T 10 5).1 (z_T 10 5).2.1 (z_T 10 5).2.2.1 ∈ z_TB := z_TBm (List.mem_of_getElem? (i := 649) (by decide +kernel)) rfl
theorem wf_X10_44 : Cond.fieldLink RX10 44 (z_T 10 6).1 (z_T 10 6).2.1 (z_T 10 6).2.2.1 ∈ z_TB := z_TBm (List.mem_of_getElem? (i := 650) (by decide +kernel)) rfl
theorem wf_X10_51 : Cond.fieldLink RX10 51 (z_T 10 7).1 (z_T 10 7).2.1 (z_T 10 7).2.2.1 ∈ z_TB := z_TBm (List.mem_of_getElem? (i := 651) (by decide +kernel)) rfl
theorem wf_X10_58 : Cond.fieldLink RX10 58 (z_T 10 8).1 (z_T 10 8).2.1 (z_T 10 8).2.2.1 ∈ z_TB := z_TBm (List.mem_of_getElem? (i := 652) (by decide +kernel)) rfl
theorem wf_X10_65 : Cond.fieldLink RX10 65 (z_T 10 9).1 (z_T 10 9).2.1 (z_T 10 9).2.2.1 ∈ z_TB := z_TBm (List.mem_of_getElem? (i := 653) (by decide +kernel)) rfl
theorem wf_X10_72 : Cond.fieldLink RX10 72 (z_T 10 10).1 (z_T 10 10).2.1 (z_T 10 10).2.2.1 ∈ z_TB := z_TBm (List.mem_of_getElem? (i := 654) (by decide +kernel)) rfl
theorem wf_X10_79 : Cond.fieldLink RX10 79 (z_T 10 11).1 (z_T 10 11).2.1 (z_T 10 11).2.2.1 ∈ z_TB := z_TBm (List.mem_of_getElem? (i := 655) (by decide +kernel)) rfl
theorem wf_X10_86 : Cond.fieldLink RX10 86 (z_T 10 12).1 (z_T 10 12).2.1 (z_T 10 12).2.2.1 ∈ z_TB := z_TBm (List.mem_of_getElem? (i := 656) (by decide +kernel)) rfl
theorem wf_X10_93 : Cond.fieldLink RX10 93 (z_T 10 13).1 (z_T 10 13).2.1 (z_T 10 13).2.2.1 ∈ z_TB := z_TBm (List.mem_of_getElem? (i := 657) (by decide +kernel)) rfl
theorem wl_L_26 : Cond.methodLink RL 26 yX10_feed ∈ z_TB := z_TBm (List.mem_of_getElem? (i := 687) (by decide +kernel)) rfl
theorem wi_X10_feed : Cond.instanceMethod yX10_feed ∈ z_TB := z_TBm (List.mem_of_getElem? (i := 688) (by decide +kernel)) rfl
theorem ws_X10_feed : Cond.selects RX10 yX10_feed yX10_feed ∈ z_TB := z_TBm (List.mem_of_getElem? (i := 689) (by decide +kernel)) rfl
theorem wl_X10_101 : Cond.methodLink RX10 101 yX6_put ∈ z_TB := z_TBm (List.mem_of_getElem? (i := 691) (by decide +kernel)) rfl
theorem wi_X6_put : Cond.instanceMethod yX6_put ∈ z_TB := z_TBm (List.mem_of_getElem? (i := 692) (by decide +kernel)) rfl
theorem ws_X6_put : Cond.selects RX6 yX6_put yX6_put ∈ z_TB := z_TBm (List.mem_of_getElem? (i := 693) (by decide +kernel)) rfl
theorem wl_L_31 : Cond.methodLink RL 31 yX10_end ∈ z_TB := z_TBm (List.mem_of_getElem? (i := 695) (by decide +kernel)) rfl
theorem wi_X10_end : Cond.instanceMethod yX10_end ∈ z_TB := z_TBm (List.mem_of_getElem? (i := 696) (by decide +kernel)) rfl
theorem ws_X10_end : Cond.selects RX10 yX10_end yX10_end ∈ z_TB := z_TBm (List.mem_of_getElem? (i := 697) (by decide +kernel)) rfl
theorem wl_L_36 : Cond.methodLink RL 36 yX10_code ∈ z_TB := z_TBm (List.mem_of_getElem? (i := 699) (by decide +kernel)) rfl
theorem wi_X10_code : Cond.instanceMethod yX10_code ∈ z_TB := z_TBm (List.mem_of_getElem? (i := 700) (by decide +kernel)) rfl
theorem ws_X10_code : Cond.selects RX10 yX10_code yX10_code ∈ z_TB := z_TBm (List.mem_of_getElem? (i := 701) (by decide +kernel)) rfl
theorem wl_L_41 : Cond.methodLink RL 41 yX10_work ∈ z_TB := z_TBm (List.mem_of_getElem? (i := 704) (by decide +kernel)) rfl
theorem wi_X10_work : Cond.instanceMethod yX10_work ∈ z_TB := z_TBm (List.mem_of_getElem? (i := 705) (by decide +kernel)) rfl
theorem ws_X10_work : Cond.selects RX10 yX10_work yX10_work ∈ z_TB := z_TBm (List.mem_of_getElem? (i := 706) (by decide +kernel)) rfl
theorem wl_X10_119 : Cond.methodLink RX10 119 yX6_isRight ∈ z_TB := z_TBm (List.mem_of_getElem? (i := 708) (by decide +kernel)) rfl
theorem wi_X6_isRight : Cond.instanceMethod yX6_isRight ∈ z_TB := z_TBm (List.mem_of_getElem? (i := 709) (by decide +kernel)) rfl
theorem ws_X6_isRight : Cond.selects RX6 yX6_isRight yX6_isRight ∈ z_TB := z_TBm (List.mem_of_getElem? (i := 710) (by decide +kernel)) rfl
theorem wl_X6_62 : Cond.methodLink RX6 62 yX6_hasFault ∈ z_TB := z_TBm (List.mem_of_getElem? (i := 712) (by decide +kernel)) rfl
theorem wi_X6_hasFault : Cond.instanceMethod yX6_hasFault ∈ z_TB := z_TBm (List.mem_of_getElem? (i := 714) (by decide +kernel)) rfl
theorem wl_X6_66 : Cond.methodLink RX6 66 yX6_signAhead ∈ z_TB := z_TBm (List.mem_of_getElem? (i := 716) (by decide +kernel)) rfl
theorem wi_X6_signAhead : Cond.instanceMethod yX6_signAhead ∈ z_TB := z_TBm (List.mem_of_getElem? (i := 718) (by decide +kernel)) rfl
theorem wl_X6_70 : Cond.methodLink RX6 70 yX6_closeAgain ∈ z_TB := z_TBm (List.mem_of_getElem? (i := 720) (by decide +kernel)) rfl
theorem wi_X6_closeAgain : Cond.instanceMethod yX6_closeAgain ∈ z_TB := z_TBm (List.mem_of_getElem? (i := 722) (by decide +kernel)) rfl
theorem wl_X6_77 : Cond.methodLink RX6 77 yX6_readSign ∈ z_TB := z_TBm (List.mem_of_getElem? (i := 724) (by decide +kernel)) rfl
theorem wi_X6_readSign : Cond.instanceMethod yX6_readSign ∈ z_TB := z_TBm (List.mem_of_getElem? (i := 726) (by decide +kernel)) rfl
theorem wl_X6_74 : Cond.methodLink RX6 74 yX6_readStep ∈ z_TB := z_TBm (List.mem_of_getElem? (i := 728) (by decide +kernel)) rfl
theorem wi_X6_readStep : Cond.instanceMethod yX6_readStep ∈ z_TB := z_TBm (List.mem_of_getElem? (i := 730) (by decide +kernel)) rfl
theorem wl_X6_81 : Cond.methodLink RX6 81 yX6_readWord ∈ z_TB := z_TBm (List.mem_of_getElem? (i := 732) (by decide +kernel)) rfl
theorem wi_X6_readWord : Cond.instanceMethod yX6_readWord ∈ z_TB := z_TBm (List.mem_of_getElem? (i := 734) (by decide +kernel)) rfl
theorem wl_X6_126 : Cond.methodLink RX6 126 yX6_spells ∈ z_TB := z_TBm (List.mem_of_getElem? (i := 737) (by decide +kernel)) rfl
theorem wi_X6_spells : Cond.instanceMethod yX6_spells ∈ z_TB := z_TBm (List.mem_of_getElem? (i := 739) (by decide +kernel)) rfl
theorem wl_X6_88 : Cond.methodLink RX6 88 yJ0_length_8abf5 ∈ z_TB := z_TBm (List.mem_of_getElem? (i := 741) (by decide +kernel)) rfl
theorem wi_J0_length_8abf5 : Cond.instanceMethod yJ0_length_8abf5 ∈ z_TB := z_TBm (List.mem_of_getElem? (i := 742) (by decide +kernel)) rfl
theorem ws_J0_length_8abf5 : Cond.selects RJ0 yJ0_length_8abf5 yJ0_length_8abf5 ∈ z_TB := z_TBm (List.mem_of_getElem? (i := 743) (by decide +kernel)) rfl
theorem wl_J0_335 : Cond.methodLink RJ0 335 yJ0_coder_7d493 ∈ z_TB := z_TBm (List.mem_of_getElem? (i := 745) (by decide +kernel)) rfl
theorem wi_J0_coder_7d493 : Cond.instanceMethod yJ0_coder_7d493 ∈ z_TB := z_TBm (List.mem_of_getElem? (i := 746) (by decide +kernel)) rfl
theorem ws_J0_coder_7d493 : Cond.selects RJ0 yJ0_coder_7d493 yJ0_coder_7d493 ∈ z_TB := z_TBm (List.mem_of_getElem? (i := 747) (by decide +kernel)) rfl
theorem wf_J0_38 : Cond.fieldLink RJ0 38 "java/lang/String" "COMPACT_STRINGS" "Z" ∈ z_TB := z_TBm (List.mem_of_getElem? (i := 749) (by decide +kernel)) rfl
theorem wl_X6_92 : Cond.methodLink RX6 92 yJ0_charAt_5068e ∈ z_TB := z_TBm (List.mem_of_getElem? (i := 751) (by decide +kernel)) rfl
theorem wi_J0_charAt_5068e : Cond.instanceMethod yJ0_charAt_5068e ∈ z_TB := z_TBm (List.mem_of_getElem? (i := 752) (by decide +kernel)) rfl
theorem ws_J0_charAt_5068e : Cond.selects RJ0 yJ0_charAt_5068e yJ0_charAt_5068e ∈ z_TB := z_TBm (List.mem_of_getElem? (i := 753) (by decide +kernel)) rfl
theorem wl_J0_492 : Cond.methodLink RJ0 492 yJ0_isLatin1_aae02 ∈ z_TB := z_TBm (List.mem_of_getElem? (i := 755) (by decide +kernel)) rfl
theorem wi_J0_isLatin1_aae02 : Cond.instanceMethod yJ0_isLatin1_aae02 ∈ z_TB := z_TBm (List.mem_of_getElem? (i := 756) (by decide +kernel)) rfl
theorem ws_J0_isLatin1_aae02 : Cond.selects RJ0 yJ0_isLatin1_aae02 yJ0_isLatin1_aae02 ∈ z_TB := z_TBm (List.mem_of_getElem? (i := 757) (by decide +kernel)) rfl
theorem wl_J0_495 : Cond.methodLink RJ0 495 yJ1_charAt_3b067 ∈ z_TB := z_TBm (List.mem_of_getElem? (i := 759) (by decide +kernel)) rfl
theorem wt_J1_charAt_3b067 : Cond.static yJ1_charAt_3b067 ∈ z_TB := z_TBm (List.mem_of_getElem? (i := 760) (by decide +kernel)) rfl
theorem wl_J1_9 : Cond.methodLink RJ1 9 yJ0_checkIndex_df160 ∈ z_TB := z_TBm (List.mem_of_getElem? (i := 762) (by decide +kernel)) rfl
theorem wt_J0_checkIndex_df160 : Cond.static yJ0_checkIndex_df160 ∈ z_TB := z_TBm (List.mem_of_getElem? (i := 763) (by decide +kernel)) rfl
theorem wf_J0_1053 : Cond.fieldLink RJ0 1053 "jdk/internal/util/Preconditions" "SIOOBE_FORMATTER" "Ljava/util/function/BiFunction;" ∈ z_TB := z_TBm (List.mem_of_getElem? (i := 765) (by decide +kernel)) rfl
theorem wl_J0_1059 : Cond.methodLink RJ0 1059 yJ3_checkIndex_8e157 ∈ z_TB := z_TBm (List.mem_of_getElem? (i := 767) (by decide +kernel)) rfl
theorem wt_J3_checkIndex_8e157 : Cond.static yJ3_checkIndex_8e157 ∈ z_TB := z_TBm (List.mem_of_getElem? (i := 768) (by decide +kernel)) rfl
theorem wl_J0_498 : Cond.methodLink RJ0 498 yJ2_charAt_3b067 ∈ z_TB := z_TBm (List.mem_of_getElem? (i := 770) (by decide +kernel)) rfl
theorem wt_J2_charAt_3b067 : Cond.static yJ2_charAt_3b067 ∈ z_TB := z_TBm (List.mem_of_getElem? (i := 771) (by decide +kernel)) rfl
theorem wl_J2_67 : Cond.methodLink RJ2 67 yJ2_checkIndex_2214a ∈ z_TB := z_TBm (List.mem_of_getElem? (i := 773) (by decide +kernel)) rfl
theorem wt_J2_checkIndex_2214a : Cond.static yJ2_checkIndex_2214a ∈ z_TB := z_TBm (List.mem_of_getElem? (i := 774) (by decide +kernel)) rfl
theorem wl_J2_48 : Cond.methodLink RJ2 48 yJ2_length_9d52b ∈ z_TB := z_TBm (List.mem_of_getElem? (i := 776) (by decide +kernel)) rfl
theorem wt_J2_length_9d52b : Cond.static yJ2_length_9d52b ∈ z_TB := z_TBm (List.mem_of_getElem? (i := 777) (by decide +kernel)) rfl
theorem wl_J2_414 : Cond.methodLink RJ2 414 yJ0_checkIndex_df160 ∈ z_TB := z_TBm (List.mem_of_getElem? (i := 779) (by decide +kernel)) rfl
theorem wl_J2_71 : Cond.methodLink RJ2 71 yJ2_getChar_3b067 ∈ z_TB := z_TBm (List.mem_of_getElem? (i := 780) (by decide +kernel)) rfl
theorem wt_J2_getChar_3b067 : Cond.static yJ2_getChar_3b067 ∈ z_TB := z_TBm (List.mem_of_getElem? (i := 781) (by decide +kernel)) rfl
theorem wf_J2_44 : Cond.fieldLink RJ2 44 "java/lang/StringUTF16" "$assertionsDisabled" "Z" ∈ z_TB := z_TBm (List.mem_of_getElem? (i := 783) (by decide +kernel)) rfl
theorem wf_J2_59 : Cond.fieldLink RJ2 59 "java/lang/StringUTF16" "HI_BYTE_SHIFT" "I" ∈ z_TB := z_TBm (List.mem_of_getElem? (i := 785) (by decide +kernel)) rfl
theorem wf_J2_63 : Cond.fieldLink RJ2 63 "java/lang/StringUTF16" "LO_BYTE_SHIFT" "I" ∈ z_TB := z_TBm (List.mem_of_getElem? (i := 787) (by decide +kernel)) rfl
theorem wl_X6_84 : Cond.methodLink RX6 84 yX6_shapeOf ∈ z_TB := z_TBm (List.mem_of_getElem? (i := 796) (by decide +kernel)) rfl
theorem wt_X6_shapeOf : Cond.static yX6_shapeOf ∈ z_TB := z_TBm (List.mem_of_getElem? (i := 797) (by decide +kernel)) rfl
theorem wl_X6_96 : Cond.methodLink RX6 96 yX6_readPart ∈ z_TB := z_TBm (List.mem_of_getElem? (i := 805) (by decide +kernel)) rfl
theorem wi_X6_readPart : Cond.instanceMethod yX6_readPart ∈ z_TB := z_TBm (List.mem_of_getElem? (i := 807) (by decide +kernel)) rfl
theorem wl_X6_111 : Cond.methodLink RX6 111 yX6_readNumber ∈ z_TB := z_TBm (List.mem_of_getElem? (i := 809) (by decide +kernel)) rfl
theorem wi_X6_readNumber : Cond.instanceMethod yX6_readNumber ∈ z_TB := z_TBm (List.mem_of_getElem? (i := 811) (by decide +kernel)) rfl
theorem wl_X6_118 : Cond.methodLink RX6 118 yJ9_min_7cf53 ∈ z_TB := z_TBm (List.mem_of_getElem? (i := 813) (by decide +kernel)) rfl
theorem wt_J9_min_7cf53 : Cond.static yJ9_min_7cf53 ∈ z_TB := z_TBm (List.mem_of_getElem? (i := 814) (by decide +kernel)) rfl
theorem wl_X6_115 : Cond.methodLink RX6 115 yX6_readKind ∈ z_TB := z_TBm (List.mem_of_getElem? (i := 816) (by decide +kernel)) rfl
theorem wi_X6_readKind : Cond.instanceMethod yX6_readKind ∈ z_TB := z_TBm (List.mem_of_getElem? (i := 818) (by decide +kernel)) rfl
theorem wl_X10_126 : Cond.methodLink RX10 126 yX2_keep ∈ z_TB := z_TBm (List.mem_of_getElem? (i := 820) (by decide +kernel)) rfl
theorem wi_X2_keep : Cond.instanceMethod yX2_keep ∈ z_TB := z_TBm (List.mem_of_getElem? (i := 821) (by decide +kernel)) rfl
theorem ws_X2_keep : Cond.selects RX2 yX2_keep yX2_keep ∈ z_TB := z_TBm (List.mem_of_getElem? (i := 822) (by decide +kernel)) rfl
theorem wl_X2_24 : Cond.methodLink RX2 24 yX0_copyFrom ∈ z_TB := z_TBm (List.mem_of_getElem? (i := 824) (by decide +kernel)) rfl
theorem wi_X0_copyFrom : Cond.instanceMethod yX0_copyFrom ∈ z_TB := z_TBm (List.mem_of_getElem? (i := 825) (by decide +kernel)) rfl
theorem ws_X0_copyFrom : Cond.selects RX0 yX0_copyFrom yX0_copyFrom ∈ z_TB := z_TBm (List.mem_of_getElem? (i := 826) (by decide +kernel)) rfl
theorem wl_X0_47 : Cond.methodLink RX0 47 ⟨"java/lang/System", "arraycopy", "(Ljava/lang/Object;ILjava/lang/Object;II)V"⟩ ∈ z_TB := z_TBm (List.mem_of_getElem? (i := 828) (by decide +kernel)) rfl
theorem wl_X2_31 : Cond.methodLink RX2 31 yJ9_min_7cf53 ∈ z_TB := z_TBm (List.mem_of_getElem? (i := 831) (by decide +kernel)) rfl
theorem wl_X10_130 : Cond.methodLink RX10 130 yX6_doneOn ∈ z_TB := z_TBm (List.mem_of_getElem? (i := 832) (by decide +kernel)) rfl
theorem wi_X6_doneOn : Cond.instanceMethod yX6_doneOn ∈ z_TB := z_TBm (List.mem_of_getElem? (i := 833) (by decide +kernel)) rfl
theorem ws_X6_doneOn : Cond.selects RX6 yX6_doneOn yX6_doneOn ∈ z_TB := z_TBm (List.mem_of_getElem? (i := 834) (by decide +kernel)) rfl
theorem wl_X6_150 : Cond.methodLink RX6 150 yX6_doSteps ∈ z_TB := z_TBm (List.mem_of_getElem? (i := 836) (by decide +kernel)) rfl
theorem wi_X6_doSteps : Cond.instanceMethod yX6_doSteps ∈ z_TB := z_TBm (List.mem_of_getElem? (i := 838) (by decide +kernel)) rfl
theorem wl_X6_154 : Cond.methodLink RX6 154 yX6_beginStep ∈ z_TB := z_TBm (List.mem_of_getElem? (i := 840) (by decide +kernel)) rfl
theorem wi_X6_beginStep : Cond.instanceMethod yX6_beginStep ∈ z_TB := z_TBm (List.mem_of_getElem? (i := 842) (by decide +kernel)) rfl
theorem wl_X6_158 : Cond.methodLink RX6 158 yX6_doStep ∈ z_TB := z_TBm (List.mem_of_getElem? (i := 844) (by decide +kernel)) rfl
theorem wi_X6_doStep : Cond.instanceMethod yX6_doStep ∈ z_TB := z_TBm (List.mem_of_getElem? (i := 846) (by decide +kernel)) rfl
theorem wl_X6_162 : Cond.methodLink RX6 162 yX0_readAll ∈ z_TB := z_TBm (List.mem_of_getElem? (i := 848) (by decide +kernel)) rfl
theorem wi_X0_readAll : Cond.instanceMethod yX0_readAll ∈ z_TB := z_TBm (List.mem_of_getElem? (i := 849) (by decide +kernel)) rfl
theorem ws_X0_readAll : Cond.selects RX0 yX0_readAll yX0_readAll ∈ z_TB := z_TBm (List.mem_of_getElem? (i := 850) (by decide +kernel)) rfl
theorem wl_X0_67 : Cond.methodLink RX0 67 yX0_loudOnes ∈ z_TB := z_TBm (List.mem_of_getElem? (i := 852) (by decide +kernel)) rfl
theorem wi_X0_loudOnes : Cond.instanceMethod yX0_loudOnes ∈ z_TB := z_TBm (List.mem_of_getElem? (i := 853) (by decide +kernel)) rfl
theorem ws_X0_loudOnes : Cond.selects RX0 yX0_loudOnes yX0_loudOnes ∈ z_TB := z_TBm (List.mem_of_getElem? (i := 854) (by decide +kernel)) rfl
theorem wl_X0_61 : Cond.methodLink RX0 61 yJ6_bitCount_0f7a4 ∈ z_TB := z_TBm (List.mem_of_getElem? (i := 856) (by decide +kernel)) rfl
theorem wt_J6_bitCount_0f7a4 : Cond.static yJ6_bitCount_0f7a4 ∈ z_TB := z_TBm (List.mem_of_getElem? (i := 857) (by decide +kernel)) rfl
theorem wc_J6_265 : Cond.constant RJ6 265 (1431655765) ∈ z_TB := z_TBm (List.mem_of_getElem? (i := 859) (by decide +kernel)) rfl
theorem wc_J6_266 : Cond.constant RJ6 266 (858993459) ∈ z_TB := z_TBm (List.mem_of_getElem? (i := 860) (by decide +kernel)) rfl
theorem wc_J6_267 : Cond.constant RJ6 267 (252645135) ∈ z_TB := z_TBm (List.mem_of_getElem? (i := 861) (by decide +kernel)) rfl
theorem wa_byte : Cond.arrayClass .byte ∈ z_TB := z_TBm (List.mem_of_getElem? (i := 862) (by decide +kernel)) rfl
theorem wl_L_46 : Cond.methodLink RL 46 yX10_fault ∈ z_TB := z_TBm (List.mem_of_getElem? (i := 863) (by decide +kernel)) rfl
theorem wi_X10_fault : Cond.instanceMethod yX10_fault ∈ z_TB := z_TBm (List.mem_of_getElem? (i := 864) (by decide +kernel)) rfl
theorem ws_X10_fault : Cond.selects RX10 yX10_fault yX10_fault ∈ z_TB := z_TBm (List.mem_of_getElem? (i := 865) (by decide +kernel)) rfl
theorem wl_L_50 : Cond.methodLink RL 50 yX10_now ∈ z_TB := z_TBm (List.mem_of_getElem? (i := 867) (by decide +kernel)) rfl
theorem wi_X10_now : Cond.instanceMethod yX10_now ∈ z_TB := z_TBm (List.mem_of_getElem? (i := 868) (by decide +kernel)) rfl
theorem ws_X10_now : Cond.selects RX10 yX10_now yX10_now ∈ z_TB := z_TBm (List.mem_of_getElem? (i := 869) (by decide +kernel)) rfl
theorem wl_X10_147 : Cond.methodLink RX10 147 yX0_loudOnes ∈ z_TB := z_TBm (List.mem_of_getElem? (i := 871) (by decide +kernel)) rfl
theorem wl_L_67 : Cond.methodLink RL 67 yX10_reading ∈ z_TB := z_TBm (List.mem_of_getElem? (i := 872) (by decide +kernel)) rfl
theorem wi_X10_reading : Cond.instanceMethod yX10_reading ∈ z_TB := z_TBm (List.mem_of_getElem? (i := 873) (by decide +kernel)) rfl
theorem ws_X10_reading : Cond.selects RX10 yX10_reading yX10_reading ∈ z_TB := z_TBm (List.mem_of_getElem? (i := 874) (by decide +kernel)) rfl
theorem wl_X10_181 : Cond.methodLink RX10 181 yX10_isKind ∈ z_TB := z_TBm (List.mem_of_getElem? (i := 876) (by decide +kernel)) rfl
theorem wt_X10_isKind : Cond.static yX10_isKind ∈ z_TB := z_TBm (List.mem_of_getElem? (i := 877) (by decide +kernel)) rfl
theorem wl_X10_185 : Cond.methodLink RX10 185 yX10_isRound ∈ z_TB := z_TBm (List.mem_of_getElem? (i := 879) (by decide +kernel)) rfl
theorem wi_X10_isRound : Cond.instanceMethod yX10_isRound ∈ z_TB := z_TBm (List.mem_of_getElem? (i := 881) (by decide +kernel)) rfl
theorem wl_L_71 : Cond.methodLink RL 71 yX10_events ∈ z_TB := z_TBm (List.mem_of_getElem? (i := 883) (by decide +kernel)) rfl
theorem wi_X10_events : Cond.instanceMethod yX10_events ∈ z_TB := z_TBm (List.mem_of_getElem? (i := 884) (by decide +kernel)) rfl
theorem ws_X10_events : Cond.selects RX10 yX10_events yX10_events ∈ z_TB := z_TBm (List.mem_of_getElem? (i := 885) (by decide +kernel)) rfl
theorem wl_X10_191 : Cond.methodLink RX10 191 yX4_spread ∈ z_TB := z_TBm (List.mem_of_getElem? (i := 887) (by decide +kernel)) rfl
theorem wi_X4_spread : Cond.instanceMethod yX4_spread ∈ z_TB := z_TBm (List.mem_of_getElem? (i := 888) (by decide +kernel)) rfl
theorem ws_X4_spread : Cond.selects RX4 yX4_spread yX4_spread ∈ z_TB := z_TBm (List.mem_of_getElem? (i := 889) (by decide +kernel)) rfl
theorem wl_X4_68 : Cond.methodLink RX4 68 yJ7_fill_53178 ∈ z_TB := z_TBm (List.mem_of_getElem? (i := 891) (by decide +kernel)) rfl
theorem wl_X4_74 : Cond.methodLink RX4 74 yX4_joinWithin ∈ z_TB := z_TBm (List.mem_of_getElem? (i := 892) (by decide +kernel)) rfl
theorem wi_X4_joinWithin : Cond.instanceMethod yX4_joinWithin ∈ z_TB := z_TBm (List.mem_of_getElem? (i := 894) (by decide +kernel)) rfl
theorem wl_X4_95 : Cond.methodLink RX4 95 yX4_join ∈ z_TB := z_TBm (List.mem_of_getElem? (i := 896) (by decide +kernel)) rfl
theorem wi_X4_join : Cond.instanceMethod yX4_join ∈ z_TB := z_TBm (List.mem_of_getElem? (i := 898) (by decide +kernel)) rfl
theorem wl_X4_102 : Cond.methodLink RX4 102 yX4_link ∈ z_TB := z_TBm (List.mem_of_getElem? (i := 900) (by decide +kernel)) rfl
theorem wi_X4_link : Cond.instanceMethod yX4_link ∈ z_TB := z_TBm (List.mem_of_getElem? (i := 902) (by decide +kernel)) rfl
theorem wl_X4_78 : Cond.methodLink RX4 78 yX4_joinToNext ∈ z_TB := z_TBm (List.mem_of_getElem? (i := 904) (by decide +kernel)) rfl
theorem wi_X4_joinToNext : Cond.instanceMethod yX4_joinToNext ∈ z_TB := z_TBm (List.mem_of_getElem? (i := 906) (by decide +kernel)) rfl
theorem wl_X4_81 : Cond.methodLink RX4 81 yX4_findEvents ∈ z_TB := z_TBm (List.mem_of_getElem? (i := 908) (by decide +kernel)) rfl
theorem wi_X4_findEvents : Cond.instanceMethod yX4_findEvents ∈ z_TB := z_TBm (List.mem_of_getElem? (i := 910) (by decide +kernel)) rfl
theorem wl_X4_109 : Cond.methodLink RX4 109 yX0_loudOnes ∈ z_TB := z_TBm (List.mem_of_getElem? (i := 912) (by decide +kernel)) rfl
theorem wl_L_75 : Cond.methodLink RL 75 yX10_event ∈ z_TB := z_TBm (List.mem_of_getElem? (i := 913) (by decide +kernel)) rfl
theorem wi_X10_event : Cond.instanceMethod yX10_event ∈ z_TB := z_TBm (List.mem_of_getElem? (i := 914) (by decide +kernel)) rfl
theorem ws_X10_event : Cond.selects RX10 yX10_event yX10_event ∈ z_TB := z_TBm (List.mem_of_getElem? (i := 915) (by decide +kernel)) rfl
theorem wl_X10_198 : Cond.methodLink RX10 198 yX4_hasEvent ∈ z_TB := z_TBm (List.mem_of_getElem? (i := 917) (by decide +kernel)) rfl
theorem wi_X4_hasEvent : Cond.instanceMethod yX4_hasEvent ∈ z_TB := z_TBm (List.mem_of_getElem? (i := 918) (by decide +kernel)) rfl
theorem ws_X4_hasEvent : Cond.selects RX4 yX4_hasEvent yX4_hasEvent ∈ z_TB := z_TBm (List.mem_of_getElem? (i := 919) (by decide +kernel)) rfl
theorem wl_L_79 : Cond.methodLink RL 79 yX10_far ∈ z_TB := z_TBm (List.mem_of_getElem? (i := 921) (by decide +kernel)) rfl
theorem wi_X10_far : Cond.instanceMethod yX10_far ∈ z_TB := z_TBm (List.mem_of_getElem? (i := 922) (by decide +kernel)) rfl
theorem ws_X10_far : Cond.selects RX10 yX10_far yX10_far ∈ z_TB := z_TBm (List.mem_of_getElem? (i := 923) (by decide +kernel)) rfl
theorem wl_X10_207 : Cond.methodLink RX10 207 yX10_findWay ∈ z_TB := z_TBm (List.mem_of_getElem? (i := 925) (by decide +kernel)) rfl
theorem wi_X10_findWay : Cond.instanceMethod yX10_findWay ∈ z_TB := z_TBm (List.mem_of_getElem? (i := 927) (by decide +kernel)) rfl
theorem wl_X10_350 : Cond.methodLink RX10 350 yX8_seek ∈ z_TB := z_TBm (List.mem_of_getElem? (i := 929) (by decide +kernel)) rfl
theorem wi_X8_seek : Cond.instanceMethod yX8_seek ∈ z_TB := z_TBm (List.mem_of_getElem? (i := 930) (by decide +kernel)) rfl
theorem ws_X8_seek : Cond.selects RX8 yX8_seek yX8_seek ∈ z_TB := z_TBm (List.mem_of_getElem? (i := 931) (by decide +kernel)) rfl
theorem wl_X8_29 : Cond.methodLink RX8 29 yX8_measure ∈ z_TB := z_TBm (List.mem_of_getElem? (i := 933) (by decide +kernel)) rfl
theorem wi_X8_measure : Cond.instanceMethod yX8_measure ∈ z_TB := z_TBm (List.mem_of_getElem? (i := 934) (by decide +kernel)) rfl
theorem ws_X8_measure : Cond.selects RX8 yX8_measure yX8_measure ∈ z_TB := z_TBm (List.mem_of_getElem? (i := 935) (by decide +kernel)) rfl
theorem wl_X8_41 : Cond.methodLink RX8 41 yJ7_fill_53178 ∈ z_TB := z_TBm (List.mem_of_getElem? (i := 937) (by decide +kernel)) rfl
theorem wl_X8_53 : Cond.methodLink RX8 53 yX8_offerFromBorder ∈ z_TB := z_TBm (List.mem_of_getElem? (i := 938) (by decide +kernel)) rfl
theorem wi_X8_offerFromBorder : Cond.instanceMethod yX8_offerFromBorder ∈ z_TB := z_TBm (List.mem_of_getElem? (i := 940) (by decide +kernel)) rfl
theorem wl_X8_57 : Cond.methodLink RX8 57 yX8_offer ∈ z_TB := z_TBm (List.mem_of_getElem? (i := 942) (by decide +kernel)) rfl
theorem wi_X8_offer : Cond.instanceMethod yX8_offer ∈ z_TB := z_TBm (List.mem_of_getElem? (i := 944) (by decide +kernel)) rfl
theorem wl_X8_61 : Cond.methodLink RX8 61 yX8_offerFrom ∈ z_TB := z_TBm (List.mem_of_getElem? (i := 946) (by decide +kernel)) rfl
theorem wi_X8_offerFrom : Cond.instanceMethod yX8_offerFrom ∈ z_TB := z_TBm (List.mem_of_getElem? (i := 948) (by decide +kernel)) rfl
theorem wl_X8_79 : Cond.methodLink RX8 79 yX4_nearAt ∈ z_TB := z_TBm (List.mem_of_getElem? (i := 950) (by decide +kernel)) rfl
theorem wi_X4_nearAt : Cond.instanceMethod yX4_nearAt ∈ z_TB := z_TBm (List.mem_of_getElem? (i := 951) (by decide +kernel)) rfl
theorem ws_X4_nearAt : Cond.selects RX4 yX4_nearAt yX4_nearAt ∈ z_TB := z_TBm (List.mem_of_getElem? (i := 952) (by decide +kernel)) rfl
theorem wl_X8_83 : Cond.methodLink RX8 83 yX4_otherEnd ∈ z_TB := z_TBm (List.mem_of_getElem? (i := 954) (by decide +kernel)) rfl
theorem wi_X4_otherEnd : Cond.instanceMethod yX4_otherEnd ∈ z_TB := z_TBm (List.mem_of_getElem? (i := 955) (by decide +kernel)) rfl
theorem ws_X4_otherEnd : Cond.selects RX4 yX4_otherEnd yX4_otherEnd ∈ z_TB := z_TBm (List.mem_of_getElem? (i := 956) (by decide +kernel)) rfl
theorem wl_X8_37 : Cond.methodLink RX8 37 yX8_walk ∈ z_TB := z_TBm (List.mem_of_getElem? (i := 958) (by decide +kernel)) rfl
theorem wi_X8_walk : Cond.instanceMethod yX8_walk ∈ z_TB := z_TBm (List.mem_of_getElem? (i := 959) (by decide +kernel)) rfl
theorem ws_X8_walk : Cond.selects RX8 yX8_walk yX8_walk ∈ z_TB := z_TBm (List.mem_of_getElem? (i := 960) (by decide +kernel)) rfl
theorem wl_X8_89 : Cond.methodLink RX8 89 yX8_edgeFrom ∈ z_TB := z_TBm (List.mem_of_getElem? (i := 962) (by decide +kernel)) rfl
theorem wt_X8_edgeFrom : Cond.static yX8_edgeFrom ∈ z_TB := z_TBm (List.mem_of_getElem? (i := 963) (by decide +kernel)) rfl
theorem wl_L_83 : Cond.methodLink RL 83 yX10_way ∈ z_TB := z_TBm (List.mem_of_getElem? (i := 965) (by decide +kernel)) rfl
theorem wi_X10_way : Cond.instanceMethod yX10_way ∈ z_TB := z_TBm (List.mem_of_getElem? (i := 966) (by decide +kernel)) rfl
theorem ws_X10_way : Cond.selects RX10 yX10_way yX10_way ∈ z_TB := z_TBm (List.mem_of_getElem? (i := 967) (by decide +kernel)) rfl
theorem wl_L_88 : Cond.methodLink RL 88 yX10_pair ∈ z_TB := z_TBm (List.mem_of_getElem? (i := 969) (by decide +kernel)) rfl
theorem wi_X10_pair : Cond.instanceMethod yX10_pair ∈ z_TB := z_TBm (List.mem_of_getElem? (i := 970) (by decide +kernel)) rfl
theorem ws_X10_pair : Cond.selects RX10 yX10_pair yX10_pair ∈ z_TB := z_TBm (List.mem_of_getElem? (i := 971) (by decide +kernel)) rfl
theorem wl_X10_218 : Cond.methodLink RX10 218 yX10_paired ∈ z_TB := z_TBm (List.mem_of_getElem? (i := 973) (by decide +kernel)) rfl
theorem wi_X10_paired : Cond.instanceMethod yX10_paired ∈ z_TB := z_TBm (List.mem_of_getElem? (i := 975) (by decide +kernel)) rfl
theorem wl_X10_354 : Cond.methodLink RX10 354 yX5_solve ∈ z_TB := z_TBm (List.mem_of_getElem? (i := 977) (by decide +kernel)) rfl
theorem wi_X5_solve : Cond.instanceMethod yX5_solve ∈ z_TB := z_TBm (List.mem_of_getElem? (i := 978) (by decide +kernel)) rfl
theorem ws_X5_solve : Cond.selects RX5 yX5_solve yX5_solve ∈ z_TB := z_TBm (List.mem_of_getElem? (i := 979) (by decide +kernel)) rfl
theorem wl_X5_38 : Cond.methodLink RX5 38 yJ9_min_7cf53 ∈ z_TB := z_TBm (List.mem_of_getElem? (i := 981) (by decide +kernel)) rfl
theorem wl_X5_50 : Cond.methodLink RX5 50 yX8_measure ∈ z_TB := z_TBm (List.mem_of_getElem? (i := 982) (by decide +kernel)) rfl
theorem wl_X5_59 : Cond.methodLink RX5 59 yX5_forgetSets ∈ z_TB := z_TBm (List.mem_of_getElem? (i := 983) (by decide +kernel)) rfl
theorem wi_X5_forgetSets : Cond.instanceMethod yX5_forgetSets ∈ z_TB := z_TBm (List.mem_of_getElem? (i := 985) (by decide +kernel)) rfl
theorem wl_X5_63 : Cond.methodLink RX5 63 yX5_leastFor ∈ z_TB := z_TBm (List.mem_of_getElem? (i := 987) (by decide +kernel)) rfl
theorem wi_X5_leastFor : Cond.instanceMethod yX5_leastFor ∈ z_TB := z_TBm (List.mem_of_getElem? (i := 989) (by decide +kernel)) rfl
theorem wl_X5_75 : Cond.methodLink RX5 75 yJ6_numberOfTrailingZeros_0f7a4 ∈ z_TB := z_TBm (List.mem_of_getElem? (i := 991) (by decide +kernel)) rfl
theorem wl_X5_81 : Cond.methodLink RX5 81 yX5_toBorder ∈ z_TB := z_TBm (List.mem_of_getElem? (i := 992) (by decide +kernel)) rfl
theorem wi_X5_toBorder : Cond.instanceMethod yX5_toBorder ∈ z_TB := z_TBm (List.mem_of_getElem? (i := 994) (by decide +kernel)) rfl
theorem wl_X5_84 : Cond.methodLink RX5 84 yX5_between ∈ z_TB := z_TBm (List.mem_of_getElem? (i := 996) (by decide +kernel)) rfl
theorem wi_X5_between : Cond.instanceMethod yX5_between ∈ z_TB := z_TBm (List.mem_of_getElem? (i := 998) (by decide +kernel)) rfl
theorem wl_X5_72 : Cond.methodLink RX5 72 yX5_choosePartners ∈ z_TB := z_TBm (List.mem_of_getElem? (i := 1000) (by decide +kernel)) rfl
theorem wi_X5_choosePartners : Cond.instanceMethod yX5_choosePartners ∈ z_TB := z_TBm (List.mem_of_getElem? (i := 1002) (by decide +kernel)) rfl
theorem wl_X5_87 : Cond.methodLink RX5 87 yX5_firstPartner ∈ z_TB := z_TBm (List.mem_of_getElem? (i := 1004) (by decide +kernel)) rfl
theorem wi_X5_firstPartner : Cond.instanceMethod yX5_firstPartner ∈ z_TB := z_TBm (List.mem_of_getElem? (i := 1006) (by decide +kernel)) rfl
theorem wl_X10_222 : Cond.methodLink RX10 222 yX7_keepPairing ∈ z_TB := z_TBm (List.mem_of_getElem? (i := 1008) (by decide +kernel)) rfl
theorem wi_X7_keepPairing : Cond.instanceMethod yX7_keepPairing ∈ z_TB := z_TBm (List.mem_of_getElem? (i := 1009) (by decide +kernel)) rfl
theorem ws_X7_keepPairing : Cond.selects RX7 yX7_keepPairing yX7_keepPairing ∈ z_TB := z_TBm (List.mem_of_getElem? (i := 1010) (by decide +kernel)) rfl
theorem wl_X7_36 : Cond.methodLink RX7 36 ⟨"java/lang/System", "arraycopy", "(Ljava/lang/Object;ILjava/lang/Object;II)V"⟩ ∈ z_TB := z_TBm (List.mem_of_getElem? (i := 1012) (by decide +kernel)) rfl
theorem wl_L_92 : Cond.methodLink RL 92 yX10_partner ∈ z_TB := z_TBm (List.mem_of_getElem? (i := 1013) (by decide +kernel)) rfl
theorem wi_X10_partner : Cond.instanceMethod yX10_partner ∈ z_TB := z_TBm (List.mem_of_getElem? (i := 1014) (by decide +kernel)) rfl
theorem ws_X10_partner : Cond.selects RX10 yX10_partner yX10_partner ∈ z_TB := z_TBm (List.mem_of_getElem? (i := 1015) (by decide +kernel)) rfl
theorem wl_L_96 : Cond.methodLink RL 96 yX10_pairings ∈ z_TB := z_TBm (List.mem_of_getElem? (i := 1017) (by decide +kernel)) rfl
theorem wi_X10_pairings : Cond.instanceMethod yX10_pairings ∈ z_TB := z_TBm (List.mem_of_getElem? (i := 1018) (by decide +kernel)) rfl
theorem ws_X10_pairings : Cond.selects RX10 yX10_pairings yX10_pairings ∈ z_TB := z_TBm (List.mem_of_getElem? (i := 1019) (by decide +kernel)) rfl
theorem wl_L_100 : Cond.methodLink RL 100 yX10_grow ∈ z_TB := z_TBm (List.mem_of_getElem? (i := 1021) (by decide +kernel)) rfl
theorem wi_X10_grow : Cond.instanceMethod yX10_grow ∈ z_TB := z_TBm (List.mem_of_getElem? (i := 1022) (by decide +kernel)) rfl
theorem ws_X10_grow : Cond.selects RX10 yX10_grow yX10_grow ∈ z_TB := z_TBm (List.mem_of_getElem? (i := 1023) (by decide +kernel)) rfl
theorem wl_X10_235 : Cond.methodLink RX10 235 yX10_growAndPeel ∈ z_TB := z_TBm (List.mem_of_getElem? (i := 1025) (by decide +kernel)) rfl
theorem wi_X10_growAndPeel : Cond.instanceMethod yX10_growAndPeel ∈ z_TB := z_TBm (List.mem_of_getElem? (i := 1027) (by decide +kernel)) rfl
theorem wl_X10_357 : Cond.methodLink RX10 357 yX1_growClumps ∈ z_TB := z_TBm (List.mem_of_getElem? (i := 1029) (by decide +kernel)) rfl
theorem wi_X1_growClumps : Cond.instanceMethod yX1_growClumps ∈ z_TB := z_TBm (List.mem_of_getElem? (i := 1030) (by decide +kernel)) rfl
theorem ws_X1_growClumps : Cond.selects RX1 yX1_growClumps yX1_growClumps ∈ z_TB := z_TBm (List.mem_of_getElem? (i := 1031) (by decide +kernel)) rfl
theorem wl_X1_36 : Cond.methodLink RX1 36 yJ7_fill_53178 ∈ z_TB := z_TBm (List.mem_of_getElem? (i := 1033) (by decide +kernel)) rfl
theorem wl_X1_46 : Cond.methodLink RX1 46 yX1_partAll ∈ z_TB := z_TBm (List.mem_of_getElem? (i := 1034) (by decide +kernel)) rfl
theorem wi_X1_partAll : Cond.instanceMethod yX1_partAll ∈ z_TB := z_TBm (List.mem_of_getElem? (i := 1036) (by decide +kernel)) rfl
theorem wl_X1_50 : Cond.methodLink RX1 50 yX1_markEvents ∈ z_TB := z_TBm (List.mem_of_getElem? (i := 1038) (by decide +kernel)) rfl
theorem wi_X1_markEvents : Cond.instanceMethod yX1_markEvents ∈ z_TB := z_TBm (List.mem_of_getElem? (i := 1040) (by decide +kernel)) rfl
theorem wc_X1_56 : Cond.constant RX1 56 (100000) ∈ z_TB := z_TBm (List.mem_of_getElem? (i := 1042) (by decide +kernel)) rfl
theorem wl_X1_57 : Cond.methodLink RX1 57 yX1_findOpen ∈ z_TB := z_TBm (List.mem_of_getElem? (i := 1043) (by decide +kernel)) rfl
theorem wi_X1_findOpen : Cond.instanceMethod yX1_findOpen ∈ z_TB := z_TBm (List.mem_of_getElem? (i := 1045) (by decide +kernel)) rfl
theorem wl_X1_78 : Cond.methodLink RX1 78 yX1_rootOf ∈ z_TB := z_TBm (List.mem_of_getElem? (i := 1047) (by decide +kernel)) rfl
theorem wi_X1_rootOf : Cond.instanceMethod yX1_rootOf ∈ z_TB := z_TBm (List.mem_of_getElem? (i := 1049) (by decide +kernel)) rfl
theorem wl_X1_61 : Cond.methodLink RX1 61 yX1_growEdges ∈ z_TB := z_TBm (List.mem_of_getElem? (i := 1051) (by decide +kernel)) rfl
theorem wi_X1_growEdges : Cond.instanceMethod yX1_growEdges ∈ z_TB := z_TBm (List.mem_of_getElem? (i := 1053) (by decide +kernel)) rfl
theorem wl_X1_64 : Cond.methodLink RX1 64 yX1_joinWhole ∈ z_TB := z_TBm (List.mem_of_getElem? (i := 1055) (by decide +kernel)) rfl
theorem wi_X1_joinWhole : Cond.instanceMethod yX1_joinWhole ∈ z_TB := z_TBm (List.mem_of_getElem? (i := 1057) (by decide +kernel)) rfl
theorem wl_X1_97 : Cond.methodLink RX1 97 yX1_joinEnds ∈ z_TB := z_TBm (List.mem_of_getElem? (i := 1059) (by decide +kernel)) rfl
theorem wi_X1_joinEnds : Cond.instanceMethod yX1_joinEnds ∈ z_TB := z_TBm (List.mem_of_getElem? (i := 1061) (by decide +kernel)) rfl
theorem wl_X10_361 : Cond.methodLink RX10 361 yX1_layForest ∈ z_TB := z_TBm (List.mem_of_getElem? (i := 1063) (by decide +kernel)) rfl
theorem wi_X1_layForest : Cond.instanceMethod yX1_layForest ∈ z_TB := z_TBm (List.mem_of_getElem? (i := 1064) (by decide +kernel)) rfl
theorem ws_X1_layForest : Cond.selects RX1 yX1_layForest yX1_layForest ∈ z_TB := z_TBm (List.mem_of_getElem? (i := 1065) (by decide +kernel)) rfl
theorem wl_X1_104 : Cond.methodLink RX1 104 yX1_addBranch ∈ z_TB := z_TBm (List.mem_of_getElem? (i := 1067) (by decide +kernel)) rfl
theorem wi_X1_addBranch : Cond.instanceMethod yX1_addBranch ∈ z_TB := z_TBm (List.mem_of_getElem? (i := 1069) (by decide +kernel)) rfl
theorem wl_X10_364 : Cond.methodLink RX10 364 yX1_peelForest ∈ z_TB := z_TBm (List.mem_of_getElem? (i := 1071) (by decide +kernel)) rfl
theorem wi_X1_peelForest : Cond.instanceMethod yX1_peelForest ∈ z_TB := z_TBm (List.mem_of_getElem? (i := 1072) (by decide +kernel)) rfl
theorem ws_X1_peelForest : Cond.selects RX1 yX1_peelForest yX1_peelForest ∈ z_TB := z_TBm (List.mem_of_getElem? (i := 1073) (by decide +kernel)) rfl
theorem wl_X1_113 : Cond.methodLink RX1 113 yX1_isLeaf ∈ z_TB := z_TBm (List.mem_of_getElem? (i := 1075) (by decide +kernel)) rfl
theorem wi_X1_isLeaf : Cond.instanceMethod yX1_isLeaf ∈ z_TB := z_TBm (List.mem_of_getElem? (i := 1077) (by decide +kernel)) rfl
theorem wl_X1_116 : Cond.methodLink RX1 116 yX1_peelLeaf ∈ z_TB := z_TBm (List.mem_of_getElem? (i := 1079) (by decide +kernel)) rfl
theorem wi_X1_peelLeaf : Cond.instanceMethod yX1_peelLeaf ∈ z_TB := z_TBm (List.mem_of_getElem? (i := 1081) (by decide +kernel)) rfl
theorem wl_X1_120 : Cond.methodLink RX1 120 yX4_otherEnd ∈ z_TB := z_TBm (List.mem_of_getElem? (i := 1083) (by decide +kernel)) rfl
theorem wl_X10_238 : Cond.methodLink RX10 238 yX7_keepGrowth ∈ z_TB := z_TBm (List.mem_of_getElem? (i := 1084) (by decide +kernel)) rfl
theorem wi_X7_keepGrowth : Cond.instanceMethod yX7_keepGrowth ∈ z_TB := z_TBm (List.mem_of_getElem? (i := 1085) (by decide +kernel)) rfl
theorem ws_X7_keepGrowth : Cond.selects RX7 yX7_keepGrowth yX7_keepGrowth ∈ z_TB := z_TBm (List.mem_of_getElem? (i := 1086) (by decide +kernel)) rfl
theorem wl_L_104 : Cond.methodLink RL 104 yX10_grown ∈ z_TB := z_TBm (List.mem_of_getElem? (i := 1088) (by decide +kernel)) rfl
theorem wi_X10_grown : Cond.instanceMethod yX10_grown ∈ z_TB := z_TBm (List.mem_of_getElem? (i := 1089) (by decide +kernel)) rfl
theorem ws_X10_grown : Cond.selects RX10 yX10_grown yX10_grown ∈ z_TB := z_TBm (List.mem_of_getElem? (i := 1090) (by decide +kernel)) rfl
theorem wl_L_108 : Cond.methodLink RL 108 yX10_peeledAt ∈ z_TB := z_TBm (List.mem_of_getElem? (i := 1092) (by decide +kernel)) rfl
theorem wi_X10_peeledAt : Cond.instanceMethod yX10_peeledAt ∈ z_TB := z_TBm (List.mem_of_getElem? (i := 1093) (by decide +kernel)) rfl
theorem ws_X10_peeledAt : Cond.selects RX10 yX10_peeledAt yX10_peeledAt ∈ z_TB := z_TBm (List.mem_of_getElem? (i := 1094) (by decide +kernel)) rfl
theorem wl_L_112 : Cond.methodLink RL 112 yX10_blame ∈ z_TB := z_TBm (List.mem_of_getElem? (i := 1096) (by decide +kernel)) rfl
theorem wi_X10_blame : Cond.instanceMethod yX10_blame ∈ z_TB := z_TBm (List.mem_of_getElem? (i := 1097) (by decide +kernel)) rfl
theorem ws_X10_blame : Cond.selects RX10 yX10_blame yX10_blame ∈ z_TB := z_TBm (List.mem_of_getElem? (i := 1098) (by decide +kernel)) rfl
theorem wl_X10_255 : Cond.methodLink RX10 255 yX5_trace ∈ z_TB := z_TBm (List.mem_of_getElem? (i := 1100) (by decide +kernel)) rfl
theorem wi_X5_trace : Cond.instanceMethod yX5_trace ∈ z_TB := z_TBm (List.mem_of_getElem? (i := 1101) (by decide +kernel)) rfl
theorem ws_X5_trace : Cond.selects RX5 yX5_trace yX5_trace ∈ z_TB := z_TBm (List.mem_of_getElem? (i := 1102) (by decide +kernel)) rfl
theorem wl_X5_90 : Cond.methodLink RX5 90 yJ7_fill_53178 ∈ z_TB := z_TBm (List.mem_of_getElem? (i := 1104) (by decide +kernel)) rfl
theorem wl_X5_96 : Cond.methodLink RX5 96 yX8_walk ∈ z_TB := z_TBm (List.mem_of_getElem? (i := 1105) (by decide +kernel)) rfl
theorem wl_X5_100 : Cond.methodLink RX5 100 yX5_flipAlong ∈ z_TB := z_TBm (List.mem_of_getElem? (i := 1106) (by decide +kernel)) rfl
theorem wi_X5_flipAlong : Cond.instanceMethod yX5_flipAlong ∈ z_TB := z_TBm (List.mem_of_getElem? (i := 1108) (by decide +kernel)) rfl
theorem wl_X10_262 : Cond.methodLink RX10 262 yX4_risesOf ∈ z_TB := z_TBm (List.mem_of_getElem? (i := 1110) (by decide +kernel)) rfl
theorem wi_X4_risesOf : Cond.instanceMethod yX4_risesOf ∈ z_TB := z_TBm (List.mem_of_getElem? (i := 1111) (by decide +kernel)) rfl
theorem ws_X4_risesOf : Cond.selects RX4 yX4_risesOf yX4_risesOf ∈ z_TB := z_TBm (List.mem_of_getElem? (i := 1112) (by decide +kernel)) rfl
theorem wl_L_116 : Cond.methodLink RL 116 yX10_edges ∈ z_TB := z_TBm (List.mem_of_getElem? (i := 1114) (by decide +kernel)) rfl
theorem wi_X10_edges : Cond.instanceMethod yX10_edges ∈ z_TB := z_TBm (List.mem_of_getElem? (i := 1115) (by decide +kernel)) rfl
theorem ws_X10_edges : Cond.selects RX10 yX10_edges yX10_edges ∈ z_TB := z_TBm (List.mem_of_getElem? (i := 1116) (by decide +kernel)) rfl
theorem wl_L_123 : Cond.methodLink RL 123 yX10_correction ∈ z_TB := z_TBm (List.mem_of_getElem? (i := 1118) (by decide +kernel)) rfl
theorem wi_X10_correction : Cond.instanceMethod yX10_correction ∈ z_TB := z_TBm (List.mem_of_getElem? (i := 1119) (by decide +kernel)) rfl
theorem ws_X10_correction : Cond.selects RX10 yX10_correction yX10_correction ∈ z_TB := z_TBm (List.mem_of_getElem? (i := 1120) (by decide +kernel)) rfl
theorem wl_X10_281 : Cond.methodLink RX10 281 yX10_correctionOf ∈ z_TB := z_TBm (List.mem_of_getElem? (i := 1122) (by decide +kernel)) rfl
theorem wi_X10_correctionOf : Cond.instanceMethod yX10_correctionOf ∈ z_TB := z_TBm (List.mem_of_getElem? (i := 1124) (by decide +kernel)) rfl
theorem wl_X10_367 : Cond.methodLink RX10 367 yX4_qubitsOf ∈ z_TB := z_TBm (List.mem_of_getElem? (i := 1126) (by decide +kernel)) rfl
theorem wi_X4_qubitsOf : Cond.instanceMethod yX4_qubitsOf ∈ z_TB := z_TBm (List.mem_of_getElem? (i := 1127) (by decide +kernel)) rfl
theorem ws_X4_qubitsOf : Cond.selects RX4 yX4_qubitsOf yX4_qubitsOf ∈ z_TB := z_TBm (List.mem_of_getElem? (i := 1128) (by decide +kernel)) rfl
theorem wl_X10_371 : Cond.methodLink RX10 371 yX3_lightestSet ∈ z_TB := z_TBm (List.mem_of_getElem? (i := 1130) (by decide +kernel)) rfl
theorem wi_X3_lightestSet : Cond.instanceMethod yX3_lightestSet ∈ z_TB := z_TBm (List.mem_of_getElem? (i := 1131) (by decide +kernel)) rfl
theorem ws_X3_lightestSet : Cond.selects RX3 yX3_lightestSet yX3_lightestSet ∈ z_TB := z_TBm (List.mem_of_getElem? (i := 1132) (by decide +kernel)) rfl
theorem wl_X3_71 : Cond.methodLink RX3 71 yX3_weighRows ∈ z_TB := z_TBm (List.mem_of_getElem? (i := 1134) (by decide +kernel)) rfl
theorem wi_X3_weighRows : Cond.instanceMethod yX3_weighRows ∈ z_TB := z_TBm (List.mem_of_getElem? (i := 1136) (by decide +kernel)) rfl
theorem wl_X3_56 : Cond.methodLink RX3 56 yJ6_numberOfTrailingZeros_0f7a4 ∈ z_TB := z_TBm (List.mem_of_getElem? (i := 1138) (by decide +kernel)) rfl
theorem wl_X3_75 : Cond.methodLink RX3 75 yX3_seekLightest ∈ z_TB := z_TBm (List.mem_of_getElem? (i := 1139) (by decide +kernel)) rfl
theorem wi_X3_seekLightest : Cond.instanceMethod yX3_seekLightest ∈ z_TB := z_TBm (List.mem_of_getElem? (i := 1141) (by decide +kernel)) rfl
theorem wl_X3_88 : Cond.methodLink RX3 88 yX3_lookAt ∈ z_TB := z_TBm (List.mem_of_getElem? (i := 1143) (by decide +kernel)) rfl
theorem wi_X3_lookAt : Cond.instanceMethod yX3_lookAt ∈ z_TB := z_TBm (List.mem_of_getElem? (i := 1145) (by decide +kernel)) rfl
theorem wl_L_127 : Cond.methodLink RL 127 yX10_result ∈ z_TB := z_TBm (List.mem_of_getElem? (i := 1147) (by decide +kernel)) rfl
theorem wi_X10_result : Cond.instanceMethod yX10_result ∈ z_TB := z_TBm (List.mem_of_getElem? (i := 1148) (by decide +kernel)) rfl
theorem ws_X10_result : Cond.selects RX10 yX10_result yX10_result ∈ z_TB := z_TBm (List.mem_of_getElem? (i := 1149) (by decide +kernel)) rfl
theorem wl_X10_285 : Cond.methodLink RX10 285 yX10_resultOf ∈ z_TB := z_TBm (List.mem_of_getElem? (i := 1151) (by decide +kernel)) rfl
theorem wi_X10_resultOf : Cond.instanceMethod yX10_resultOf ∈ z_TB := z_TBm (List.mem_of_getElem? (i := 1153) (by decide +kernel)) rfl
theorem wl_X10_316 : Cond.methodLink RX10 316 yX9_logicalOf ∈ z_TB := z_TBm (List.mem_of_getElem? (i := 1155) (by decide +kernel)) rfl
theorem wi_X9_logicalOf : Cond.instanceMethod yX9_logicalOf ∈ z_TB := z_TBm (List.mem_of_getElem? (i := 1156) (by decide +kernel)) rfl
theorem ws_X9_logicalOf : Cond.selects RX9 yX9_logicalOf yX9_logicalOf ∈ z_TB := z_TBm (List.mem_of_getElem? (i := 1157) (by decide +kernel)) rfl
theorem wl_X9_71 : Cond.methodLink RX9 71 yJ6_bitCount_0f7a4 ∈ z_TB := z_TBm (List.mem_of_getElem? (i := 1159) (by decide +kernel)) rfl
theorem wl_L_131 : Cond.methodLink RL 131 yX10_correct ∈ z_TB := z_TBm (List.mem_of_getElem? (i := 1160) (by decide +kernel)) rfl
theorem wi_X10_correct : Cond.instanceMethod yX10_correct ∈ z_TB := z_TBm (List.mem_of_getElem? (i := 1161) (by decide +kernel)) rfl
theorem ws_X10_correct : Cond.selects RX10 yX10_correct yX10_correct ∈ z_TB := z_TBm (List.mem_of_getElem? (i := 1162) (by decide +kernel)) rfl
theorem wl_X10_288 : Cond.methodLink RX10 288 yJ6_bitCount_0f7a4 ∈ z_TB := z_TBm (List.mem_of_getElem? (i := 1164) (by decide +kernel)) rfl
theorem wl_L_135 : Cond.methodLink RL 135 yX10_distance ∈ z_TB := z_TBm (List.mem_of_getElem? (i := 1165) (by decide +kernel)) rfl
theorem wi_X10_distance : Cond.instanceMethod yX10_distance ∈ z_TB := z_TBm (List.mem_of_getElem? (i := 1166) (by decide +kernel)) rfl
theorem ws_X10_distance : Cond.selects RX10 yX10_distance yX10_distance ∈ z_TB := z_TBm (List.mem_of_getElem? (i := 1167) (by decide +kernel)) rfl
theorem wl_X10_293 : Cond.methodLink RX10 293 yX3_leastChain ∈ z_TB := z_TBm (List.mem_of_getElem? (i := 1169) (by decide +kernel)) rfl
theorem wi_X3_leastChain : Cond.instanceMethod yX3_leastChain ∈ z_TB := z_TBm (List.mem_of_getElem? (i := 1170) (by decide +kernel)) rfl
theorem ws_X3_leastChain : Cond.selects RX3 yX3_leastChain yX3_leastChain ∈ z_TB := z_TBm (List.mem_of_getElem? (i := 1171) (by decide +kernel)) rfl
theorem wl_L_139 : Cond.methodLink RL 139 yX10_like ∈ z_TB := z_TBm (List.mem_of_getElem? (i := 1173) (by decide +kernel)) rfl
theorem wi_X10_like : Cond.instanceMethod yX10_like ∈ z_TB := z_TBm (List.mem_of_getElem? (i := 1174) (by decide +kernel)) rfl
theorem ws_X10_like : Cond.selects RX10 yX10_like yX10_like ∈ z_TB := z_TBm (List.mem_of_getElem? (i := 1175) (by decide +kernel)) rfl
theorem wl_X10_297 : Cond.methodLink RX10 297 yX10_isLogical ∈ z_TB := z_TBm (List.mem_of_getElem? (i := 1177) (by decide +kernel)) rfl
theorem wt_X10_isLogical : Cond.static yX10_isLogical ∈ z_TB := z_TBm (List.mem_of_getElem? (i := 1178) (by decide +kernel)) rfl
theorem wl_X10_300 : Cond.methodLink RX10 300 yX3_countSizes ∈ z_TB := z_TBm (List.mem_of_getElem? (i := 1180) (by decide +kernel)) rfl
theorem wi_X3_countSizes : Cond.instanceMethod yX3_countSizes ∈ z_TB := z_TBm (List.mem_of_getElem? (i := 1181) (by decide +kernel)) rfl
theorem ws_X3_countSizes : Cond.selects RX3 yX3_countSizes yX3_countSizes ∈ z_TB := z_TBm (List.mem_of_getElem? (i := 1182) (by decide +kernel)) rfl
theorem wl_X3_24 : Cond.methodLink RX3 24 yJ7_fill_53178 ∈ z_TB := z_TBm (List.mem_of_getElem? (i := 1184) (by decide +kernel)) rfl
theorem wl_X3_33 : Cond.methodLink RX3 33 yX9_logicalOf ∈ z_TB := z_TBm (List.mem_of_getElem? (i := 1185) (by decide +kernel)) rfl
theorem wl_X3_42 : Cond.methodLink RX3 42 yJ6_bitCount_0f7a4 ∈ z_TB := z_TBm (List.mem_of_getElem? (i := 1186) (by decide +kernel)) rfl
theorem wl_L_143 : Cond.methodLink RL 143 yX10_odds ∈ z_TB := z_TBm (List.mem_of_getElem? (i := 1187) (by decide +kernel)) rfl
theorem wi_X10_odds : Cond.instanceMethod yX10_odds ∈ z_TB := z_TBm (List.mem_of_getElem? (i := 1188) (by decide +kernel)) rfl
theorem ws_X10_odds : Cond.selects RX10 yX10_odds yX10_odds ∈ z_TB := z_TBm (List.mem_of_getElem? (i := 1189) (by decide +kernel)) rfl
theorem wl_X10_307 : Cond.methodLink RX10 307 yX10_isFactor ∈ z_TB := z_TBm (List.mem_of_getElem? (i := 1191) (by decide +kernel)) rfl
theorem wt_X10_isFactor : Cond.static yX10_isFactor ∈ z_TB := z_TBm (List.mem_of_getElem? (i := 1192) (by decide +kernel)) rfl
theorem wc_X10_310 : Cond.constantLong RX10 310 (-1) ∈ z_TB := z_TBm (List.mem_of_getElem? (i := 1194) (by decide +kernel)) rfl
theorem wl_X10_312 : Cond.methodLink RX10 312 yX3_chances ∈ z_TB := z_TBm (List.mem_of_getElem? (i := 1195) (by decide +kernel)) rfl
theorem wi_X3_chances : Cond.instanceMethod yX3_chances ∈ z_TB := z_TBm (List.mem_of_getElem? (i := 1196) (by decide +kernel)) rfl
theorem ws_X3_chances : Cond.selects RX3 yX3_chances yX3_chances ∈ z_TB := z_TBm (List.mem_of_getElem? (i := 1197) (by decide +kernel)) rfl
theorem wl_X3_59 : Cond.methodLink RX3 59 yX3_power ∈ z_TB := z_TBm (List.mem_of_getElem? (i := 1199) (by decide +kernel)) rfl
theorem wt_X3_power : Cond.static yX3_power ∈ z_TB := z_TBm (List.mem_of_getElem? (i := 1200) (by decide +kernel)) rfl
theorem wl_X3_63 : Cond.methodLink RX3 63 yX3_times ∈ z_TB := z_TBm (List.mem_of_getElem? (i := 1202) (by decide +kernel)) rfl
theorem wt_X3_times : Cond.static yX3_times ∈ z_TB := z_TBm (List.mem_of_getElem? (i := 1203) (by decide +kernel)) rfl
theorem wc_X3_67 : Cond.constantLong RX3 67 (-1) ∈ z_TB := z_TBm (List.mem_of_getElem? (i := 1205) (by decide +kernel)) rfl
theorem wc_X3_69 : Cond.constantLong RX3 69 (9223372036854775807) ∈ z_TB := z_TBm (List.mem_of_getElem? (i := 1206) (by decide +kernel)) rfl
theorem wl_L_148 : Cond.methodLink RL 148 yX10_press ∈ z_TB := z_TBm (List.mem_of_getElem? (i := 1207) (by decide +kernel)) rfl
theorem wi_X10_press : Cond.instanceMethod yX10_press ∈ z_TB := z_TBm (List.mem_of_getElem? (i := 1208) (by decide +kernel)) rfl
theorem ws_X10_press : Cond.selects RX10 yX10_press yX10_press ∈ z_TB := z_TBm (List.mem_of_getElem? (i := 1209) (by decide +kernel)) rfl
theorem wl_X10_154 : Cond.methodLink RX10 154 yX10_isCheck ∈ z_TB := z_TBm (List.mem_of_getElem? (i := 1211) (by decide +kernel)) rfl
theorem wi_X10_isCheck : Cond.instanceMethod yX10_isCheck ∈ z_TB := z_TBm (List.mem_of_getElem? (i := 1213) (by decide +kernel)) rfl
theorem wl_L_152 : Cond.methodLink RL 152 yX10_chain ∈ z_TB := z_TBm (List.mem_of_getElem? (i := 1215) (by decide +kernel)) rfl
theorem wi_X10_chain : Cond.instanceMethod yX10_chain ∈ z_TB := z_TBm (List.mem_of_getElem? (i := 1216) (by decide +kernel)) rfl
theorem ws_X10_chain : Cond.selects RX10 yX10_chain yX10_chain ∈ z_TB := z_TBm (List.mem_of_getElem? (i := 1217) (by decide +kernel)) rfl
theorem wl_L_156 : Cond.methodLink RL 156 yX10_line ∈ z_TB := z_TBm (List.mem_of_getElem? (i := 1219) (by decide +kernel)) rfl
theorem wi_X10_line : Cond.instanceMethod yX10_line ∈ z_TB := z_TBm (List.mem_of_getElem? (i := 1220) (by decide +kernel)) rfl
theorem ws_X10_line : Cond.selects RX10 yX10_line yX10_line ∈ z_TB := z_TBm (List.mem_of_getElem? (i := 1221) (by decide +kernel)) rfl
theorem wl_X10_322 : Cond.methodLink RX10 322 yX7_drawLine ∈ z_TB := z_TBm (List.mem_of_getElem? (i := 1223) (by decide +kernel)) rfl
theorem wi_X7_drawLine : Cond.instanceMethod yX7_drawLine ∈ z_TB := z_TBm (List.mem_of_getElem? (i := 1224) (by decide +kernel)) rfl
theorem ws_X7_drawLine : Cond.selects RX7 yX7_drawLine yX7_drawLine ∈ z_TB := z_TBm (List.mem_of_getElem? (i := 1225) (by decide +kernel)) rfl
theorem wl_X7_81 : Cond.methodLink RX7 81 yJ7_fill_53178 ∈ z_TB := z_TBm (List.mem_of_getElem? (i := 1227) (by decide +kernel)) rfl
theorem wl_X7_87 : Cond.methodLink RX7 87 yX7_drawChecks ∈ z_TB := z_TBm (List.mem_of_getElem? (i := 1228) (by decide +kernel)) rfl
theorem wi_X7_drawChecks : Cond.instanceMethod yX7_drawChecks ∈ z_TB := z_TBm (List.mem_of_getElem? (i := 1230) (by decide +kernel)) rfl
theorem wl_X7_95 : Cond.methodLink RX7 95 yX0_loudOnes ∈ z_TB := z_TBm (List.mem_of_getElem? (i := 1232) (by decide +kernel)) rfl
theorem wl_X7_91 : Cond.methodLink RX7 91 yX7_drawQubits ∈ z_TB := z_TBm (List.mem_of_getElem? (i := 1233) (by decide +kernel)) rfl
theorem wi_X7_drawQubits : Cond.instanceMethod yX7_drawQubits ∈ z_TB := z_TBm (List.mem_of_getElem? (i := 1235) (by decide +kernel)) rfl
theorem wl_L_160 : Cond.methodLink RL 160 yX10_byteAt ∈ z_TB := z_TBm (List.mem_of_getElem? (i := 1237) (by decide +kernel)) rfl
theorem wi_X10_byteAt : Cond.instanceMethod yX10_byteAt ∈ z_TB := z_TBm (List.mem_of_getElem? (i := 1238) (by decide +kernel)) rfl
theorem ws_X10_byteAt : Cond.selects RX10 yX10_byteAt yX10_byteAt ∈ z_TB := z_TBm (List.mem_of_getElem? (i := 1239) (by decide +kernel)) rfl
theorem wl_L_164 : Cond.methodLink RL 164 yX10_fewest ∈ z_TB := z_TBm (List.mem_of_getElem? (i := 1241) (by decide +kernel)) rfl
theorem wi_X10_fewest : Cond.instanceMethod yX10_fewest ∈ z_TB := z_TBm (List.mem_of_getElem? (i := 1242) (by decide +kernel)) rfl
theorem ws_X10_fewest : Cond.selects RX10 yX10_fewest yX10_fewest ∈ z_TB := z_TBm (List.mem_of_getElem? (i := 1243) (by decide +kernel)) rfl
theorem wl_X10_331 : Cond.methodLink RX10 331 yX3_leastSize ∈ z_TB := z_TBm (List.mem_of_getElem? (i := 1245) (by decide +kernel)) rfl
theorem wi_X3_leastSize : Cond.instanceMethod yX3_leastSize ∈ z_TB := z_TBm (List.mem_of_getElem? (i := 1246) (by decide +kernel)) rfl
theorem ws_X3_leastSize : Cond.selects RX3 yX3_leastSize yX3_leastSize ∈ z_TB := z_TBm (List.mem_of_getElem? (i := 1247) (by decide +kernel)) rfl
theorem wl_L_168 : Cond.methodLink RL 168 yX10_drawn ∈ z_TB := z_TBm (List.mem_of_getElem? (i := 1249) (by decide +kernel)) rfl
theorem wi_X10_drawn : Cond.instanceMethod yX10_drawn ∈ z_TB := z_TBm (List.mem_of_getElem? (i := 1250) (by decide +kernel)) rfl
theorem ws_X10_drawn : Cond.selects RX10 yX10_drawn yX10_drawn ∈ z_TB := z_TBm (List.mem_of_getElem? (i := 1251) (by decide +kernel)) rfl
theorem wl_X10_334 : Cond.methodLink RX10 334 yX10_canBeDrawn ∈ z_TB := z_TBm (List.mem_of_getElem? (i := 1253) (by decide +kernel)) rfl
theorem wi_X10_canBeDrawn : Cond.instanceMethod yX10_canBeDrawn ∈ z_TB := z_TBm (List.mem_of_getElem? (i := 1255) (by decide +kernel)) rfl
theorem wl_X10_337 : Cond.methodLink RX10 337 yX0_drawRounds ∈ z_TB := z_TBm (List.mem_of_getElem? (i := 1257) (by decide +kernel)) rfl
theorem wi_X0_drawRounds : Cond.instanceMethod yX0_drawRounds ∈ z_TB := z_TBm (List.mem_of_getElem? (i := 1258) (by decide +kernel)) rfl
theorem ws_X0_drawRounds : Cond.selects RX0 yX0_drawRounds yX0_drawRounds ∈ z_TB := z_TBm (List.mem_of_getElem? (i := 1259) (by decide +kernel)) rfl
theorem wl_X0_73 : Cond.methodLink RX0 73 yX0_drawBehind ∈ z_TB := z_TBm (List.mem_of_getElem? (i := 1261) (by decide +kernel)) rfl
theorem wt_X0_drawBehind : Cond.static yX0_drawBehind ∈ z_TB := z_TBm (List.mem_of_getElem? (i := 1262) (by decide +kernel)) rfl
theorem wc_X0_87 : Cond.constant RX0 87 (1103515245) ∈ z_TB := z_TBm (List.mem_of_getElem? (i := 1264) (by decide +kernel)) rfl
theorem wl_X0_76 : Cond.methodLink RX0 76 yX0_drawOf ∈ z_TB := z_TBm (List.mem_of_getElem? (i := 1265) (by decide +kernel)) rfl
theorem wt_X0_drawOf : Cond.static yX0_drawOf ∈ z_TB := z_TBm (List.mem_of_getElem? (i := 1266) (by decide +kernel)) rfl
theorem wl_X0_79 : Cond.methodLink RX0 79 yX0_slipByDraw ∈ z_TB := z_TBm (List.mem_of_getElem? (i := 1268) (by decide +kernel)) rfl
theorem wi_X0_slipByDraw : Cond.instanceMethod yX0_slipByDraw ∈ z_TB := z_TBm (List.mem_of_getElem? (i := 1270) (by decide +kernel)) rfl
theorem wl_X0_83 : Cond.methodLink RX0 83 yX0_readAll ∈ z_TB := z_TBm (List.mem_of_getElem? (i := 1272) (by decide +kernel)) rfl
theorem wl_L_172 : Cond.methodLink RL 172 yX10_often ∈ z_TB := z_TBm (List.mem_of_getElem? (i := 1273) (by decide +kernel)) rfl
theorem wi_X10_often : Cond.instanceMethod yX10_often ∈ z_TB := z_TBm (List.mem_of_getElem? (i := 1274) (by decide +kernel)) rfl
theorem ws_X10_often : Cond.selects RX10 yX10_often yX10_often ∈ z_TB := z_TBm (List.mem_of_getElem? (i := 1275) (by decide +kernel)) rfl
theorem wl_X10_341 : Cond.methodLink RX10 341 yX0_copyFrom ∈ z_TB := z_TBm (List.mem_of_getElem? (i := 1277) (by decide +kernel)) rfl
theorem wl_L_177 : Cond.methodLink RL 177 yX10_undo ∈ z_TB := z_TBm (List.mem_of_getElem? (i := 1278) (by decide +kernel)) rfl
theorem wi_X10_undo : Cond.instanceMethod yX10_undo ∈ z_TB := z_TBm (List.mem_of_getElem? (i := 1279) (by decide +kernel)) rfl
theorem ws_X10_undo : Cond.selects RX10 yX10_undo yX10_undo ∈ z_TB := z_TBm (List.mem_of_getElem? (i := 1280) (by decide +kernel)) rfl
theorem wl_X10_344 : Cond.methodLink RX10 344 yX2_takeBack ∈ z_TB := z_TBm (List.mem_of_getElem? (i := 1282) (by decide +kernel)) rfl
theorem wi_X2_takeBack : Cond.instanceMethod yX2_takeBack ∈ z_TB := z_TBm (List.mem_of_getElem? (i := 1283) (by decide +kernel)) rfl
theorem ws_X2_takeBack : Cond.selects RX2 yX2_takeBack yX2_takeBack ∈ z_TB := z_TBm (List.mem_of_getElem? (i := 1284) (by decide +kernel)) rfl
theorem wl_L_181 : Cond.methodLink RL 181 yX10_image ∈ z_TB := z_TBm (List.mem_of_getElem? (i := 1286) (by decide +kernel)) rfl
theorem wi_X10_image : Cond.instanceMethod yX10_image ∈ z_TB := z_TBm (List.mem_of_getElem? (i := 1287) (by decide +kernel)) rfl
theorem ws_X10_image : Cond.selects RX10 yX10_image yX10_image ∈ z_TB := z_TBm (List.mem_of_getElem? (i := 1288) (by decide +kernel)) rfl
theorem wl_L_185 : Cond.methodLink RL 185 yX10_restore ∈ z_TB := z_TBm (List.mem_of_getElem? (i := 1290) (by decide +kernel)) rfl
theorem wi_X10_restore : Cond.instanceMethod yX10_restore ∈ z_TB := z_TBm (List.mem_of_getElem? (i := 1291) (by decide +kernel)) rfl
theorem ws_X10_restore : Cond.selects RX10 yX10_restore yX10_restore ∈ z_TB := z_TBm (List.mem_of_getElem? (i := 1292) (by decide +kernel)) rfl
theorem wl_L_54 : Cond.methodLink RL 54 yL_check ∈ z_TB := z_TBm (List.mem_of_getElem? (i := 1294) (by decide +kernel)) rfl
theorem wt_L_check : Cond.static yL_check ∈ z_TB := z_TBm (List.mem_of_getElem? (i := 1295) (by decide +kernel)) rfl
theorem wk_L_13 : Cond.classLink RL 13 "java/util/NoSuchElementException" ∈ z_TB := z_TBm (List.mem_of_getElem? (i := 1297) (by decide +kernel)) rfl
theorem wl_L_7 : Cond.methodLink RL 7 yX10_check ∈ z_TB := z_TBm (List.mem_of_getElem? (i := 1298) (by decide +kernel)) rfl
theorem wi_X10_check : Cond.instanceMethod yX10_check ∈ z_TB := z_TBm (List.mem_of_getElem? (i := 1299) (by decide +kernel)) rfl
theorem ws_X10_check : Cond.selects RX10 yX10_check yX10_check ∈ z_TB := z_TBm (List.mem_of_getElem? (i := 1300) (by decide +kernel)) rfl
theorem wk_X10_158 : Cond.classLink RX10 158 "java/util/NoSuchElementException" ∈ z_TB := z_TBm (List.mem_of_getElem? (i := 1302) (by decide +kernel)) rfl
theorem wl_X10_160 : Cond.methodLink RX10 160 ⟨"java/util/NoSuchElementException", "<init>", "()V"⟩ ∈ z_TB := z_TBm (List.mem_of_getElem? (i := 1341) (by decide +kernel)) rfl
theorem wl_L_63 : Cond.methodLink RL 63 yL_qubit ∈ z_TB := z_TBm (List.mem_of_getElem? (i := 1363) (by decide +kernel)) rfl
theorem wt_L_qubit : Cond.static yL_qubit ∈ z_TB := z_TBm (List.mem_of_getElem? (i := 1364) (by decide +kernel)) rfl
theorem wl_L_15 : Cond.methodLink RL 15 yX10_qubit ∈ z_TB := z_TBm (List.mem_of_getElem? (i := 1366) (by decide +kernel)) rfl
theorem wi_X10_qubit : Cond.instanceMethod yX10_qubit ∈ z_TB := z_TBm (List.mem_of_getElem? (i := 1367) (by decide +kernel)) rfl
theorem ws_X10_qubit : Cond.selects RX10 yX10_qubit yX10_qubit ∈ z_TB := z_TBm (List.mem_of_getElem? (i := 1368) (by decide +kernel)) rfl
theorem wl_X10_177 : Cond.methodLink RX10 177 yX9_checksOn ∈ z_TB := z_TBm (List.mem_of_getElem? (i := 1370) (by decide +kernel)) rfl
theorem wl_L_120 : Cond.methodLink RL 120 yL_edge ∈ z_TB := z_TBm (List.mem_of_getElem? (i := 1371) (by decide +kernel)) rfl
theorem wt_L_edge : Cond.static yL_edge ∈ z_TB := z_TBm (List.mem_of_getElem? (i := 1372) (by decide +kernel)) rfl
theorem wl_L_19 : Cond.methodLink RL 19 yX10_edge ∈ z_TB := z_TBm (List.mem_of_getElem? (i := 1374) (by decide +kernel)) rfl
theorem wi_X10_edge : Cond.instanceMethod yX10_edge ∈ z_TB := z_TBm (List.mem_of_getElem? (i := 1375) (by decide +kernel)) rfl
theorem ws_X10_edge : Cond.selects RX10 yX10_edge yX10_edge ∈ z_TB := z_TBm (List.mem_of_getElem? (i := 1376) (by decide +kernel)) rfl
theorem wl_L_60 : Cond.methodLink RL 60 yX11_thrown ∈ z_TB := z_TBm (List.mem_of_getElem? (i := 1378) (by decide +kernel)) rfl
theorem wi_X11_thrown : Cond.instanceMethod yX11_thrown ∈ z_TB := z_TBm (List.mem_of_getElem? (i := 1379) (by decide +kernel)) rfl
theorem ws_X11_thrown : Cond.selects RX11 yX11_thrown yX11_thrown ∈ z_TB := z_TBm (List.mem_of_getElem? (i := 1380) (by decide +kernel)) rfl
theorem wk_L_23 : Cond.classLink RL 23 "WovenKeeperModel" ∈ z_TB := z_TBm (List.mem_of_getElem? (i := 1382) (by decide +kernel)) rfl
theorem wb_X11 : Cond.instantiable RX11 66 ∈ z_TB := z_TBm (List.mem_of_getElem? (i := 1383) (by decide +kernel)) rfl
theorem wl_L_25 : Cond.methodLink RL 25 yX11_init ∈ z_TB := z_TBm (List.mem_of_getElem? (i := 1384) (by decide +kernel)) rfl
theorem wi_X11_init : Cond.instanceMethod yX11_init ∈ z_TB := z_TBm (List.mem_of_getElem? (i := 1385) (by decide +kernel)) rfl
theorem wl_X11_7 : Cond.methodLink RX11 7 ⟨"java/lang/Object", "<init>", "()V"⟩ ∈ z_TB := z_TBm (List.mem_of_getElem? (i := 1387) (by decide +kernel)) rfl
theorem wl_X11_127 : Cond.methodLink RX11 127 yX11_begins ∈ z_TB := z_TBm (List.mem_of_getElem? (i := 1388) (by decide +kernel)) rfl
theorem wi_X11_begins : Cond.instanceMethod yX11_begins ∈ z_TB := z_TBm (List.mem_of_getElem? (i := 1390) (by decide +kernel)) rfl
theorem wl_X11_131 : Cond.methodLink RX11 131 yX11_lays ∈ z_TB := z_TBm (List.mem_of_getElem? (i := 1392) (by decide +kernel)) rfl
theorem wi_X11_lays : Cond.instanceMethod yX11_lays ∈ z_TB := z_TBm (List.mem_of_getElem? (i := 1394) (by decide +kernel)) rfl
theorem wl_X11_148 : Cond.methodLink RX11 148 yX11_qubits ∈ z_TB := z_TBm (List.mem_of_getElem? (i := 1396) (by decide +kernel)) rfl
theorem wi_X11_qubits : Cond.instanceMethod yX11_qubits ∈ z_TB := z_TBm (List.mem_of_getElem? (i := 1398) (by decide +kernel)) rfl
theorem wl_X11_140 : Cond.methodLink RX11 140 yX11_d ∈ z_TB := z_TBm (List.mem_of_getElem? (i := 1400) (by decide +kernel)) rfl
theorem wi_X11_d : Cond.instanceMethod yX11_d ∈ z_TB := z_TBm (List.mem_of_getElem? (i := 1402) (by decide +kernel)) rfl
theorem wl_X11_154 : Cond.methodLink RX11 154 yX11_kindOn ∈ z_TB := z_TBm (List.mem_of_getElem? (i := 1404) (by decide +kernel)) rfl
theorem wi_X11_kindOn : Cond.instanceMethod yX11_kindOn ∈ z_TB := z_TBm (List.mem_of_getElem? (i := 1406) (by decide +kernel)) rfl
theorem wl_X11_144 : Cond.methodLink RX11 144 yX11_isIn ∈ z_TB := z_TBm (List.mem_of_getElem? (i := 1408) (by decide +kernel)) rfl
theorem wt_X11_isIn : Cond.static yX11_isIn ∈ z_TB := z_TBm (List.mem_of_getElem? (i := 1409) (by decide +kernel)) rfl
theorem wl_X11_158 : Cond.methodLink RX11 158 yX11_bitsOn ∈ z_TB := z_TBm (List.mem_of_getElem? (i := 1411) (by decide +kernel)) rfl
theorem wi_X11_bitsOn : Cond.instanceMethod yX11_bitsOn ∈ z_TB := z_TBm (List.mem_of_getElem? (i := 1413) (by decide +kernel)) rfl
theorem wl_X11_161 : Cond.methodLink RX11 161 yX11_bitOf ∈ z_TB := z_TBm (List.mem_of_getElem? (i := 1415) (by decide +kernel)) rfl
theorem wt_X11_bitOf : Cond.static yX11_bitOf ∈ z_TB := z_TBm (List.mem_of_getElem? (i := 1416) (by decide +kernel)) rfl
theorem wf_X11_1 : Cond.fieldLink RX11 1 (z_T 11 0).1 (z_T 11 0).2.1 (z_T 11 0).2.2.1 ∈ z_TB := z_TBm (List.mem_of_getElem? (i := 1418) (by decide +kernel)) rfl
theorem wf_X11_13 : Cond.fieldLink RX11 13 (z_T 11 1).1 (z_T 11 1).2.1 (z_T 11 1).2.2.1 ∈ z_TB := z_TBm (List.mem_of_getElem? (i := 1419) (by decide +kernel)) rfl
theorem wf_X11_17 : Cond.fieldLink RX11 17 (z_T 11 2).1 (z_T 11 2).2.1 (z_T 11 2).2.2.1 ∈ z_TB := z_TBm (List.mem_of_getElem? (i := 1420) (by decide +kernel)) rfl
theorem wf_X11_20 : Cond.fieldLink RX11 20 (z_T 11 3).1 (z_T 11 3).2.1 (z_T 11 3).2.2.1 ∈ z_TB := z_TBm (List.mem_of_getElem? (i := 1421) (by decide +kernel)) rfl
theorem wf_X11_23 : Cond.fieldLink RX11 23 (z_T 11 4).1 (z_T 11 4).2.1 (z_T 11 4).2.2.1 ∈ z_TB := z_TBm (List.mem_of_getElem? (i := 1422) (by decide +kernel)) rfl
theorem wf_X11_26 : Cond.fieldLink RX11 26 (z_T 11 5).1 (z_T 11 5).2.1 (z_T 11 5).2.2.1 ∈ z_TB := z_TBm (List.mem_of_getElem? (i := 1423) (by decide +kernel)) rfl
theorem wf_X11_180 : Cond.fieldLink RX11 180 (z_T 11 6).1 (z_T 11 6).2.1 (z_T 11 6).2.2.1 ∈ z_TB := z_TBm (List.mem_of_getElem? (i := 1424) (by decide +kernel)) rfl
theorem wf_X11_30 : Cond.fieldLink RX11 30 (z_T 11 7).1 (z_T 11 7).2.1 (z_T 11 7).2.2.1 ∈ z_TB := z_TBm (List.mem_of_getElem? (i := 1425) (by decide +kernel)) rfl
theorem wf_X11_134 : Cond.fieldLink RX11 134 (z_T 11 8).1 (z_T 11 8).2.1 (z_T 11 8).2.2.1 ∈ z_TB := z_TBm (List.mem_of_getElem? (i := 1426) (by decide +kernel)) rfl
theorem wf_X11_190 : Cond.fieldLink RX11 190 (z_T 11 9).1 (z_T 11 9).2.1 (z_T 11 9).2.2.1 ∈ z_TB := z_TBm (List.mem_of_getElem? (i := 1427) (by decide +kernel)) rfl
theorem wf_X11_34 : Cond.fieldLink RX11 34 (z_T 11 10).1 (z_T 11 10).2.1 (z_T 11 10).2.2.1 ∈ z_TB := z_TBm (List.mem_of_getElem? (i := 1428) (by decide +kernel)) rfl
theorem wf_X11_37 : Cond.fieldLink RX11 37 (z_T 11 11).1 (z_T 11 11).2.1 (z_T 11 11).2.2.1 ∈ z_TB := z_TBm (List.mem_of_getElem? (i := 1429) (by decide +kernel)) rfl
theorem wf_X11_40 : Cond.fieldLink RX11 40 (z_T 11 12).1 (z_T 11 12).2.1 (z_T 11 12).2.2.1 ∈ z_TB := z_TBm (List.mem_of_getElem? (i := 1430) (by decide +kernel)) rfl
theorem wf_X11_43 : Cond.fieldLink RX11 43 (z_T 11 13).1 (z_T 11 13).2.1 (z_T 11 13).2.2.1 ∈ z_TB := z_TBm (List.mem_of_getElem? (i := 1431) (by decide +kernel)) rfl
theorem wf_X11_151 : Cond.fieldLink RX11 151 (z_T 11 14).1 (z_T 11 14).2.1 (z_T 11 14).2.2.1 ∈ z_TB := z_TBm (List.mem_of_getElem? (i := 1432) (by decide +kernel)) rfl
theorem wf_X11_46 : Cond.fieldLink RX11 46 (z_T 11 15).1 (z_T 11 15).2.1 (z_T 11 15).2.2.1 ∈ z_TB := z_TBm (List.mem_of_getElem? (i := 1433) (by decide +kernel)) rfl
theorem wf_X11_49 : Cond.fieldLink RX11 49 (z_T 11 16).1 (z_T 11 16).2.1 (z_T 11 16).2.2.1 ∈ z_TB := z_TBm (List.mem_of_getElem? (i := 1434) (by decide +kernel)) rfl
theorem wf_X11_214 : Cond.fieldLink RX11 214 (z_T 11 17).1 (z_T 11 17).2.1 (z_T 11 17).2.2.1 ∈ z_TB := z_TBm (List.mem_of_getElem? (i := 1435) (by decide +kernel)) rfl
theorem wf_X11_217 : Cond.fieldLink RX11 217 (z_T 11 18).1 (z_T 11 18).2.1 (z_T 11 18).2.2.1 ∈ z_TB := z_TBm (List.mem_of_getElem? (i := 1436) (by decide +kernel)) rfl
theorem wf_X11_187 : Cond.fieldLink RX11 187 (z_T 11 19).1 (z_T 11 19).2.1 (z_T 11 19).2.2.1 ∈ z_TB := z_TBm (List.mem_of_getElem? (i := 1437) (by decide +kernel)) rfl
theorem wf_X11_193 : Cond.fieldLink RX11 193 (z_T 11 20).1 (z_T 11 20).2.1 (z_T 11 20).2.2.1 ∈ z_TB := z_TBm (List.mem_of_getElem? (i := 1438) (by decide +kernel)) rfl
theorem wf_X11_196 : Cond.fieldLink RX11 196 (z_T 11 21).1 (z_T 11 21).2.1 (z_T 11 21).2.2.1 ∈ z_TB := z_TBm (List.mem_of_getElem? (i := 1439) (by decide +kernel)) rfl
theorem wf_X11_205 : Cond.fieldLink RX11 205 (z_T 11 23).1 (z_T 11 23).2.1 (z_T 11 23).2.2.1 ∈ z_TB := z_TBm (List.mem_of_getElem? (i := 1440) (by decide +kernel)) rfl
theorem wf_X11_52 : Cond.fieldLink RX11 52 (z_T 11 24).1 (z_T 11 24).2.1 (z_T 11 24).2.2.1 ∈ z_TB := z_TBm (List.mem_of_getElem? (i := 1441) (by decide +kernel)) rfl
theorem wf_X11_55 : Cond.fieldLink RX11 55 (z_T 11 25).1 (z_T 11 25).2.1 (z_T 11 25).2.2.1 ∈ z_TB := z_TBm (List.mem_of_getElem? (i := 1442) (by decide +kernel)) rfl
theorem wf_X11_58 : Cond.fieldLink RX11 58 (z_T 11 26).1 (z_T 11 26).2.1 (z_T 11 26).2.2.1 ∈ z_TB := z_TBm (List.mem_of_getElem? (i := 1443) (by decide +kernel)) rfl
theorem wf_X11_61 : Cond.fieldLink RX11 61 (z_T 11 27).1 (z_T 11 27).2.1 (z_T 11 27).2.2.1 ∈ z_TB := z_TBm (List.mem_of_getElem? (i := 1444) (by decide +kernel)) rfl
theorem wf_X11_64 : Cond.fieldLink RX11 64 (z_T 11 28).1 (z_T 11 28).2.1 (z_T 11 28).2.2.1 ∈ z_TB := z_TBm (List.mem_of_getElem? (i := 1445) (by decide +kernel)) rfl
theorem wf_X11_67 : Cond.fieldLink RX11 67 (z_T 11 29).1 (z_T 11 29).2.1 (z_T 11 29).2.2.1 ∈ z_TB := z_TBm (List.mem_of_getElem? (i := 1446) (by decide +kernel)) rfl
theorem wf_X11_70 : Cond.fieldLink RX11 70 (z_T 11 30).1 (z_T 11 30).2.1 (z_T 11 30).2.2.1 ∈ z_TB := z_TBm (List.mem_of_getElem? (i := 1447) (by decide +kernel)) rfl
theorem wf_X11_251 : Cond.fieldLink RX11 251 (z_T 11 31).1 (z_T 11 31).2.1 (z_T 11 31).2.2.1 ∈ z_TB := z_TBm (List.mem_of_getElem? (i := 1448) (by decide +kernel)) rfl
theorem wf_X11_254 : Cond.fieldLink RX11 254 (z_T 11 32).1 (z_T 11 32).2.1 (z_T 11 32).2.2.1 ∈ z_TB := z_TBm (List.mem_of_getElem? (i := 1449) (by decide +kernel)) rfl
theorem wf_X11_257 : Cond.fieldLink RX11 257 (z_T 11 33).1 (z_T 11 33).2.1 (z_T 11 33).2.2.1 ∈ z_TB := z_TBm (List.mem_of_getElem? (i := 1450) (by decide +kernel)) rfl
theorem wf_X11_248 : Cond.fieldLink RX11 248 (z_T 11 34).1 (z_T 11 34).2.1 (z_T 11 34).2.2.1 ∈ z_TB := z_TBm (List.mem_of_getElem? (i := 1451) (by decide +kernel)) rfl
theorem wf_X11_73 : Cond.fieldLink RX11 73 (z_T 11 35).1 (z_T 11 35).2.1 (z_T 11 35).2.2.1 ∈ z_TB := z_TBm (List.mem_of_getElem? (i := 1452) (by decide +kernel)) rfl
theorem wf_X11_264 : Cond.fieldLink RX11 264 (z_T 11 36).1 (z_T 11 36).2.1 (z_T 11 36).2.2.1 ∈ z_TB := z_TBm (List.mem_of_getElem? (i := 1453) (by decide +kernel)) rfl
theorem wf_X11_76 : Cond.fieldLink RX11 76 (z_T 11 37).1 (z_T 11 37).2.1 (z_T 11 37).2.2.1 ∈ z_TB := z_TBm (List.mem_of_getElem? (i := 1454) (by decide +kernel)) rfl
theorem wf_X11_79 : Cond.fieldLink RX11 79 (z_T 11 38).1 (z_T 11 38).2.1 (z_T 11 38).2.2.1 ∈ z_TB := z_TBm (List.mem_of_getElem? (i := 1455) (by decide +kernel)) rfl
theorem wf_X11_82 : Cond.fieldLink RX11 82 (z_T 11 39).1 (z_T 11 39).2.1 (z_T 11 39).2.2.1 ∈ z_TB := z_TBm (List.mem_of_getElem? (i := 1456) (by decide +kernel)) rfl
theorem wf_X11_85 : Cond.fieldLink RX11 85 (z_T 11 40).1 (z_T 11 40).2.1 (z_T 11 40).2.2.1 ∈ z_TB := z_TBm (List.mem_of_getElem? (i := 1457) (by decide +kernel)) rfl
theorem wf_X11_88 : Cond.fieldLink RX11 88 (z_T 11 41).1 (z_T 11 41).2.1 (z_T 11 41).2.2.1 ∈ z_TB := z_TBm (List.mem_of_getElem? (i := 1458) (by decide +kernel)) rfl
theorem wf_X11_305 : Cond.fieldLink RX11 305 (z_T 11 42).1 (z_T 11 42).2.1 (z_T 11 42).2.2.1 ∈ z_TB := z_TBm (List.mem_of_getElem? (i := 1459) (by decide +kernel)) rfl
theorem wf_X11_91 : Cond.fieldLink RX11 91 (z_T 11 43).1 (z_T 11 43).2.1 (z_T 11 43).2.2.1 ∈ z_TB := z_TBm (List.mem_of_getElem? (i := 1460) (by decide +kernel)) rfl
theorem wf_X11_94 : Cond.fieldLink RX11 94 (z_T 11 44).1 (z_T 11 44).2.1 (z_T 11 44).2.2.1 ∈ z_TB := z_TBm (List.mem_of_getElem? (i := 1461) (by decide +kernel)) rfl
theorem wf_X11_97 : Cond.fieldLink RX11 97 (z_T 11 45).1 (z_T 11 45).2.1 (z_T 11 45).2.2.1 ∈ z_TB := z_TBm (List.mem_of_getElem? (i := 1462) (by decide +kernel)) rfl
theorem wf_X11_100 : Cond.fieldLink RX11 100 (z_T 11 46).1 (z_T 11 46).2.1 (z_T 11 46).2.2.1 ∈ z_TB := z_TBm (List.mem_of_getElem? (i := 1463) (by decide +kernel)) rfl
theorem wf_X11_103 : Cond.fieldLink RX11 103 (z_T 11 47).1 (z_T 11 47).2.1 (z_T 11 47).2.2.1 ∈ z_TB := z_TBm (List.mem_of_getElem? (i := 1464) (by decide +kernel)) rfl
theorem wf_X11_106 : Cond.fieldLink RX11 106 (z_T 11 48).1 (z_T 11 48).2.1 (z_T 11 48).2.2.1 ∈ z_TB := z_TBm (List.mem_of_getElem? (i := 1465) (by decide +kernel)) rfl
theorem wf_X11_109 : Cond.fieldLink RX11 109 (z_T 11 49).1 (z_T 11 49).2.1 (z_T 11 49).2.2.1 ∈ z_TB := z_TBm (List.mem_of_getElem? (i := 1466) (by decide +kernel)) rfl
theorem wf_X11_311 : Cond.fieldLink RX11 311 (z_T 11 50).1 (z_T 11 50).2.1 (z_T 11 50).2.2.1 ∈ z_TB := z_TBm (List.mem_of_getElem? (i := 1467) (by decide +kernel)) rfl
theorem wf_X11_324 : Cond.fieldLink RX11 324 (z_T 11 51).1 (z_T 11 51).2.1 (z_T 11 51).2.2.1 ∈ z_TB := z_TBm (List.mem_of_getElem? (i := 1468) (by decide +kernel)) rfl
theorem wf_X11_327 : Cond.fieldLink RX11 327 (z_T 11 52).1 (z_T 11 52).2.1 (z_T 11 52).2.2.1 ∈ z_TB := z_TBm (List.mem_of_getElem? (i := 1469) (by decide +kernel)) rfl
theorem wf_X11_333 : Cond.fieldLink RX11 333 (z_T 11 53).1 (z_T 11 53).2.1 (z_T 11 53).2.2.1 ∈ z_TB := z_TBm (List.mem_of_getElem? (i := 1470) (by decide +kernel)) rfl
theorem wf_X11_112 : Cond.fieldLink RX11 112 (z_T 11 54).1 (z_T 11 54).2.1 (z_T 11 54).2.2.1 ∈ z_TB := z_TBm (List.mem_of_getElem? (i := 1471) (by decide +kernel)) rfl
theorem wf_X11_115 : Cond.fieldLink RX11 115 (z_T 11 55).1 (z_T 11 55).2.1 (z_T 11 55).2.2.1 ∈ z_TB := z_TBm (List.mem_of_getElem? (i := 1472) (by decide +kernel)) rfl
theorem wf_X11_342 : Cond.fieldLink RX11 342 (z_T 11 56).1 (z_T 11 56).2.1 (z_T 11 56).2.2.1 ∈ z_TB := z_TBm (List.mem_of_getElem? (i := 1473) (by decide +kernel)) rfl
theorem wf_X11_118 : Cond.fieldLink RX11 118 (z_T 11 57).1 (z_T 11 57).2.1 (z_T 11 57).2.2.1 ∈ z_TB := z_TBm (List.mem_of_getElem? (i := 1474) (by decide +kernel)) rfl
theorem wf_X11_121 : Cond.fieldLink RX11 121 (z_T 11 58).1 (z_T 11 58).2.1 (z_T 11 58).2.2.1 ∈ z_TB := z_TBm (List.mem_of_getElem? (i := 1475) (by decide +kernel)) rfl
theorem wf_X11_355 : Cond.fieldLink RX11 355 (z_T 11 59).1 (z_T 11 59).2.1 (z_T 11 59).2.2.1 ∈ z_TB := z_TBm (List.mem_of_getElem? (i := 1476) (by decide +kernel)) rfl
theorem wf_X11_358 : Cond.fieldLink RX11 358 (z_T 11 60).1 (z_T 11 60).2.1 (z_T 11 60).2.2.1 ∈ z_TB := z_TBm (List.mem_of_getElem? (i := 1477) (by decide +kernel)) rfl
theorem wf_X11_364 : Cond.fieldLink RX11 364 (z_T 11 61).1 (z_T 11 61).2.1 (z_T 11 61).2.2.1 ∈ z_TB := z_TBm (List.mem_of_getElem? (i := 1478) (by decide +kernel)) rfl
theorem wf_X11_388 : Cond.fieldLink RX11 388 (z_T 11 62).1 (z_T 11 62).2.1 (z_T 11 62).2.2.1 ∈ z_TB := z_TBm (List.mem_of_getElem? (i := 1479) (by decide +kernel)) rfl
theorem wf_X11_397 : Cond.fieldLink RX11 397 (z_T 11 63).1 (z_T 11 63).2.1 (z_T 11 63).2.2.1 ∈ z_TB := z_TBm (List.mem_of_getElem? (i := 1480) (by decide +kernel)) rfl
theorem wf_X11_124 : Cond.fieldLink RX11 124 (z_T 11 64).1 (z_T 11 64).2.1 (z_T 11 64).2.2.1 ∈ z_TB := z_TBm (List.mem_of_getElem? (i := 1481) (by decide +kernel)) rfl
theorem wf_X11_410 : Cond.fieldLink RX11 410 (z_T 11 65).1 (z_T 11 65).2.1 (z_T 11 65).2.2.1 ∈ z_TB := z_TBm (List.mem_of_getElem? (i := 1482) (by decide +kernel)) rfl
theorem wl_L_30 : Cond.methodLink RL 30 yX11_feed ∈ z_TB := z_TBm (List.mem_of_getElem? (i := 1616) (by decide +kernel)) rfl
theorem wi_X11_feed : Cond.instanceMethod yX11_feed ∈ z_TB := z_TBm (List.mem_of_getElem? (i := 1617) (by decide +kernel)) rfl
theorem ws_X11_feed : Cond.selects RX11 yX11_feed yX11_feed ∈ z_TB := z_TBm (List.mem_of_getElem? (i := 1618) (by decide +kernel)) rfl
theorem wl_X11_137 : Cond.methodLink RX11 137 yX11_four ∈ z_TB := z_TBm (List.mem_of_getElem? (i := 1620) (by decide +kernel)) rfl
theorem wi_X11_four : Cond.instanceMethod yX11_four ∈ z_TB := z_TBm (List.mem_of_getElem? (i := 1622) (by decide +kernel)) rfl
theorem wl_L_35 : Cond.methodLink RL 35 yX11_end ∈ z_TB := z_TBm (List.mem_of_getElem? (i := 1624) (by decide +kernel)) rfl
theorem wi_X11_end : Cond.instanceMethod yX11_end ∈ z_TB := z_TBm (List.mem_of_getElem? (i := 1625) (by decide +kernel)) rfl
theorem ws_X11_end : Cond.selects RX11 yX11_end yX11_end ∈ z_TB := z_TBm (List.mem_of_getElem? (i := 1626) (by decide +kernel)) rfl
theorem wl_L_180 : Cond.methodLink RL 180 yX11_undo ∈ z_TB := z_TBm (List.mem_of_getElem? (i := 1628) (by decide +kernel)) rfl
theorem wi_X11_undo : Cond.instanceMethod yX11_undo ∈ z_TB := z_TBm (List.mem_of_getElem? (i := 1629) (by decide +kernel)) rfl
theorem ws_X11_undo : Cond.selects RX11 yX11_undo yX11_undo ∈ z_TB := z_TBm (List.mem_of_getElem? (i := 1630) (by decide +kernel)) rfl
theorem wl_X11_183 : Cond.methodLink RX11 183 yX11_copies ∈ z_TB := z_TBm (List.mem_of_getElem? (i := 1632) (by decide +kernel)) rfl
theorem wi_X11_copies : Cond.instanceMethod yX11_copies ∈ z_TB := z_TBm (List.mem_of_getElem? (i := 1634) (by decide +kernel)) rfl
theorem wl_L_184 : Cond.methodLink RL 184 yX11_image ∈ z_TB := z_TBm (List.mem_of_getElem? (i := 1636) (by decide +kernel)) rfl
theorem wi_X11_image : Cond.instanceMethod yX11_image ∈ z_TB := z_TBm (List.mem_of_getElem? (i := 1637) (by decide +kernel)) rfl
theorem ws_X11_image : Cond.selects RX11 yX11_image yX11_image ∈ z_TB := z_TBm (List.mem_of_getElem? (i := 1638) (by decide +kernel)) rfl
theorem wl_L_188 : Cond.methodLink RL 188 yX11_restore ∈ z_TB := z_TBm (List.mem_of_getElem? (i := 1640) (by decide +kernel)) rfl
theorem wi_X11_restore : Cond.instanceMethod yX11_restore ∈ z_TB := z_TBm (List.mem_of_getElem? (i := 1641) (by decide +kernel)) rfl
theorem ws_X11_restore : Cond.selects RX11 yX11_restore yX11_restore ∈ z_TB := z_TBm (List.mem_of_getElem? (i := 1642) (by decide +kernel)) rfl
theorem wl_L_40 : Cond.methodLink RL 40 yX11_code ∈ z_TB := z_TBm (List.mem_of_getElem? (i := 1644) (by decide +kernel)) rfl
theorem wi_X11_code : Cond.instanceMethod yX11_code ∈ z_TB := z_TBm (List.mem_of_getElem? (i := 1645) (by decide +kernel)) rfl
theorem ws_X11_code : Cond.selects RX11 yX11_code yX11_code ∈ z_TB := z_TBm (List.mem_of_getElem? (i := 1646) (by decide +kernel)) rfl
theorem wl_L_45 : Cond.methodLink RL 45 yX11_work ∈ z_TB := z_TBm (List.mem_of_getElem? (i := 1648) (by decide +kernel)) rfl
theorem wi_X11_work : Cond.instanceMethod yX11_work ∈ z_TB := z_TBm (List.mem_of_getElem? (i := 1649) (by decide +kernel)) rfl
theorem ws_X11_work : Cond.selects RX11 yX11_work yX11_work ∈ z_TB := z_TBm (List.mem_of_getElem? (i := 1650) (by decide +kernel)) rfl
theorem wl_X11_208 : Cond.methodLink RX11 208 yX11_bad ∈ z_TB := z_TBm (List.mem_of_getElem? (i := 1652) (by decide +kernel)) rfl
theorem wi_X11_bad : Cond.instanceMethod yX11_bad ∈ z_TB := z_TBm (List.mem_of_getElem? (i := 1654) (by decide +kernel)) rfl
theorem wl_X11_239 : Cond.methodLink RX11 239 yX11_reads ∈ z_TB := z_TBm (List.mem_of_getElem? (i := 1656) (by decide +kernel)) rfl
theorem wi_X11_reads : Cond.instanceMethod yX11_reads ∈ z_TB := z_TBm (List.mem_of_getElem? (i := 1658) (by decide +kernel)) rfl
theorem wl_X11_199 : Cond.methodLink RX11 199 yX11_peek ∈ z_TB := z_TBm (List.mem_of_getElem? (i := 1660) (by decide +kernel)) rfl
theorem wi_X11_peek : Cond.instanceMethod yX11_peek ∈ z_TB := z_TBm (List.mem_of_getElem? (i := 1662) (by decide +kernel)) rfl
theorem wl_X11_226 : Cond.methodLink RX11 226 yX11_sign ∈ z_TB := z_TBm (List.mem_of_getElem? (i := 1664) (by decide +kernel)) rfl
theorem wi_X11_sign : Cond.instanceMethod yX11_sign ∈ z_TB := z_TBm (List.mem_of_getElem? (i := 1666) (by decide +kernel)) rfl
theorem wl_X11_229 : Cond.methodLink RX11 229 yX11_step ∈ z_TB := z_TBm (List.mem_of_getElem? (i := 1668) (by decide +kernel)) rfl
theorem wi_X11_step : Cond.instanceMethod yX11_step ∈ z_TB := z_TBm (List.mem_of_getElem? (i := 1670) (by decide +kernel)) rfl
theorem wl_X11_211 : Cond.methodLink RX11 211 yX11_wordHere ∈ z_TB := z_TBm (List.mem_of_getElem? (i := 1672) (by decide +kernel)) rfl
theorem wi_X11_wordHere : Cond.instanceMethod yX11_wordHere ∈ z_TB := z_TBm (List.mem_of_getElem? (i := 1674) (by decide +kernel)) rfl
theorem wf_X11_202 : Cond.fieldLink RX11 202 "WovenKeeperModel" "WORDS" "[B" ∈ z_TB := z_TBm (List.mem_of_getElem? (i := 1676) (by decide +kernel)) rfl
theorem wl_X11_220 : Cond.methodLink RX11 220 yX11_kind ∈ z_TB := z_TBm (List.mem_of_getElem? (i := 1678) (by decide +kernel)) rfl
theorem wi_X11_kind : Cond.instanceMethod yX11_kind ∈ z_TB := z_TBm (List.mem_of_getElem? (i := 1680) (by decide +kernel)) rfl
theorem wl_X11_223 : Cond.methodLink RX11 223 yX11_number ∈ z_TB := z_TBm (List.mem_of_getElem? (i := 1682) (by decide +kernel)) rfl
theorem wi_X11_number : Cond.instanceMethod yX11_number ∈ z_TB := z_TBm (List.mem_of_getElem? (i := 1684) (by decide +kernel)) rfl
theorem wl_X11_242 : Cond.methodLink RX11 242 yX11_keeps ∈ z_TB := z_TBm (List.mem_of_getElem? (i := 1686) (by decide +kernel)) rfl
theorem wi_X11_keeps : Cond.instanceMethod yX11_keeps ∈ z_TB := z_TBm (List.mem_of_getElem? (i := 1688) (by decide +kernel)) rfl
theorem wl_X11_245 : Cond.methodLink RX11 245 yX11_doesAll ∈ z_TB := z_TBm (List.mem_of_getElem? (i := 1690) (by decide +kernel)) rfl
theorem wi_X11_doesAll : Cond.instanceMethod yX11_doesAll ∈ z_TB := z_TBm (List.mem_of_getElem? (i := 1692) (by decide +kernel)) rfl
theorem wl_X11_236 : Cond.methodLink RX11 236 yX11_does ∈ z_TB := z_TBm (List.mem_of_getElem? (i := 1694) (by decide +kernel)) rfl
theorem wi_X11_does : Cond.instanceMethod yX11_does ∈ z_TB := z_TBm (List.mem_of_getElem? (i := 1696) (by decide +kernel)) rfl
theorem wl_X11_233 : Cond.methodLink RX11 233 yX11_round ∈ z_TB := z_TBm (List.mem_of_getElem? (i := 1698) (by decide +kernel)) rfl
theorem wi_X11_round : Cond.instanceMethod yX11_round ∈ z_TB := z_TBm (List.mem_of_getElem? (i := 1700) (by decide +kernel)) rfl
theorem wl_X11_177 : Cond.methodLink RX11 177 yX11_loud ∈ z_TB := z_TBm (List.mem_of_getElem? (i := 1702) (by decide +kernel)) rfl
theorem wi_X11_loud : Cond.instanceMethod yX11_loud ∈ z_TB := z_TBm (List.mem_of_getElem? (i := 1704) (by decide +kernel)) rfl
theorem wl_X11_169 : Cond.methodLink RX11 169 yX11_bits ∈ z_TB := z_TBm (List.mem_of_getElem? (i := 1706) (by decide +kernel)) rfl
theorem wt_X11_bits : Cond.static yX11_bits ∈ z_TB := z_TBm (List.mem_of_getElem? (i := 1707) (by decide +kernel)) rfl
theorem wl_L_49 : Cond.methodLink RL 49 yX11_fault ∈ z_TB := z_TBm (List.mem_of_getElem? (i := 1709) (by decide +kernel)) rfl
theorem wi_X11_fault : Cond.instanceMethod yX11_fault ∈ z_TB := z_TBm (List.mem_of_getElem? (i := 1710) (by decide +kernel)) rfl
theorem ws_X11_fault : Cond.selects RX11 yX11_fault yX11_fault ∈ z_TB := z_TBm (List.mem_of_getElem? (i := 1711) (by decide +kernel)) rfl
theorem wl_L_74 : Cond.methodLink RL 74 yX11_events ∈ z_TB := z_TBm (List.mem_of_getElem? (i := 1713) (by decide +kernel)) rfl
theorem wi_X11_events : Cond.instanceMethod yX11_events ∈ z_TB := z_TBm (List.mem_of_getElem? (i := 1714) (by decide +kernel)) rfl
theorem ws_X11_events : Cond.selects RX11 yX11_events yX11_events ∈ z_TB := z_TBm (List.mem_of_getElem? (i := 1715) (by decide +kernel)) rfl
theorem wl_X11_165 : Cond.methodLink RX11 165 yX11_isKind ∈ z_TB := z_TBm (List.mem_of_getElem? (i := 1717) (by decide +kernel)) rfl
theorem wt_X11_isKind : Cond.static yX11_isKind ∈ z_TB := z_TBm (List.mem_of_getElem? (i := 1718) (by decide +kernel)) rfl
theorem wl_X11_270 : Cond.methodLink RX11 270 yX11_laysNet ∈ z_TB := z_TBm (List.mem_of_getElem? (i := 1720) (by decide +kernel)) rfl
theorem wi_X11_laysNet : Cond.instanceMethod yX11_laysNet ∈ z_TB := z_TBm (List.mem_of_getElem? (i := 1722) (by decide +kernel)) rfl
theorem wl_X11_260 : Cond.methodLink RX11 260 yX11_layer ∈ z_TB := z_TBm (List.mem_of_getElem? (i := 1724) (by decide +kernel)) rfl
theorem wi_X11_layer : Cond.instanceMethod yX11_layer ∈ z_TB := z_TBm (List.mem_of_getElem? (i := 1726) (by decide +kernel)) rfl
theorem wl_L_78 : Cond.methodLink RL 78 yX11_event ∈ z_TB := z_TBm (List.mem_of_getElem? (i := 1728) (by decide +kernel)) rfl
theorem wi_X11_event : Cond.instanceMethod yX11_event ∈ z_TB := z_TBm (List.mem_of_getElem? (i := 1729) (by decide +kernel)) rfl
theorem ws_X11_event : Cond.selects RX11 yX11_event yX11_event ∈ z_TB := z_TBm (List.mem_of_getElem? (i := 1730) (by decide +kernel)) rfl
theorem wl_L_82 : Cond.methodLink RL 82 yX11_far ∈ z_TB := z_TBm (List.mem_of_getElem? (i := 1732) (by decide +kernel)) rfl
theorem wi_X11_far : Cond.instanceMethod yX11_far ∈ z_TB := z_TBm (List.mem_of_getElem? (i := 1733) (by decide +kernel)) rfl
theorem ws_X11_far : Cond.selects RX11 yX11_far yX11_far ∈ z_TB := z_TBm (List.mem_of_getElem? (i := 1734) (by decide +kernel)) rfl
theorem wl_X11_276 : Cond.methodLink RX11 276 yX11_isPair ∈ z_TB := z_TBm (List.mem_of_getElem? (i := 1736) (by decide +kernel)) rfl
theorem wi_X11_isPair : Cond.instanceMethod yX11_isPair ∈ z_TB := z_TBm (List.mem_of_getElem? (i := 1738) (by decide +kernel)) rfl
theorem wl_X11_279 : Cond.methodLink RX11 279 yX11_aims ∈ z_TB := z_TBm (List.mem_of_getElem? (i := 1740) (by decide +kernel)) rfl
theorem wi_X11_aims : Cond.instanceMethod yX11_aims ∈ z_TB := z_TBm (List.mem_of_getElem? (i := 1742) (by decide +kernel)) rfl
theorem wl_X11_273 : Cond.methodLink RX11 273 yX11_laysLeft ∈ z_TB := z_TBm (List.mem_of_getElem? (i := 1744) (by decide +kernel)) rfl
theorem wi_X11_laysLeft : Cond.instanceMethod yX11_laysLeft ∈ z_TB := z_TBm (List.mem_of_getElem? (i := 1746) (by decide +kernel)) rfl
theorem wc_X11_263 : Cond.constant RX11 263 (1000000) ∈ z_TB := z_TBm (List.mem_of_getElem? (i := 1748) (by decide +kernel)) rfl
theorem wl_L_87 : Cond.methodLink RL 87 yX11_way ∈ z_TB := z_TBm (List.mem_of_getElem? (i := 1749) (by decide +kernel)) rfl
theorem wi_X11_way : Cond.instanceMethod yX11_way ∈ z_TB := z_TBm (List.mem_of_getElem? (i := 1750) (by decide +kernel)) rfl
theorem ws_X11_way : Cond.selects RX11 yX11_way yX11_way ∈ z_TB := z_TBm (List.mem_of_getElem? (i := 1751) (by decide +kernel)) rfl
theorem wl_X11_282 : Cond.methodLink RX11 282 yX11_laysWay ∈ z_TB := z_TBm (List.mem_of_getElem? (i := 1753) (by decide +kernel)) rfl
theorem wi_X11_laysWay : Cond.instanceMethod yX11_laysWay ∈ z_TB := z_TBm (List.mem_of_getElem? (i := 1755) (by decide +kernel)) rfl
theorem wl_X11_267 : Cond.methodLink RX11 267 yX11_leads ∈ z_TB := z_TBm (List.mem_of_getElem? (i := 1757) (by decide +kernel)) rfl
theorem wi_X11_leads : Cond.instanceMethod yX11_leads ∈ z_TB := z_TBm (List.mem_of_getElem? (i := 1759) (by decide +kernel)) rfl
theorem wl_L_119 : Cond.methodLink RL 119 yX11_edges ∈ z_TB := z_TBm (List.mem_of_getElem? (i := 1761) (by decide +kernel)) rfl
theorem wi_X11_edges : Cond.instanceMethod yX11_edges ∈ z_TB := z_TBm (List.mem_of_getElem? (i := 1762) (by decide +kernel)) rfl
theorem ws_X11_edges : Cond.selects RX11 yX11_edges yX11_edges ∈ z_TB := z_TBm (List.mem_of_getElem? (i := 1763) (by decide +kernel)) rfl
theorem wl_L_122 : Cond.methodLink RL 122 yX11_edge ∈ z_TB := z_TBm (List.mem_of_getElem? (i := 1765) (by decide +kernel)) rfl
theorem wi_X11_edge : Cond.instanceMethod yX11_edge ∈ z_TB := z_TBm (List.mem_of_getElem? (i := 1766) (by decide +kernel)) rfl
theorem ws_X11_edge : Cond.selects RX11 yX11_edge yX11_edge ∈ z_TB := z_TBm (List.mem_of_getElem? (i := 1767) (by decide +kernel)) rfl
theorem wl_X11_285 : Cond.methodLink RX11 285 yX11_throwsIf ∈ z_TB := z_TBm (List.mem_of_getElem? (i := 1769) (by decide +kernel)) rfl
theorem wi_X11_throwsIf : Cond.instanceMethod yX11_throwsIf ∈ z_TB := z_TBm (List.mem_of_getElem? (i := 1771) (by decide +kernel)) rfl
theorem wl_L_91 : Cond.methodLink RL 91 yX11_pair ∈ z_TB := z_TBm (List.mem_of_getElem? (i := 1773) (by decide +kernel)) rfl
theorem wi_X11_pair : Cond.instanceMethod yX11_pair ∈ z_TB := z_TBm (List.mem_of_getElem? (i := 1774) (by decide +kernel)) rfl
theorem ws_X11_pair : Cond.selects RX11 yX11_pair yX11_pair ∈ z_TB := z_TBm (List.mem_of_getElem? (i := 1775) (by decide +kernel)) rfl
theorem wl_X11_299 : Cond.methodLink RX11 299 yX11_pairs ∈ z_TB := z_TBm (List.mem_of_getElem? (i := 1777) (by decide +kernel)) rfl
theorem wi_X11_pairs : Cond.instanceMethod yX11_pairs ∈ z_TB := z_TBm (List.mem_of_getElem? (i := 1779) (by decide +kernel)) rfl
theorem wl_X11_289 : Cond.methodLink RX11 289 yX11_best ∈ z_TB := z_TBm (List.mem_of_getElem? (i := 1781) (by decide +kernel)) rfl
theorem wi_X11_best : Cond.instanceMethod yX11_best ∈ z_TB := z_TBm (List.mem_of_getElem? (i := 1783) (by decide +kernel)) rfl
theorem wl_X11_292 : Cond.methodLink RX11 292 yX11_lowest ∈ z_TB := z_TBm (List.mem_of_getElem? (i := 1785) (by decide +kernel)) rfl
theorem wt_X11_lowest : Cond.static yX11_lowest ∈ z_TB := z_TBm (List.mem_of_getElem? (i := 1786) (by decide +kernel)) rfl
theorem wl_X11_295 : Cond.methodLink RX11 295 yX11_costOf ∈ z_TB := z_TBm (List.mem_of_getElem? (i := 1788) (by decide +kernel)) rfl
theorem wi_X11_costOf : Cond.instanceMethod yX11_costOf ∈ z_TB := z_TBm (List.mem_of_getElem? (i := 1790) (by decide +kernel)) rfl
theorem wl_X11_302 : Cond.methodLink RX11 302 yX11_chooses ∈ z_TB := z_TBm (List.mem_of_getElem? (i := 1792) (by decide +kernel)) rfl
theorem wi_X11_chooses : Cond.instanceMethod yX11_chooses ∈ z_TB := z_TBm (List.mem_of_getElem? (i := 1794) (by decide +kernel)) rfl
theorem wl_L_95 : Cond.methodLink RL 95 yX11_partner ∈ z_TB := z_TBm (List.mem_of_getElem? (i := 1796) (by decide +kernel)) rfl
theorem wi_X11_partner : Cond.instanceMethod yX11_partner ∈ z_TB := z_TBm (List.mem_of_getElem? (i := 1797) (by decide +kernel)) rfl
theorem ws_X11_partner : Cond.selects RX11 yX11_partner yX11_partner ∈ z_TB := z_TBm (List.mem_of_getElem? (i := 1798) (by decide +kernel)) rfl
theorem wl_L_99 : Cond.methodLink RL 99 yX11_pairings ∈ z_TB := z_TBm (List.mem_of_getElem? (i := 1800) (by decide +kernel)) rfl
theorem wi_X11_pairings : Cond.instanceMethod yX11_pairings ∈ z_TB := z_TBm (List.mem_of_getElem? (i := 1801) (by decide +kernel)) rfl
theorem ws_X11_pairings : Cond.selects RX11 yX11_pairings yX11_pairings ∈ z_TB := z_TBm (List.mem_of_getElem? (i := 1802) (by decide +kernel)) rfl
theorem wl_L_103 : Cond.methodLink RL 103 yX11_grow ∈ z_TB := z_TBm (List.mem_of_getElem? (i := 1804) (by decide +kernel)) rfl
theorem wi_X11_grow : Cond.instanceMethod yX11_grow ∈ z_TB := z_TBm (List.mem_of_getElem? (i := 1805) (by decide +kernel)) rfl
theorem ws_X11_grow : Cond.selects RX11 yX11_grow yX11_grow ∈ z_TB := z_TBm (List.mem_of_getElem? (i := 1806) (by decide +kernel)) rfl
theorem wl_X11_339 : Cond.methodLink RX11 339 yX11_grows ∈ z_TB := z_TBm (List.mem_of_getElem? (i := 1808) (by decide +kernel)) rfl
theorem wi_X11_grows : Cond.instanceMethod yX11_grows ∈ z_TB := z_TBm (List.mem_of_getElem? (i := 1810) (by decide +kernel)) rfl
theorem wl_X11_314 : Cond.methodLink RX11 314 yX11_counts ∈ z_TB := z_TBm (List.mem_of_getElem? (i := 1812) (by decide +kernel)) rfl
theorem wi_X11_counts : Cond.instanceMethod yX11_counts ∈ z_TB := z_TBm (List.mem_of_getElem? (i := 1814) (by decide +kernel)) rfl
theorem wl_X11_308 : Cond.methodLink RX11 308 yX11_leaderOf ∈ z_TB := z_TBm (List.mem_of_getElem? (i := 1816) (by decide +kernel)) rfl
theorem wi_X11_leaderOf : Cond.instanceMethod yX11_leaderOf ∈ z_TB := z_TBm (List.mem_of_getElem? (i := 1818) (by decide +kernel)) rfl
theorem wl_X11_317 : Cond.methodLink RX11 317 yX11_opens ∈ z_TB := z_TBm (List.mem_of_getElem? (i := 1820) (by decide +kernel)) rfl
theorem wi_X11_opens : Cond.instanceMethod yX11_opens ∈ z_TB := z_TBm (List.mem_of_getElem? (i := 1822) (by decide +kernel)) rfl
theorem wl_X11_320 : Cond.methodLink RX11 320 yX11_unites ∈ z_TB := z_TBm (List.mem_of_getElem? (i := 1824) (by decide +kernel)) rfl
theorem wi_X11_unites : Cond.instanceMethod yX11_unites ∈ z_TB := z_TBm (List.mem_of_getElem? (i := 1826) (by decide +kernel)) rfl
theorem wl_X11_330 : Cond.methodLink RX11 330 yX11_peels ∈ z_TB := z_TBm (List.mem_of_getElem? (i := 1828) (by decide +kernel)) rfl
theorem wi_X11_peels : Cond.instanceMethod yX11_peels ∈ z_TB := z_TBm (List.mem_of_getElem? (i := 1830) (by decide +kernel)) rfl
theorem wl_X11_336 : Cond.methodLink RX11 336 yX11_side ∈ z_TB := z_TBm (List.mem_of_getElem? (i := 1832) (by decide +kernel)) rfl
theorem wi_X11_side : Cond.instanceMethod yX11_side ∈ z_TB := z_TBm (List.mem_of_getElem? (i := 1834) (by decide +kernel)) rfl
theorem wl_L_107 : Cond.methodLink RL 107 yX11_grown ∈ z_TB := z_TBm (List.mem_of_getElem? (i := 1836) (by decide +kernel)) rfl
theorem wi_X11_grown : Cond.instanceMethod yX11_grown ∈ z_TB := z_TBm (List.mem_of_getElem? (i := 1837) (by decide +kernel)) rfl
theorem ws_X11_grown : Cond.selects RX11 yX11_grown yX11_grown ∈ z_TB := z_TBm (List.mem_of_getElem? (i := 1838) (by decide +kernel)) rfl
theorem wl_L_111 : Cond.methodLink RL 111 yX11_peeledAt ∈ z_TB := z_TBm (List.mem_of_getElem? (i := 1840) (by decide +kernel)) rfl
theorem wi_X11_peeledAt : Cond.instanceMethod yX11_peeledAt ∈ z_TB := z_TBm (List.mem_of_getElem? (i := 1841) (by decide +kernel)) rfl
theorem ws_X11_peeledAt : Cond.selects RX11 yX11_peeledAt yX11_peeledAt ∈ z_TB := z_TBm (List.mem_of_getElem? (i := 1842) (by decide +kernel)) rfl
theorem wl_L_115 : Cond.methodLink RL 115 yX11_blame ∈ z_TB := z_TBm (List.mem_of_getElem? (i := 1844) (by decide +kernel)) rfl
theorem wi_X11_blame : Cond.instanceMethod yX11_blame ∈ z_TB := z_TBm (List.mem_of_getElem? (i := 1845) (by decide +kernel)) rfl
theorem ws_X11_blame : Cond.selects RX11 yX11_blame yX11_blame ∈ z_TB := z_TBm (List.mem_of_getElem? (i := 1846) (by decide +kernel)) rfl
theorem wl_X11_349 : Cond.methodLink RX11 349 yX11_lays_ ∈ z_TB := z_TBm (List.mem_of_getElem? (i := 1848) (by decide +kernel)) rfl
theorem wi_X11_lays_ : Cond.instanceMethod yX11_lays_ ∈ z_TB := z_TBm (List.mem_of_getElem? (i := 1850) (by decide +kernel)) rfl
theorem wl_X11_346 : Cond.methodLink RX11 346 yX11_goesWay ∈ z_TB := z_TBm (List.mem_of_getElem? (i := 1852) (by decide +kernel)) rfl
theorem wi_X11_goesWay : Cond.instanceMethod yX11_goesWay ∈ z_TB := z_TBm (List.mem_of_getElem? (i := 1854) (by decide +kernel)) rfl
theorem wl_X11_351 : Cond.methodLink RX11 351 yX11_gone ∈ z_TB := z_TBm (List.mem_of_getElem? (i := 1856) (by decide +kernel)) rfl
theorem wi_X11_gone : Cond.instanceMethod yX11_gone ∈ z_TB := z_TBm (List.mem_of_getElem? (i := 1858) (by decide +kernel)) rfl
theorem wl_L_142 : Cond.methodLink RL 142 yX11_like ∈ z_TB := z_TBm (List.mem_of_getElem? (i := 1860) (by decide +kernel)) rfl
theorem wi_X11_like : Cond.instanceMethod yX11_like ∈ z_TB := z_TBm (List.mem_of_getElem? (i := 1861) (by decide +kernel)) rfl
theorem ws_X11_like : Cond.selects RX11 yX11_like yX11_like ∈ z_TB := z_TBm (List.mem_of_getElem? (i := 1862) (by decide +kernel)) rfl
theorem wl_X11_373 : Cond.methodLink RX11 373 yX11_isLike ∈ z_TB := z_TBm (List.mem_of_getElem? (i := 1864) (by decide +kernel)) rfl
theorem wi_X11_isLike : Cond.instanceMethod yX11_isLike ∈ z_TB := z_TBm (List.mem_of_getElem? (i := 1866) (by decide +kernel)) rfl
theorem wl_X11_376 : Cond.methodLink RX11 376 yX11_likes ∈ z_TB := z_TBm (List.mem_of_getElem? (i := 1868) (by decide +kernel)) rfl
theorem wi_X11_likes : Cond.instanceMethod yX11_likes ∈ z_TB := z_TBm (List.mem_of_getElem? (i := 1870) (by decide +kernel)) rfl
theorem wl_X11_361 : Cond.methodLink RX11 361 yX11_weightOf ∈ z_TB := z_TBm (List.mem_of_getElem? (i := 1872) (by decide +kernel)) rfl
theorem wi_X11_weightOf : Cond.instanceMethod yX11_weightOf ∈ z_TB := z_TBm (List.mem_of_getElem? (i := 1874) (by decide +kernel)) rfl
theorem wl_X11_367 : Cond.methodLink RX11 367 yX11_chainOf ∈ z_TB := z_TBm (List.mem_of_getElem? (i := 1876) (by decide +kernel)) rfl
theorem wi_X11_chainOf : Cond.instanceMethod yX11_chainOf ∈ z_TB := z_TBm (List.mem_of_getElem? (i := 1878) (by decide +kernel)) rfl
theorem wl_X11_173 : Cond.methodLink RX11 173 yX11_rowOrColumn ∈ z_TB := z_TBm (List.mem_of_getElem? (i := 1880) (by decide +kernel)) rfl
theorem wi_X11_rowOrColumn : Cond.instanceMethod yX11_rowOrColumn ∈ z_TB := z_TBm (List.mem_of_getElem? (i := 1882) (by decide +kernel)) rfl
theorem wl_X11_370 : Cond.methodLink RX11 370 yX11_logical ∈ z_TB := z_TBm (List.mem_of_getElem? (i := 1884) (by decide +kernel)) rfl
theorem wi_X11_logical : Cond.instanceMethod yX11_logical ∈ z_TB := z_TBm (List.mem_of_getElem? (i := 1886) (by decide +kernel)) rfl
theorem wl_L_167 : Cond.methodLink RL 167 yX11_fewest ∈ z_TB := z_TBm (List.mem_of_getElem? (i := 1888) (by decide +kernel)) rfl
theorem wi_X11_fewest : Cond.instanceMethod yX11_fewest ∈ z_TB := z_TBm (List.mem_of_getElem? (i := 1889) (by decide +kernel)) rfl
theorem ws_X11_fewest : Cond.selects RX11 yX11_fewest yX11_fewest ∈ z_TB := z_TBm (List.mem_of_getElem? (i := 1890) (by decide +kernel)) rfl
theorem wl_L_138 : Cond.methodLink RL 138 yX11_distance ∈ z_TB := z_TBm (List.mem_of_getElem? (i := 1892) (by decide +kernel)) rfl
theorem wi_X11_distance : Cond.instanceMethod yX11_distance ∈ z_TB := z_TBm (List.mem_of_getElem? (i := 1893) (by decide +kernel)) rfl
theorem ws_X11_distance : Cond.selects RX11 yX11_distance yX11_distance ∈ z_TB := z_TBm (List.mem_of_getElem? (i := 1894) (by decide +kernel)) rfl
theorem wl_L_147 : Cond.methodLink RL 147 yX11_odds ∈ z_TB := z_TBm (List.mem_of_getElem? (i := 1896) (by decide +kernel)) rfl
theorem wi_X11_odds : Cond.instanceMethod yX11_odds ∈ z_TB := z_TBm (List.mem_of_getElem? (i := 1897) (by decide +kernel)) rfl
theorem ws_X11_odds : Cond.selects RX11 yX11_odds yX11_odds ∈ z_TB := z_TBm (List.mem_of_getElem? (i := 1898) (by decide +kernel)) rfl
theorem wc_X11_382 : Cond.constantLong RX11 382 (-1) ∈ z_TB := z_TBm (List.mem_of_getElem? (i := 1900) (by decide +kernel)) rfl
theorem wl_X11_384 : Cond.methodLink RX11 384 yX11_times ∈ z_TB := z_TBm (List.mem_of_getElem? (i := 1901) (by decide +kernel)) rfl
theorem wt_X11_times : Cond.static yX11_times ∈ z_TB := z_TBm (List.mem_of_getElem? (i := 1902) (by decide +kernel)) rfl
theorem wc_X11_380 : Cond.constantLong RX11 380 (9223372036854775807) ∈ z_TB := z_TBm (List.mem_of_getElem? (i := 1904) (by decide +kernel)) rfl
theorem wl_L_126 : Cond.methodLink RL 126 yX11_correction ∈ z_TB := z_TBm (List.mem_of_getElem? (i := 1905) (by decide +kernel)) rfl
theorem wi_X11_correction : Cond.instanceMethod yX11_correction ∈ z_TB := z_TBm (List.mem_of_getElem? (i := 1906) (by decide +kernel)) rfl
theorem ws_X11_correction : Cond.selects RX11 yX11_correction yX11_correction ∈ z_TB := z_TBm (List.mem_of_getElem? (i := 1907) (by decide +kernel)) rfl
theorem wl_X11_391 : Cond.methodLink RX11 391 yX11_corrects ∈ z_TB := z_TBm (List.mem_of_getElem? (i := 1909) (by decide +kernel)) rfl
theorem wi_X11_corrects : Cond.instanceMethod yX11_corrects ∈ z_TB := z_TBm (List.mem_of_getElem? (i := 1911) (by decide +kernel)) rfl
theorem wl_L_130 : Cond.methodLink RL 130 yX11_result ∈ z_TB := z_TBm (List.mem_of_getElem? (i := 1913) (by decide +kernel)) rfl
theorem wi_X11_result : Cond.instanceMethod yX11_result ∈ z_TB := z_TBm (List.mem_of_getElem? (i := 1914) (by decide +kernel)) rfl
theorem ws_X11_result : Cond.selects RX11 yX11_result yX11_result ∈ z_TB := z_TBm (List.mem_of_getElem? (i := 1915) (by decide +kernel)) rfl
theorem wl_L_134 : Cond.methodLink RL 134 yX11_correct ∈ z_TB := z_TBm (List.mem_of_getElem? (i := 1917) (by decide +kernel)) rfl
theorem wi_X11_correct : Cond.instanceMethod yX11_correct ∈ z_TB := z_TBm (List.mem_of_getElem? (i := 1918) (by decide +kernel)) rfl
theorem ws_X11_correct : Cond.selects RX11 yX11_correct yX11_correct ∈ z_TB := z_TBm (List.mem_of_getElem? (i := 1919) (by decide +kernel)) rfl
theorem wl_L_151 : Cond.methodLink RL 151 yX11_press ∈ z_TB := z_TBm (List.mem_of_getElem? (i := 1921) (by decide +kernel)) rfl
theorem wi_X11_press : Cond.instanceMethod yX11_press ∈ z_TB := z_TBm (List.mem_of_getElem? (i := 1922) (by decide +kernel)) rfl
theorem ws_X11_press : Cond.selects RX11 yX11_press yX11_press ∈ z_TB := z_TBm (List.mem_of_getElem? (i := 1923) (by decide +kernel)) rfl
theorem wl_X11_394 : Cond.methodLink RX11 394 yX11_isCheck ∈ z_TB := z_TBm (List.mem_of_getElem? (i := 1925) (by decide +kernel)) rfl
theorem wi_X11_isCheck : Cond.instanceMethod yX11_isCheck ∈ z_TB := z_TBm (List.mem_of_getElem? (i := 1927) (by decide +kernel)) rfl
theorem wl_L_155 : Cond.methodLink RL 155 yX11_chain ∈ z_TB := z_TBm (List.mem_of_getElem? (i := 1929) (by decide +kernel)) rfl
theorem wi_X11_chain : Cond.instanceMethod yX11_chain ∈ z_TB := z_TBm (List.mem_of_getElem? (i := 1930) (by decide +kernel)) rfl
theorem ws_X11_chain : Cond.selects RX11 yX11_chain yX11_chain ∈ z_TB := z_TBm (List.mem_of_getElem? (i := 1931) (by decide +kernel)) rfl
theorem wl_L_171 : Cond.methodLink RL 171 yX11_drawn ∈ z_TB := z_TBm (List.mem_of_getElem? (i := 1933) (by decide +kernel)) rfl
theorem wi_X11_drawn : Cond.instanceMethod yX11_drawn ∈ z_TB := z_TBm (List.mem_of_getElem? (i := 1934) (by decide +kernel)) rfl
theorem ws_X11_drawn : Cond.selects RX11 yX11_drawn yX11_drawn ∈ z_TB := z_TBm (List.mem_of_getElem? (i := 1935) (by decide +kernel)) rfl
theorem wl_X11_404 : Cond.methodLink RX11 404 yX11_canDraw ∈ z_TB := z_TBm (List.mem_of_getElem? (i := 1937) (by decide +kernel)) rfl
theorem wi_X11_canDraw : Cond.instanceMethod yX11_canDraw ∈ z_TB := z_TBm (List.mem_of_getElem? (i := 1939) (by decide +kernel)) rfl
theorem wl_X11_407 : Cond.methodLink RX11 407 yX11_draws ∈ z_TB := z_TBm (List.mem_of_getElem? (i := 1941) (by decide +kernel)) rfl
theorem wi_X11_draws : Cond.instanceMethod yX11_draws ∈ z_TB := z_TBm (List.mem_of_getElem? (i := 1943) (by decide +kernel)) rfl
theorem wl_X11_401 : Cond.methodLink RX11 401 yX11_draw ∈ z_TB := z_TBm (List.mem_of_getElem? (i := 1945) (by decide +kernel)) rfl
theorem wi_X11_draw : Cond.instanceMethod yX11_draw ∈ z_TB := z_TBm (List.mem_of_getElem? (i := 1947) (by decide +kernel)) rfl
theorem wc_X11_400 : Cond.constant RX11 400 (1103515245) ∈ z_TB := z_TBm (List.mem_of_getElem? (i := 1949) (by decide +kernel)) rfl
theorem wl_L_176 : Cond.methodLink RL 176 yX11_often ∈ z_TB := z_TBm (List.mem_of_getElem? (i := 1950) (by decide +kernel)) rfl
theorem wi_X11_often : Cond.instanceMethod yX11_often ∈ z_TB := z_TBm (List.mem_of_getElem? (i := 1951) (by decide +kernel)) rfl
theorem ws_X11_often : Cond.selects RX11 yX11_often yX11_often ∈ z_TB := z_TBm (List.mem_of_getElem? (i := 1952) (by decide +kernel)) rfl
theorem wl_L_53 : Cond.methodLink RL 53 yX11_now ∈ z_TB := z_TBm (List.mem_of_getElem? (i := 1954) (by decide +kernel)) rfl
theorem wi_X11_now : Cond.instanceMethod yX11_now ∈ z_TB := z_TBm (List.mem_of_getElem? (i := 1955) (by decide +kernel)) rfl
theorem ws_X11_now : Cond.selects RX11 yX11_now yX11_now ∈ z_TB := z_TBm (List.mem_of_getElem? (i := 1956) (by decide +kernel)) rfl
theorem wl_L_59 : Cond.methodLink RL 59 yX11_check ∈ z_TB := z_TBm (List.mem_of_getElem? (i := 1958) (by decide +kernel)) rfl
theorem wi_X11_check : Cond.instanceMethod yX11_check ∈ z_TB := z_TBm (List.mem_of_getElem? (i := 1959) (by decide +kernel)) rfl
theorem ws_X11_check : Cond.selects RX11 yX11_check yX11_check ∈ z_TB := z_TBm (List.mem_of_getElem? (i := 1960) (by decide +kernel)) rfl
theorem wl_L_66 : Cond.methodLink RL 66 yX11_qubit ∈ z_TB := z_TBm (List.mem_of_getElem? (i := 1962) (by decide +kernel)) rfl
theorem wi_X11_qubit : Cond.instanceMethod yX11_qubit ∈ z_TB := z_TBm (List.mem_of_getElem? (i := 1963) (by decide +kernel)) rfl
theorem ws_X11_qubit : Cond.selects RX11 yX11_qubit yX11_qubit ∈ z_TB := z_TBm (List.mem_of_getElem? (i := 1964) (by decide +kernel)) rfl
theorem wl_L_70 : Cond.methodLink RL 70 yX11_reading ∈ z_TB := z_TBm (List.mem_of_getElem? (i := 1966) (by decide +kernel)) rfl
theorem wi_X11_reading : Cond.instanceMethod yX11_reading ∈ z_TB := z_TBm (List.mem_of_getElem? (i := 1967) (by decide +kernel)) rfl
theorem ws_X11_reading : Cond.selects RX11 yX11_reading yX11_reading ∈ z_TB := z_TBm (List.mem_of_getElem? (i := 1968) (by decide +kernel)) rfl
theorem wl_L_159 : Cond.methodLink RL 159 yX11_line ∈ z_TB := z_TBm (List.mem_of_getElem? (i := 1970) (by decide +kernel)) rfl
theorem wi_X11_line : Cond.instanceMethod yX11_line ∈ z_TB := z_TBm (List.mem_of_getElem? (i := 1971) (by decide +kernel)) rfl
theorem ws_X11_line : Cond.selects RX11 yX11_line yX11_line ∈ z_TB := z_TBm (List.mem_of_getElem? (i := 1972) (by decide +kernel)) rfl
theorem wl_X11_413 : Cond.methodLink RX11 413 yX11_signOf ∈ z_TB := z_TBm (List.mem_of_getElem? (i := 1974) (by decide +kernel)) rfl
theorem wi_X11_signOf : Cond.instanceMethod yX11_signOf ∈ z_TB := z_TBm (List.mem_of_getElem? (i := 1976) (by decide +kernel)) rfl
theorem wl_L_163 : Cond.methodLink RL 163 yX11_byteAt ∈ z_TB := z_TBm (List.mem_of_getElem? (i := 1978) (by decide +kernel)) rfl
theorem wi_X11_byteAt : Cond.instanceMethod yX11_byteAt ∈ z_TB := z_TBm (List.mem_of_getElem? (i := 1979) (by decide +kernel)) rfl
theorem ws_X11_byteAt : Cond.selects RX11 yX11_byteAt yX11_byteAt ∈ z_TB := z_TBm (List.mem_of_getElem? (i := 1980) (by decide +kernel)) rfl
theorem wa_long : Cond.arrayClass .long ∈ z_TB := z_TBm (List.mem_of_getElem? (i := 1982) (by decide +kernel)) rfl
theorem wf_J0_9 : Cond.fieldLink RJ0 9 "java/lang/String" "value" "[B" ∈ z_TB := z_TBm (List.mem_of_getElem? (i := 1999) (by decide +kernel)) rfl
theorem wf_J0_15 : Cond.fieldLink RJ0 15 "java/lang/String" "coder" "B" ∈ z_TB := z_TBm (List.mem_of_getElem? (i := 2000) (by decide +kernel)) rfl
theorem ws_X9_layFaces : Cond.selects RX9 yX9_layFaces yX9_layFaces ∈ z_TB := z_TBm (List.mem_of_getElem? (i := 0) (by decide +kernel)) rfl
theorem ws_X9_kindAt : Cond.selects RX9 yX9_kindAt yX9_kindAt ∈ z_TB := z_TBm (List.mem_of_getElem? (i := 1) (by decide +kernel)) rfl
theorem ws_X9_bitsAt : Cond.selects RX9 yX9_bitsAt yX9_bitsAt ∈ z_TB := z_TBm (List.mem_of_getElem? (i := 2) (by decide +kernel)) rfl
theorem ws_X9_layQubits : Cond.selects RX9 yX9_layQubits yX9_layQubits ∈ z_TB := z_TBm (List.mem_of_getElem? (i := 3) (by decide +kernel)) rfl
theorem ws_X9_layBorders : Cond.selects RX9 yX9_layBorders yX9_layBorders ∈ z_TB := z_TBm (List.mem_of_getElem? (i := 4) (by decide +kernel)) rfl
theorem ws_X0_startAnew : Cond.selects RX0 yX0_startAnew yX0_startAnew ∈ z_TB := z_TBm (List.mem_of_getElem? (i := 5) (by decide +kernel)) rfl
theorem ws_X6_hasFault : Cond.selects RX6 yX6_hasFault yX6_hasFault ∈ z_TB := z_TBm (List.mem_of_getElem? (i := 6) (by decide +kernel)) rfl
theorem ws_X6_signAhead : Cond.selects RX6 yX6_signAhead yX6_signAhead ∈ z_TB := z_TBm (List.mem_of_getElem? (i := 7) (by decide +kernel)) rfl
theorem ws_X6_closeAgain : Cond.selects RX6 yX6_closeAgain yX6_closeAgain ∈ z_TB := z_TBm (List.mem_of_getElem? (i := 8) (by decide +kernel)) rfl
theorem ws_X6_readSign : Cond.selects RX6 yX6_readSign yX6_readSign ∈ z_TB := z_TBm (List.mem_of_getElem? (i := 9) (by decide +kernel)) rfl
theorem ws_X6_readStep : Cond.selects RX6 yX6_readStep yX6_readStep ∈ z_TB := z_TBm (List.mem_of_getElem? (i := 10) (by decide +kernel)) rfl
theorem ws_X6_readWord : Cond.selects RX6 yX6_readWord yX6_readWord ∈ z_TB := z_TBm (List.mem_of_getElem? (i := 11) (by decide +kernel)) rfl
theorem ws_X6_spells : Cond.selects RX6 yX6_spells yX6_spells ∈ z_TB := z_TBm (List.mem_of_getElem? (i := 12) (by decide +kernel)) rfl
theorem ws_X6_readPart : Cond.selects RX6 yX6_readPart yX6_readPart ∈ z_TB := z_TBm (List.mem_of_getElem? (i := 13) (by decide +kernel)) rfl
theorem ws_X6_readNumber : Cond.selects RX6 yX6_readNumber yX6_readNumber ∈ z_TB := z_TBm (List.mem_of_getElem? (i := 14) (by decide +kernel)) rfl
theorem ws_X6_readKind : Cond.selects RX6 yX6_readKind yX6_readKind ∈ z_TB := z_TBm (List.mem_of_getElem? (i := 15) (by decide +kernel)) rfl
theorem ws_X6_doSteps : Cond.selects RX6 yX6_doSteps yX6_doSteps ∈ z_TB := z_TBm (List.mem_of_getElem? (i := 16) (by decide +kernel)) rfl
theorem ws_X6_beginStep : Cond.selects RX6 yX6_beginStep yX6_beginStep ∈ z_TB := z_TBm (List.mem_of_getElem? (i := 17) (by decide +kernel)) rfl
theorem ws_X6_doStep : Cond.selects RX6 yX6_doStep yX6_doStep ∈ z_TB := z_TBm (List.mem_of_getElem? (i := 18) (by decide +kernel)) rfl
theorem ws_X10_isRound : Cond.selects RX10 yX10_isRound yX10_isRound ∈ z_TB := z_TBm (List.mem_of_getElem? (i := 19) (by decide +kernel)) rfl
theorem ws_X4_joinWithin : Cond.selects RX4 yX4_joinWithin yX4_joinWithin ∈ z_TB := z_TBm (List.mem_of_getElem? (i := 20) (by decide +kernel)) rfl
theorem ws_X4_join : Cond.selects RX4 yX4_join yX4_join ∈ z_TB := z_TBm (List.mem_of_getElem? (i := 21) (by decide +kernel)) rfl
theorem ws_X4_link : Cond.selects RX4 yX4_link yX4_link ∈ z_TB := z_TBm (List.mem_of_getElem? (i := 22) (by decide +kernel)) rfl
theorem ws_X4_joinToNext : Cond.selects RX4 yX4_joinToNext yX4_joinToNext ∈ z_TB := z_TBm (List.mem_of_getElem? (i := 23) (by decide +kernel)) rfl
theorem ws_X4_findEvents : Cond.selects RX4 yX4_findEvents yX4_findEvents ∈ z_TB := z_TBm (List.mem_of_getElem? (i := 24) (by decide +kernel)) rfl
theorem ws_X10_findWay : Cond.selects RX10 yX10_findWay yX10_findWay ∈ z_TB := z_TBm (List.mem_of_getElem? (i := 25) (by decide +kernel)) rfl
theorem ws_X8_offerFromBorder : Cond.selects RX8 yX8_offerFromBorder yX8_offerFromBorder ∈ z_TB := z_TBm (List.mem_of_getElem? (i := 26) (by decide +kernel)) rfl
theorem ws_X8_offer : Cond.selects RX8 yX8_offer yX8_offer ∈ z_TB := z_TBm (List.mem_of_getElem? (i := 27) (by decide +kernel)) rfl
theorem ws_X8_offerFrom : Cond.selects RX8 yX8_offerFrom yX8_offerFrom ∈ z_TB := z_TBm (List.mem_of_getElem? (i := 28) (by decide +kernel)) rfl
theorem ws_X10_paired : Cond.selects RX10 yX10_paired yX10_paired ∈ z_TB := z_TBm (List.mem_of_getElem? (i := 29) (by decide +kernel)) rfl
theorem ws_X5_forgetSets : Cond.selects RX5 yX5_forgetSets yX5_forgetSets ∈ z_TB := z_TBm (List.mem_of_getElem? (i := 30) (by decide +kernel)) rfl
theorem ws_X5_leastFor : Cond.selects RX5 yX5_leastFor yX5_leastFor ∈ z_TB := z_TBm (List.mem_of_getElem? (i := 31) (by decide +kernel)) rfl
theorem ws_X5_toBorder : Cond.selects RX5 yX5_toBorder yX5_toBorder ∈ z_TB := z_TBm (List.mem_of_getElem? (i := 32) (by decide +kernel)) rfl
theorem ws_X5_between : Cond.selects RX5 yX5_between yX5_between ∈ z_TB := z_TBm (List.mem_of_getElem? (i := 33) (by decide +kernel)) rfl
theorem ws_X5_choosePartners : Cond.selects RX5 yX5_choosePartners yX5_choosePartners ∈ z_TB := z_TBm (List.mem_of_getElem? (i := 34) (by decide +kernel)) rfl
theorem ws_X5_firstPartner : Cond.selects RX5 yX5_firstPartner yX5_firstPartner ∈ z_TB := z_TBm (List.mem_of_getElem? (i := 35) (by decide +kernel)) rfl
theorem ws_X10_growAndPeel : Cond.selects RX10 yX10_growAndPeel yX10_growAndPeel ∈ z_TB := z_TBm (List.mem_of_getElem? (i := 36) (by decide +kernel)) rfl
theorem ws_X1_partAll : Cond.selects RX1 yX1_partAll yX1_partAll ∈ z_TB := z_TBm (List.mem_of_getElem? (i := 37) (by decide +kernel)) rfl
theorem ws_X1_markEvents : Cond.selects RX1 yX1_markEvents yX1_markEvents ∈ z_TB := z_TBm (List.mem_of_getElem? (i := 38) (by decide +kernel)) rfl
theorem ws_X1_findOpen : Cond.selects RX1 yX1_findOpen yX1_findOpen ∈ z_TB := z_TBm (List.mem_of_getElem? (i := 39) (by decide +kernel)) rfl
theorem ws_X1_rootOf : Cond.selects RX1 yX1_rootOf yX1_rootOf ∈ z_TB := z_TBm (List.mem_of_getElem? (i := 40) (by decide +kernel)) rfl
theorem ws_X1_growEdges : Cond.selects RX1 yX1_growEdges yX1_growEdges ∈ z_TB := z_TBm (List.mem_of_getElem? (i := 41) (by decide +kernel)) rfl
theorem ws_X1_joinWhole : Cond.selects RX1 yX1_joinWhole yX1_joinWhole ∈ z_TB := z_TBm (List.mem_of_getElem? (i := 42) (by decide +kernel)) rfl
theorem ws_X1_joinEnds : Cond.selects RX1 yX1_joinEnds yX1_joinEnds ∈ z_TB := z_TBm (List.mem_of_getElem? (i := 43) (by decide +kernel)) rfl
theorem ws_X1_addBranch : Cond.selects RX1 yX1_addBranch yX1_addBranch ∈ z_TB := z_TBm (List.mem_of_getElem? (i := 44) (by decide +kernel)) rfl
theorem ws_X1_isLeaf : Cond.selects RX1 yX1_isLeaf yX1_isLeaf ∈ z_TB := z_TBm (List.mem_of_getElem? (i := 45) (by decide +kernel)) rfl
theorem ws_X1_peelLeaf : Cond.selects RX1 yX1_peelLeaf yX1_peelLeaf ∈ z_TB := z_TBm (List.mem_of_getElem? (i := 46) (by decide +kernel)) rfl
theorem ws_X5_flipAlong : Cond.selects RX5 yX5_flipAlong yX5_flipAlong ∈ z_TB := z_TBm (List.mem_of_getElem? (i := 47) (by decide +kernel)) rfl
theorem ws_X10_correctionOf : Cond.selects RX10 yX10_correctionOf yX10_correctionOf ∈ z_TB := z_TBm (List.mem_of_getElem? (i := 48) (by decide +kernel)) rfl
theorem ws_X3_weighRows : Cond.selects RX3 yX3_weighRows yX3_weighRows ∈ z_TB := z_TBm (List.mem_of_getElem? (i := 49) (by decide +kernel)) rfl
theorem ws_X3_seekLightest : Cond.selects RX3 yX3_seekLightest yX3_seekLightest ∈ z_TB := z_TBm (List.mem_of_getElem? (i := 50) (by decide +kernel)) rfl
theorem ws_X3_lookAt : Cond.selects RX3 yX3_lookAt yX3_lookAt ∈ z_TB := z_TBm (List.mem_of_getElem? (i := 51) (by decide +kernel)) rfl
theorem ws_X10_resultOf : Cond.selects RX10 yX10_resultOf yX10_resultOf ∈ z_TB := z_TBm (List.mem_of_getElem? (i := 52) (by decide +kernel)) rfl
theorem ws_X10_isCheck : Cond.selects RX10 yX10_isCheck yX10_isCheck ∈ z_TB := z_TBm (List.mem_of_getElem? (i := 53) (by decide +kernel)) rfl
theorem ws_X7_drawChecks : Cond.selects RX7 yX7_drawChecks yX7_drawChecks ∈ z_TB := z_TBm (List.mem_of_getElem? (i := 54) (by decide +kernel)) rfl
theorem ws_X7_drawQubits : Cond.selects RX7 yX7_drawQubits yX7_drawQubits ∈ z_TB := z_TBm (List.mem_of_getElem? (i := 55) (by decide +kernel)) rfl
theorem ws_X10_canBeDrawn : Cond.selects RX10 yX10_canBeDrawn yX10_canBeDrawn ∈ z_TB := z_TBm (List.mem_of_getElem? (i := 56) (by decide +kernel)) rfl
theorem ws_X0_slipByDraw : Cond.selects RX0 yX0_slipByDraw yX0_slipByDraw ∈ z_TB := z_TBm (List.mem_of_getElem? (i := 57) (by decide +kernel)) rfl
theorem ws_X11_begins : Cond.selects RX11 yX11_begins yX11_begins ∈ z_TB := z_TBm (List.mem_of_getElem? (i := 59) (by decide +kernel)) rfl
theorem ws_X11_lays : Cond.selects RX11 yX11_lays yX11_lays ∈ z_TB := z_TBm (List.mem_of_getElem? (i := 60) (by decide +kernel)) rfl
theorem ws_X11_qubits : Cond.selects RX11 yX11_qubits yX11_qubits ∈ z_TB := z_TBm (List.mem_of_getElem? (i := 61) (by decide +kernel)) rfl
theorem ws_X11_d : Cond.selects RX11 yX11_d yX11_d ∈ z_TB := z_TBm (List.mem_of_getElem? (i := 62) (by decide +kernel)) rfl
theorem ws_X11_kindOn : Cond.selects RX11 yX11_kindOn yX11_kindOn ∈ z_TB := z_TBm (List.mem_of_getElem? (i := 63) (by decide +kernel)) rfl
theorem ws_X11_bitsOn : Cond.selects RX11 yX11_bitsOn yX11_bitsOn ∈ z_TB := z_TBm (List.mem_of_getElem? (i := 64) (by decide +kernel)) rfl
theorem ws_X11_four : Cond.selects RX11 yX11_four yX11_four ∈ z_TB := z_TBm (List.mem_of_getElem? (i := 65) (by decide +kernel)) rfl
theorem ws_X11_copies : Cond.selects RX11 yX11_copies yX11_copies ∈ z_TB := z_TBm (List.mem_of_getElem? (i := 66) (by decide +kernel)) rfl
theorem ws_X11_bad : Cond.selects RX11 yX11_bad yX11_bad ∈ z_TB := z_TBm (List.mem_of_getElem? (i := 67) (by decide +kernel)) rfl
theorem ws_X11_reads : Cond.selects RX11 yX11_reads yX11_reads ∈ z_TB := z_TBm (List.mem_of_getElem? (i := 68) (by decide +kernel)) rfl
theorem ws_X11_peek : Cond.selects RX11 yX11_peek yX11_peek ∈ z_TB := z_TBm (List.mem_of_getElem? (i := 69) (by decide +kernel)) rfl
theorem ws_X11_sign : Cond.selects RX11 yX11_sign yX11_sign ∈ z_TB := z_TBm (List.mem_of_getElem? (i := 70) (by decide +kernel)) rfl
theorem ws_X11_step : Cond.selects RX11 yX11_step yX11_step ∈ z_TB := z_TBm (List.mem_of_getElem? (i := 71) (by decide +kernel)) rfl
theorem ws_X11_wordHere : Cond.selects RX11 yX11_wordHere yX11_wordHere ∈ z_TB := z_TBm (List.mem_of_getElem? (i := 72) (by decide +kernel)) rfl
theorem ws_X11_kind : Cond.selects RX11 yX11_kind yX11_kind ∈ z_TB := z_TBm (List.mem_of_getElem? (i := 73) (by decide +kernel)) rfl
theorem ws_X11_number : Cond.selects RX11 yX11_number yX11_number ∈ z_TB := z_TBm (List.mem_of_getElem? (i := 74) (by decide +kernel)) rfl
theorem ws_X11_keeps : Cond.selects RX11 yX11_keeps yX11_keeps ∈ z_TB := z_TBm (List.mem_of_getElem? (i := 75) (by decide +kernel)) rfl
theorem ws_X11_doesAll : Cond.selects RX11 yX11_doesAll yX11_doesAll ∈ z_TB := z_TBm (List.mem_of_getElem? (i := 76) (by decide +kernel)) rfl
theorem ws_X11_does : Cond.selects RX11 yX11_does yX11_does ∈ z_TB := z_TBm (List.mem_of_getElem? (i := 77) (by decide +kernel)) rfl
theorem ws_X11_round : Cond.selects RX11 yX11_round yX11_round ∈ z_TB := z_TBm (List.mem_of_getElem? (i := 78) (by decide +kernel)) rfl
theorem ws_X11_loud : Cond.selects RX11 yX11_loud yX11_loud ∈ z_TB := z_TBm (List.mem_of_getElem? (i := 79) (by decide +kernel)) rfl
theorem ws_X11_laysNet : Cond.selects RX11 yX11_laysNet yX11_laysNet ∈ z_TB := z_TBm (List.mem_of_getElem? (i := 80) (by decide +kernel)) rfl
theorem ws_X11_layer : Cond.selects RX11 yX11_layer yX11_layer ∈ z_TB := z_TBm (List.mem_of_getElem? (i := 81) (by decide +kernel)) rfl
theorem ws_X11_isPair : Cond.selects RX11 yX11_isPair yX11_isPair ∈ z_TB := z_TBm (List.mem_of_getElem? (i := 82) (by decide +kernel)) rfl
theorem ws_X11_aims : Cond.selects RX11 yX11_aims yX11_aims ∈ z_TB := z_TBm (List.mem_of_getElem? (i := 83) (by decide +kernel)) rfl
theorem ws_X11_laysLeft : Cond.selects RX11 yX11_laysLeft yX11_laysLeft ∈ z_TB := z_TBm (List.mem_of_getElem? (i := 84) (by decide +kernel)) rfl
theorem ws_X11_laysWay : Cond.selects RX11 yX11_laysWay yX11_laysWay ∈ z_TB := z_TBm (List.mem_of_getElem? (i := 85) (by decide +kernel)) rfl
theorem ws_X11_leads : Cond.selects RX11 yX11_leads yX11_leads ∈ z_TB := z_TBm (List.mem_of_getElem? (i := 86) (by decide +kernel)) rfl
theorem ws_X11_throwsIf : Cond.selects RX11 yX11_throwsIf yX11_throwsIf ∈ z_TB := z_TBm (List.mem_of_getElem? (i := 87) (by decide +kernel)) rfl
theorem ws_X11_pairs : Cond.selects RX11 yX11_pairs yX11_pairs ∈ z_TB := z_TBm (List.mem_of_getElem? (i := 88) (by decide +kernel)) rfl
theorem ws_X11_best : Cond.selects RX11 yX11_best yX11_best ∈ z_TB := z_TBm (List.mem_of_getElem? (i := 89) (by decide +kernel)) rfl
theorem ws_X11_costOf : Cond.selects RX11 yX11_costOf yX11_costOf ∈ z_TB := z_TBm (List.mem_of_getElem? (i := 90) (by decide +kernel)) rfl
theorem ws_X11_chooses : Cond.selects RX11 yX11_chooses yX11_chooses ∈ z_TB := z_TBm (List.mem_of_getElem? (i := 91) (by decide +kernel)) rfl
theorem ws_X11_grows : Cond.selects RX11 yX11_grows yX11_grows ∈ z_TB := z_TBm (List.mem_of_getElem? (i := 92) (by decide +kernel)) rfl
theorem ws_X11_counts : Cond.selects RX11 yX11_counts yX11_counts ∈ z_TB := z_TBm (List.mem_of_getElem? (i := 93) (by decide +kernel)) rfl
theorem ws_X11_leaderOf : Cond.selects RX11 yX11_leaderOf yX11_leaderOf ∈ z_TB := z_TBm (List.mem_of_getElem? (i := 94) (by decide +kernel)) rfl
theorem ws_X11_opens : Cond.selects RX11 yX11_opens yX11_opens ∈ z_TB := z_TBm (List.mem_of_getElem? (i := 95) (by decide +kernel)) rfl
theorem ws_X11_unites : Cond.selects RX11 yX11_unites yX11_unites ∈ z_TB := z_TBm (List.mem_of_getElem? (i := 96) (by decide +kernel)) rfl
theorem ws_X11_peels : Cond.selects RX11 yX11_peels yX11_peels ∈ z_TB := z_TBm (List.mem_of_getElem? (i := 97) (by decide +kernel)) rfl
theorem ws_X11_side : Cond.selects RX11 yX11_side yX11_side ∈ z_TB := z_TBm (List.mem_of_getElem? (i := 98) (by decide +kernel)) rfl
theorem ws_X11_lays_ : Cond.selects RX11 yX11_lays_ yX11_lays_ ∈ z_TB := z_TBm (List.mem_of_getElem? (i := 99) (by decide +kernel)) rfl
theorem ws_X11_goesWay : Cond.selects RX11 yX11_goesWay yX11_goesWay ∈ z_TB := z_TBm (List.mem_of_getElem? (i := 100) (by decide +kernel)) rfl
theorem ws_X11_gone : Cond.selects RX11 yX11_gone yX11_gone ∈ z_TB := z_TBm (List.mem_of_getElem? (i := 101) (by decide +kernel)) rfl
theorem ws_X11_isLike : Cond.selects RX11 yX11_isLike yX11_isLike ∈ z_TB := z_TBm (List.mem_of_getElem? (i := 102) (by decide +kernel)) rfl
theorem ws_X11_likes : Cond.selects RX11 yX11_likes yX11_likes ∈ z_TB := z_TBm (List.mem_of_getElem? (i := 103) (by decide +kernel)) rfl
theorem ws_X11_weightOf : Cond.selects RX11 yX11_weightOf yX11_weightOf ∈ z_TB := z_TBm (List.mem_of_getElem? (i := 104) (by decide +kernel)) rfl
theorem ws_X11_chainOf : Cond.selects RX11 yX11_chainOf yX11_chainOf ∈ z_TB := z_TBm (List.mem_of_getElem? (i := 105) (by decide +kernel)) rfl
theorem ws_X11_rowOrColumn : Cond.selects RX11 yX11_rowOrColumn yX11_rowOrColumn ∈ z_TB := z_TBm (List.mem_of_getElem? (i := 106) (by decide +kernel)) rfl
theorem ws_X11_logical : Cond.selects RX11 yX11_logical yX11_logical ∈ z_TB := z_TBm (List.mem_of_getElem? (i := 107) (by decide +kernel)) rfl
theorem ws_X11_corrects : Cond.selects RX11 yX11_corrects yX11_corrects ∈ z_TB := z_TBm (List.mem_of_getElem? (i := 108) (by decide +kernel)) rfl
theorem ws_X11_isCheck : Cond.selects RX11 yX11_isCheck yX11_isCheck ∈ z_TB := z_TBm (List.mem_of_getElem? (i := 109) (by decide +kernel)) rfl
theorem ws_X11_canDraw : Cond.selects RX11 yX11_canDraw yX11_canDraw ∈ z_TB := z_TBm (List.mem_of_getElem? (i := 110) (by decide +kernel)) rfl
theorem ws_X11_draws : Cond.selects RX11 yX11_draws yX11_draws ∈ z_TB := z_TBm (List.mem_of_getElem? (i := 111) (by decide +kernel)) rfl
theorem ws_X11_draw : Cond.selects RX11 yX11_draw yX11_draw ∈ z_TB := z_TBm (List.mem_of_getElem? (i := 112) (by decide +kernel)) rfl
theorem ws_X11_signOf : Cond.selects RX11 yX11_signOf yX11_signOf ∈ z_TB := z_TBm (List.mem_of_getElem? (i := 113) (by decide +kernel)) rfl
abbrev mX10_init : z_M := (yX10_init, cX10_init, 2, none)
theorem wm_X10_init : z_mw mX10_init := ⟨z_TBm (List.mem_of_getElem? (i := 143) (by decide +kernel)) rfl, w0_X10, rfl, by decide, by decide⟩
abbrev mX9_init : z_M := (yX9_init, cX9_init, 3, none)
theorem wm_X9_init : z_mw mX9_init := ⟨z_TBm (List.mem_of_getElem? (i := 151) (by decide +kernel)) rfl, w0_X9, rfl, by decide, by decide⟩
abbrev mX9_layFaces : z_M := (yX9_layFaces, cX9_layFaces, 5, none)
theorem wm_X9_layFaces : z_mw mX9_layFaces := ⟨z_TBm (List.mem_of_getElem? (i := 158) (by decide +kernel)) rfl, w0_X9, rfl, by decide, by decide⟩
abbrev mX9_kindAt : z_M := (yX9_kindAt, cX9_kindAt, 6, some .int)
theorem wm_X9_kindAt : z_mw mX9_kindAt := ⟨z_TBm (List.mem_of_getElem? (i := 162) (by decide +kernel)) rfl, w0_X9, rfl, by decide, by decide⟩
abbrev mX9_bitsAt : z_M := (yX9_bitsAt, cX9_bitsAt, 6, some .int)
theorem wm_X9_bitsAt : z_mw mX9_bitsAt := ⟨z_TBm (List.mem_of_getElem? (i := 166) (by decide +kernel)) rfl, w0_X9, rfl, by decide, by decide⟩
abbrev mX9_layQubits : z_M := (yX9_layQubits, cX9_layQubits, 5, none)
theorem wm_X9_layQubits : z_mw mX9_layQubits := ⟨z_TBm (List.mem_of_getElem? (i := 170) (by decide +kernel)) rfl, w0_X9, rfl, by decide, by decide⟩
abbrev mX9_checksOn : z_M := (yX9_checksOn, cX9_checksOn, 5, some .int)
theorem wm_X9_checksOn : z_mw mX9_checksOn := ⟨z_TBm (List.mem_of_getElem? (i := 174) (by decide +kernel)) rfl, w0_X9, rfl, by decide, by decide⟩
abbrev mJ6_numberOfTrailingZeros_0f7a4 : z_M := (yJ6_numberOfTrailingZeros_0f7a4, cJ6_numberOfTrailingZeros_0f7a4, 2, some .int)
theorem wm_J6_numberOfTrailingZeros_0f7a4 : z_mw mJ6_numberOfTrailingZeros_0f7a4 := ⟨z_TBm (List.mem_of_getElem? (i := 177) (by decide +kernel)) rfl, w0_J6, rfl, by decide, by decide⟩
abbrev mX9_layBorders : z_M := (yX9_layBorders, cX9_layBorders, 2, none)
theorem wm_X9_layBorders : z_mw mX9_layBorders := ⟨z_TBm (List.mem_of_getElem? (i := 182) (by decide +kernel)) rfl, w0_X9, rfl, by decide, by decide⟩
abbrev mX0_init : z_M := (yX0_init, cX0_init, 2, none)
theorem wm_X0_init : z_mw mX0_init := ⟨z_TBm (List.mem_of_getElem? (i := 242) (by decide +kernel)) rfl, w0_X0, rfl, by decide, by decide⟩
abbrev mX0_startAnew : z_M := (yX0_startAnew, cX0_startAnew, 3, none)
theorem wm_X0_startAnew : z_mw mX0_startAnew := ⟨z_TBm (List.mem_of_getElem? (i := 248) (by decide +kernel)) rfl, w0_X0, rfl, by decide, by decide⟩
abbrev mJ7_fill_53178 : z_M := (yJ7_fill_53178, cJ7_fill_53178, 4, none)
theorem wm_J7_fill_53178 : z_mw mJ7_fill_53178 := ⟨z_TBm (List.mem_of_getElem? (i := 251) (by decide +kernel)) rfl, w0_J7, rfl, by decide, by decide⟩
abbrev mX2_init : z_M := (yX2_init, cX2_init, 3, none)
theorem wm_X2_init : z_mw mX2_init := ⟨z_TBm (List.mem_of_getElem? (i := 300) (by decide +kernel)) rfl, w0_X2, rfl, by decide, by decide⟩
abbrev mX6_init : z_M := (yX6_init, cX6_init, 1, none)
theorem wm_X6_init : z_mw mX6_init := ⟨z_TBm (List.mem_of_getElem? (i := 320) (by decide +kernel)) rfl, w0_X6, rfl, by decide, by decide⟩
abbrev mX4_init : z_M := (yX4_init, cX4_init, 1, none)
theorem wm_X4_init : z_mw mX4_init := ⟨z_TBm (List.mem_of_getElem? (i := 381) (by decide +kernel)) rfl, w0_X4, rfl, by decide, by decide⟩
abbrev mX8_init : z_M := (yX8_init, cX8_init, 1, none)
theorem wm_X8_init : z_mw mX8_init := ⟨z_TBm (List.mem_of_getElem? (i := 460) (by decide +kernel)) rfl, w0_X8, rfl, by decide, by decide⟩
abbrev mX5_init : z_M := (yX5_init, cX5_init, 1, none)
theorem wm_X5_init : z_mw mX5_init := ⟨z_TBm (List.mem_of_getElem? (i := 496) (by decide +kernel)) rfl, w0_X5, rfl, by decide, by decide⟩
abbrev mX1_init : z_M := (yX1_init, cX1_init, 1, none)
theorem wm_X1_init : z_mw mX1_init := ⟨z_TBm (List.mem_of_getElem? (i := 536) (by decide +kernel)) rfl, w0_X1, rfl, by decide, by decide⟩
abbrev mX3_init : z_M := (yX3_init, cX3_init, 1, none)
theorem wm_X3_init : z_mw mX3_init := ⟨z_TBm (List.mem_of_getElem? (i := 589) (by decide +kernel)) rfl, w0_X3, rfl, by decide, by decide⟩
abbrev mX7_init : z_M := (yX7_init, cX7_init, 1, none)
theorem wm_X7_init : z_mw mX7_init := ⟨z_TBm (List.mem_of_getElem? (i := 609) (by decide +kernel)) rfl, w0_X7, rfl, by decide, by decide⟩
abbrev mX10_feed : z_M := (yX10_feed, cX10_feed, 6, some .int)
theorem wm_X10_feed : z_mw mX10_feed := ⟨z_TBm (List.mem_of_getElem? (i := 690) (by decide +kernel)) rfl, w0_X10, rfl, by decide, by decide⟩
abbrev mX6_put : z_M := (yX6_put, cX6_put, 3, none)
theorem wm_X6_put : z_mw mX6_put := ⟨z_TBm (List.mem_of_getElem? (i := 694) (by decide +kernel)) rfl, w0_X6, rfl, by decide, by decide⟩
abbrev mX10_end : z_M := (yX10_end, cX10_end, 2, some .boolean)
theorem wm_X10_end : z_mw mX10_end := ⟨z_TBm (List.mem_of_getElem? (i := 698) (by decide +kernel)) rfl, w0_X10, rfl, by decide, by decide⟩
abbrev mX10_code : z_M := (yX10_code, cX10_code, 2, some .int)
theorem wm_X10_code : z_mw mX10_code := ⟨z_TBm (List.mem_of_getElem? (i := 702) (by decide +kernel)) rfl, w0_X10, rfl, by decide, by decide⟩
abbrev mX10_work : z_M := (yX10_work, cX10_work, 2, some .int)
theorem wm_X10_work : z_mw mX10_work := ⟨z_TBm (List.mem_of_getElem? (i := 707) (by decide +kernel)) rfl, w0_X10, rfl, by decide, by decide⟩
abbrev mX6_isRight : z_M := (yX6_isRight, cX6_isRight, 5, some .boolean)
theorem wm_X6_isRight : z_mw mX6_isRight := ⟨z_TBm (List.mem_of_getElem? (i := 711) (by decide +kernel)) rfl, w0_X6, rfl, by decide, by decide⟩
abbrev mX6_hasFault : z_M := (yX6_hasFault, cX6_hasFault, 3, some .boolean)
theorem wm_X6_hasFault : z_mw mX6_hasFault := ⟨z_TBm (List.mem_of_getElem? (i := 715) (by decide +kernel)) rfl, w0_X6, rfl, by decide, by decide⟩
abbrev mX6_signAhead : z_M := (yX6_signAhead, cX6_signAhead, 1, some .int)
theorem wm_X6_signAhead : z_mw mX6_signAhead := ⟨z_TBm (List.mem_of_getElem? (i := 719) (by decide +kernel)) rfl, w0_X6, rfl, by decide, by decide⟩
abbrev mX6_closeAgain : z_M := (yX6_closeAgain, cX6_closeAgain, 1, some .boolean)
theorem wm_X6_closeAgain : z_mw mX6_closeAgain := ⟨z_TBm (List.mem_of_getElem? (i := 723) (by decide +kernel)) rfl, w0_X6, rfl, by decide, by decide⟩
abbrev mX6_readSign : z_M := (yX6_readSign, cX6_readSign, 2, some .boolean)
theorem wm_X6_readSign : z_mw mX6_readSign := ⟨z_TBm (List.mem_of_getElem? (i := 727) (by decide +kernel)) rfl, w0_X6, rfl, by decide, by decide⟩
abbrev mX6_readStep : z_M := (yX6_readStep, cX6_readStep, 6, some .boolean)
theorem wm_X6_readStep : z_mw mX6_readStep := ⟨z_TBm (List.mem_of_getElem? (i := 731) (by decide +kernel)) rfl, w0_X6, rfl, by decide, by decide⟩
abbrev mX6_readWord : z_M := (yX6_readWord, cX6_readWord, 2, some .int)
theorem wm_X6_readWord : z_mw mX6_readWord := ⟨z_TBm (List.mem_of_getElem? (i := 735) (by decide +kernel)) rfl, w0_X6, rfl, by decide, by decide⟩
abbrev mX6_spells : z_M := (yX6_spells, cX6_spells, 4, some .boolean)
theorem wm_X6_spells : z_mw mX6_spells := ⟨z_TBm (List.mem_of_getElem? (i := 740) (by decide +kernel)) rfl, w0_X6, rfl, by decide, by decide⟩
abbrev mJ0_length_8abf5 : z_M := (yJ0_length_8abf5, cJ0_length_8abf5, 1, some .int)
theorem wm_J0_length_8abf5 : z_mw mJ0_length_8abf5 := ⟨z_TBm (List.mem_of_getElem? (i := 744) (by decide +kernel)) rfl, w0_J0, rfl, by decide, by decide⟩
abbrev mJ0_coder_7d493 : z_M := (yJ0_coder_7d493, cJ0_coder_7d493, 1, some .byte)
theorem wm_J0_coder_7d493 : z_mw mJ0_coder_7d493 := ⟨z_TBm (List.mem_of_getElem? (i := 748) (by decide +kernel)) rfl, w0_J0, rfl, by decide, by decide⟩
abbrev mJ0_charAt_5068e : z_M := (yJ0_charAt_5068e, cJ0_charAt_5068e, 2, some .char)
theorem wm_J0_charAt_5068e : z_mw mJ0_charAt_5068e := ⟨z_TBm (List.mem_of_getElem? (i := 754) (by decide +kernel)) rfl, w0_J0, rfl, by decide, by decide⟩
abbrev mJ0_isLatin1_aae02 : z_M := (yJ0_isLatin1_aae02, cJ0_isLatin1_aae02, 1, some .boolean)
theorem wm_J0_isLatin1_aae02 : z_mw mJ0_isLatin1_aae02 := ⟨z_TBm (List.mem_of_getElem? (i := 758) (by decide +kernel)) rfl, w0_J0, rfl, by decide, by decide⟩
abbrev mJ1_charAt_3b067 : z_M := (yJ1_charAt_3b067, cJ1_charAt_3b067, 2, some .char)
theorem wm_J1_charAt_3b067 : z_mw mJ1_charAt_3b067 := ⟨z_TBm (List.mem_of_getElem? (i := 761) (by decide +kernel)) rfl, w0_J1, rfl, by decide, by decide⟩
abbrev mJ0_checkIndex_df160 : z_M := (yJ0_checkIndex_df160, cJ0_checkIndex_df160, 2, none)
theorem wm_J0_checkIndex_df160 : z_mw mJ0_checkIndex_df160 := ⟨z_TBm (List.mem_of_getElem? (i := 764) (by decide +kernel)) rfl, w0_J0, rfl, by decide, by decide⟩
abbrev mJ3_checkIndex_8e157 : z_M := (yJ3_checkIndex_8e157, cJ3_checkIndex_8e157, 3, some .int)
theorem wm_J3_checkIndex_8e157 : z_mw mJ3_checkIndex_8e157 := ⟨z_TBm (List.mem_of_getElem? (i := 769) (by decide +kernel)) rfl, w0_J3, rfl, by decide, by decide⟩
abbrev mJ2_charAt_3b067 : z_M := (yJ2_charAt_3b067, cJ2_charAt_3b067, 2, some .char)
theorem wm_J2_charAt_3b067 : z_mw mJ2_charAt_3b067 := ⟨z_TBm (List.mem_of_getElem? (i := 772) (by decide +kernel)) rfl, w0_J2, rfl, by decide, by decide⟩
abbrev mJ2_checkIndex_2214a : z_M := (yJ2_checkIndex_2214a, cJ2_checkIndex_2214a, 2, none)
theorem wm_J2_checkIndex_2214a : z_mw mJ2_checkIndex_2214a := ⟨z_TBm (List.mem_of_getElem? (i := 775) (by decide +kernel)) rfl, w0_J2, rfl, by decide, by decide⟩
abbrev mJ2_length_9d52b : z_M := (yJ2_length_9d52b, cJ2_length_9d52b, 1, some .int)
theorem wm_J2_length_9d52b : z_mw mJ2_length_9d52b := ⟨z_TBm (List.mem_of_getElem? (i := 778) (by decide +kernel)) rfl, w0_J2, rfl, by decide, by decide⟩
abbrev mJ2_getChar_3b067 : z_M := (yJ2_getChar_3b067, cJ2_getChar_3b067, 2, some .char)
theorem wm_J2_getChar_3b067 : z_mw mJ2_getChar_3b067 := ⟨z_TBm (List.mem_of_getElem? (i := 782) (by decide +kernel)) rfl, w0_J2, rfl, by decide, by decide⟩
abbrev mX6_shapeOf : z_M := (yX6_shapeOf, cX6_shapeOf, 1, some (.object "java/lang/String"))
theorem wm_X6_shapeOf : z_mw mX6_shapeOf := ⟨z_TBm (List.mem_of_getElem? (i := 798) (by decide +kernel)) rfl, w0_X6, rfl, by decide, by decide⟩
abbrev mX6_readPart : z_M := (yX6_readPart, cX6_readPart, 3, some .boolean)
theorem wm_X6_readPart : z_mw mX6_readPart := ⟨z_TBm (List.mem_of_getElem? (i := 808) (by decide +kernel)) rfl, w0_X6, rfl, by decide, by decide⟩
abbrev mX6_readNumber : z_M := (yX6_readNumber, cX6_readNumber, 7, some .boolean)
theorem wm_X6_readNumber : z_mw mX6_readNumber := ⟨z_TBm (List.mem_of_getElem? (i := 812) (by decide +kernel)) rfl, w0_X6, rfl, by decide, by decide⟩
abbrev mX6_readKind : z_M := (yX6_readKind, cX6_readKind, 4, some .boolean)
theorem wm_X6_readKind : z_mw mX6_readKind := ⟨z_TBm (List.mem_of_getElem? (i := 819) (by decide +kernel)) rfl, w0_X6, rfl, by decide, by decide⟩
abbrev mX2_keep : z_M := (yX2_keep, cX2_keep, 2, none)
theorem wm_X2_keep : z_mw mX2_keep := ⟨z_TBm (List.mem_of_getElem? (i := 823) (by decide +kernel)) rfl, w0_X2, rfl, by decide, by decide⟩
abbrev mX0_copyFrom : z_M := (yX0_copyFrom, cX0_copyFrom, 3, none)
theorem wm_X0_copyFrom : z_mw mX0_copyFrom := ⟨z_TBm (List.mem_of_getElem? (i := 827) (by decide +kernel)) rfl, w0_X0, rfl, by decide, by decide⟩
abbrev mX6_doneOn : z_M := (yX6_doneOn, cX6_doneOn, 2, some .int)
theorem wm_X6_doneOn : z_mw mX6_doneOn := ⟨z_TBm (List.mem_of_getElem? (i := 835) (by decide +kernel)) rfl, w0_X6, rfl, by decide, by decide⟩
abbrev mX6_doSteps : z_M := (yX6_doSteps, cX6_doSteps, 8, none)
theorem wm_X6_doSteps : z_mw mX6_doSteps := ⟨z_TBm (List.mem_of_getElem? (i := 839) (by decide +kernel)) rfl, w0_X6, rfl, by decide, by decide⟩
abbrev mX6_beginStep : z_M := (yX6_beginStep, cX6_beginStep, 3, none)
theorem wm_X6_beginStep : z_mw mX6_beginStep := ⟨z_TBm (List.mem_of_getElem? (i := 843) (by decide +kernel)) rfl, w0_X6, rfl, by decide, by decide⟩
abbrev mX6_doStep : z_M := (yX6_doStep, cX6_doStep, 4, some .boolean)
theorem wm_X6_doStep : z_mw mX6_doStep := ⟨z_TBm (List.mem_of_getElem? (i := 847) (by decide +kernel)) rfl, w0_X6, rfl, by decide, by decide⟩
abbrev mX0_readAll : z_M := (yX0_readAll, cX0_readAll, 2, some .boolean)
theorem wm_X0_readAll : z_mw mX0_readAll := ⟨z_TBm (List.mem_of_getElem? (i := 851) (by decide +kernel)) rfl, w0_X0, rfl, by decide, by decide⟩
abbrev mX0_loudOnes : z_M := (yX0_loudOnes, cX0_loudOnes, 4, some .int)
theorem wm_X0_loudOnes : z_mw mX0_loudOnes := ⟨z_TBm (List.mem_of_getElem? (i := 855) (by decide +kernel)) rfl, w0_X0, rfl, by decide, by decide⟩
abbrev mJ6_bitCount_0f7a4 : z_M := (yJ6_bitCount_0f7a4, cJ6_bitCount_0f7a4, 1, some .int)
theorem wm_J6_bitCount_0f7a4 : z_mw mJ6_bitCount_0f7a4 := ⟨z_TBm (List.mem_of_getElem? (i := 858) (by decide +kernel)) rfl, w0_J6, rfl, by decide, by decide⟩
abbrev mX10_fault : z_M := (yX10_fault, cX10_fault, 1, some .int)
theorem wm_X10_fault : z_mw mX10_fault := ⟨z_TBm (List.mem_of_getElem? (i := 866) (by decide +kernel)) rfl, w0_X10, rfl, by decide, by decide⟩
abbrev mX10_now : z_M := (yX10_now, cX10_now, 2, some .int)
theorem wm_X10_now : z_mw mX10_now := ⟨z_TBm (List.mem_of_getElem? (i := 870) (by decide +kernel)) rfl, w0_X10, rfl, by decide, by decide⟩
abbrev mX10_reading : z_M := (yX10_reading, cX10_reading, 3, some .int)
theorem wm_X10_reading : z_mw mX10_reading := ⟨z_TBm (List.mem_of_getElem? (i := 875) (by decide +kernel)) rfl, w0_X10, rfl, by decide, by decide⟩
abbrev mX10_isKind : z_M := (yX10_isKind, cX10_isKind, 1, some .boolean)
theorem wm_X10_isKind : z_mw mX10_isKind := ⟨z_TBm (List.mem_of_getElem? (i := 878) (by decide +kernel)) rfl, w0_X10, rfl, by decide, by decide⟩
abbrev mX10_isRound : z_M := (yX10_isRound, cX10_isRound, 2, some .boolean)
theorem wm_X10_isRound : z_mw mX10_isRound := ⟨z_TBm (List.mem_of_getElem? (i := 882) (by decide +kernel)) rfl, w0_X10, rfl, by decide, by decide⟩
abbrev mX10_events : z_M := (yX10_events, cX10_events, 2, some .int)
theorem wm_X10_events : z_mw mX10_events := ⟨z_TBm (List.mem_of_getElem? (i := 886) (by decide +kernel)) rfl, w0_X10, rfl, by decide, by decide⟩
abbrev mX4_spread : z_M := (yX4_spread, cX4_spread, 4, none)
theorem wm_X4_spread : z_mw mX4_spread := ⟨z_TBm (List.mem_of_getElem? (i := 890) (by decide +kernel)) rfl, w0_X4, rfl, by decide, by decide⟩
abbrev mX4_joinWithin : z_M := (yX4_joinWithin, cX4_joinWithin, 7, none)
theorem wm_X4_joinWithin : z_mw mX4_joinWithin := ⟨z_TBm (List.mem_of_getElem? (i := 895) (by decide +kernel)) rfl, w0_X4, rfl, by decide, by decide⟩
abbrev mX4_join : z_M := (yX4_join, cX4_join, 4, none)
theorem wm_X4_join : z_mw mX4_join := ⟨z_TBm (List.mem_of_getElem? (i := 899) (by decide +kernel)) rfl, w0_X4, rfl, by decide, by decide⟩
abbrev mX4_link : z_M := (yX4_link, cX4_link, 3, none)
theorem wm_X4_link : z_mw mX4_link := ⟨z_TBm (List.mem_of_getElem? (i := 903) (by decide +kernel)) rfl, w0_X4, rfl, by decide, by decide⟩
abbrev mX4_joinToNext : z_M := (yX4_joinToNext, cX4_joinToNext, 5, none)
theorem wm_X4_joinToNext : z_mw mX4_joinToNext := ⟨z_TBm (List.mem_of_getElem? (i := 907) (by decide +kernel)) rfl, w0_X4, rfl, by decide, by decide⟩
abbrev mX4_findEvents : z_M := (yX4_findEvents, cX4_findEvents, 8, none)
theorem wm_X4_findEvents : z_mw mX4_findEvents := ⟨z_TBm (List.mem_of_getElem? (i := 911) (by decide +kernel)) rfl, w0_X4, rfl, by decide, by decide⟩
abbrev mX10_event : z_M := (yX10_event, cX10_event, 4, some .int)
theorem wm_X10_event : z_mw mX10_event := ⟨z_TBm (List.mem_of_getElem? (i := 916) (by decide +kernel)) rfl, w0_X10, rfl, by decide, by decide⟩
abbrev mX4_hasEvent : z_M := (yX4_hasEvent, cX4_hasEvent, 2, some .boolean)
theorem wm_X4_hasEvent : z_mw mX4_hasEvent := ⟨z_TBm (List.mem_of_getElem? (i := 920) (by decide +kernel)) rfl, w0_X4, rfl, by decide, by decide⟩
abbrev mX10_far : z_M := (yX10_far, cX10_far, 4, some .int)
theorem wm_X10_far : z_mw mX10_far := ⟨z_TBm (List.mem_of_getElem? (i := 924) (by decide +kernel)) rfl, w0_X10, rfl, by decide, by decide⟩
abbrev mX10_findWay : z_M := (yX10_findWay, cX10_findWay, 4, some .boolean)
theorem wm_X10_findWay : z_mw mX10_findWay := ⟨z_TBm (List.mem_of_getElem? (i := 928) (by decide +kernel)) rfl, w0_X10, rfl, by decide, by decide⟩
abbrev mX8_seek : z_M := (yX8_seek, cX8_seek, 4, none)
theorem wm_X8_seek : z_mw mX8_seek := ⟨z_TBm (List.mem_of_getElem? (i := 932) (by decide +kernel)) rfl, w0_X8, rfl, by decide, by decide⟩
abbrev mX8_measure : z_M := (yX8_measure, cX8_measure, 8, none)
theorem wm_X8_measure : z_mw mX8_measure := ⟨z_TBm (List.mem_of_getElem? (i := 936) (by decide +kernel)) rfl, w0_X8, rfl, by decide, by decide⟩
abbrev mX8_offerFromBorder : z_M := (yX8_offerFromBorder, cX8_offerFromBorder, 4, none)
theorem wm_X8_offerFromBorder : z_mw mX8_offerFromBorder := ⟨z_TBm (List.mem_of_getElem? (i := 941) (by decide +kernel)) rfl, w0_X8, rfl, by decide, by decide⟩
abbrev mX8_offer : z_M := (yX8_offer, cX8_offer, 4, none)
theorem wm_X8_offer : z_mw mX8_offer := ⟨z_TBm (List.mem_of_getElem? (i := 945) (by decide +kernel)) rfl, w0_X8, rfl, by decide, by decide⟩
abbrev mX8_offerFrom : z_M := (yX8_offerFrom, cX8_offerFrom, 7, none)
theorem wm_X8_offerFrom : z_mw mX8_offerFrom := ⟨z_TBm (List.mem_of_getElem? (i := 949) (by decide +kernel)) rfl, w0_X8, rfl, by decide, by decide⟩
abbrev mX4_nearAt : z_M := (yX4_nearAt, cX4_nearAt, 3, some .int)
theorem wm_X4_nearAt : z_mw mX4_nearAt := ⟨z_TBm (List.mem_of_getElem? (i := 953) (by decide +kernel)) rfl, w0_X4, rfl, by decide, by decide⟩
abbrev mX4_otherEnd : z_M := (yX4_otherEnd, cX4_otherEnd, 3, some .int)
theorem wm_X4_otherEnd : z_mw mX4_otherEnd := ⟨z_TBm (List.mem_of_getElem? (i := 957) (by decide +kernel)) rfl, w0_X4, rfl, by decide, by decide⟩
abbrev mX8_walk : z_M := (yX8_walk, cX8_walk, 8, none)
theorem wm_X8_walk : z_mw mX8_walk := ⟨z_TBm (List.mem_of_getElem? (i := 961) (by decide +kernel)) rfl, w0_X8, rfl, by decide, by decide⟩
abbrev mX8_edgeFrom : z_M := (yX8_edgeFrom, cX8_edgeFrom, 5, some .int)
theorem wm_X8_edgeFrom : z_mw mX8_edgeFrom := ⟨z_TBm (List.mem_of_getElem? (i := 964) (by decide +kernel)) rfl, w0_X8, rfl, by decide, by decide⟩
abbrev mX10_way : z_M := (yX10_way, cX10_way, 5, some .int)
theorem wm_X10_way : z_mw mX10_way := ⟨z_TBm (List.mem_of_getElem? (i := 968) (by decide +kernel)) rfl, w0_X10, rfl, by decide, by decide⟩
abbrev mX10_pair : z_M := (yX10_pair, cX10_pair, 2, some .int)
theorem wm_X10_pair : z_mw mX10_pair := ⟨z_TBm (List.mem_of_getElem? (i := 972) (by decide +kernel)) rfl, w0_X10, rfl, by decide, by decide⟩
abbrev mX10_paired : z_M := (yX10_paired, cX10_paired, 3, some .boolean)
theorem wm_X10_paired : z_mw mX10_paired := ⟨z_TBm (List.mem_of_getElem? (i := 976) (by decide +kernel)) rfl, w0_X10, rfl, by decide, by decide⟩
abbrev mX5_solve : z_M := (yX5_solve, cX5_solve, 4, none)
theorem wm_X5_solve : z_mw mX5_solve := ⟨z_TBm (List.mem_of_getElem? (i := 980) (by decide +kernel)) rfl, w0_X5, rfl, by decide, by decide⟩
abbrev mX5_forgetSets : z_M := (yX5_forgetSets, cX5_forgetSets, 3, none)
theorem wm_X5_forgetSets : z_mw mX5_forgetSets := ⟨z_TBm (List.mem_of_getElem? (i := 986) (by decide +kernel)) rfl, w0_X5, rfl, by decide, by decide⟩
abbrev mX5_leastFor : z_M := (yX5_leastFor, cX5_leastFor, 10, some .int)
theorem wm_X5_leastFor : z_mw mX5_leastFor := ⟨z_TBm (List.mem_of_getElem? (i := 990) (by decide +kernel)) rfl, w0_X5, rfl, by decide, by decide⟩
abbrev mX5_toBorder : z_M := (yX5_toBorder, cX5_toBorder, 2, some .int)
theorem wm_X5_toBorder : z_mw mX5_toBorder := ⟨z_TBm (List.mem_of_getElem? (i := 995) (by decide +kernel)) rfl, w0_X5, rfl, by decide, by decide⟩
abbrev mX5_between : z_M := (yX5_between, cX5_between, 3, some .int)
theorem wm_X5_between : z_mw mX5_between := ⟨z_TBm (List.mem_of_getElem? (i := 999) (by decide +kernel)) rfl, w0_X5, rfl, by decide, by decide⟩
abbrev mX5_choosePartners : z_M := (yX5_choosePartners, cX5_choosePartners, 5, none)
theorem wm_X5_choosePartners : z_mw mX5_choosePartners := ⟨z_TBm (List.mem_of_getElem? (i := 1003) (by decide +kernel)) rfl, w0_X5, rfl, by decide, by decide⟩
abbrev mX5_firstPartner : z_M := (yX5_firstPartner, cX5_firstPartner, 5, some .int)
theorem wm_X5_firstPartner : z_mw mX5_firstPartner := ⟨z_TBm (List.mem_of_getElem? (i := 1007) (by decide +kernel)) rfl, w0_X5, rfl, by decide, by decide⟩
abbrev mX7_keepPairing : z_M := (yX7_keepPairing, cX7_keepPairing, 2, none)
theorem wm_X7_keepPairing : z_mw mX7_keepPairing := ⟨z_TBm (List.mem_of_getElem? (i := 1011) (by decide +kernel)) rfl, w0_X7, rfl, by decide, by decide⟩
abbrev mX10_partner : z_M := (yX10_partner, cX10_partner, 2, some .int)
theorem wm_X10_partner : z_mw mX10_partner := ⟨z_TBm (List.mem_of_getElem? (i := 1016) (by decide +kernel)) rfl, w0_X10, rfl, by decide, by decide⟩
abbrev mX10_pairings : z_M := (yX10_pairings, cX10_pairings, 2, some .int)
theorem wm_X10_pairings : z_mw mX10_pairings := ⟨z_TBm (List.mem_of_getElem? (i := 1020) (by decide +kernel)) rfl, w0_X10, rfl, by decide, by decide⟩
abbrev mX10_grow : z_M := (yX10_grow, cX10_grow, 2, some .int)
theorem wm_X10_grow : z_mw mX10_grow := ⟨z_TBm (List.mem_of_getElem? (i := 1024) (by decide +kernel)) rfl, w0_X10, rfl, by decide, by decide⟩
abbrev mX10_growAndPeel : z_M := (yX10_growAndPeel, cX10_growAndPeel, 3, none)
theorem wm_X10_growAndPeel : z_mw mX10_growAndPeel := ⟨z_TBm (List.mem_of_getElem? (i := 1028) (by decide +kernel)) rfl, w0_X10, rfl, by decide, by decide⟩
abbrev mX1_growClumps : z_M := (yX1_growClumps, cX1_growClumps, 2, none)
theorem wm_X1_growClumps : z_mw mX1_growClumps := ⟨z_TBm (List.mem_of_getElem? (i := 1032) (by decide +kernel)) rfl, w0_X1, rfl, by decide, by decide⟩
abbrev mX1_partAll : z_M := (yX1_partAll, cX1_partAll, 3, none)
theorem wm_X1_partAll : z_mw mX1_partAll := ⟨z_TBm (List.mem_of_getElem? (i := 1037) (by decide +kernel)) rfl, w0_X1, rfl, by decide, by decide⟩
abbrev mX1_markEvents : z_M := (yX1_markEvents, cX1_markEvents, 3, none)
theorem wm_X1_markEvents : z_mw mX1_markEvents := ⟨z_TBm (List.mem_of_getElem? (i := 1041) (by decide +kernel)) rfl, w0_X1, rfl, by decide, by decide⟩
abbrev mX1_findOpen : z_M := (yX1_findOpen, cX1_findOpen, 6, some .boolean)
theorem wm_X1_findOpen : z_mw mX1_findOpen := ⟨z_TBm (List.mem_of_getElem? (i := 1046) (by decide +kernel)) rfl, w0_X1, rfl, by decide, by decide⟩
abbrev mX1_rootOf : z_M := (yX1_rootOf, cX1_rootOf, 4, some .int)
theorem wm_X1_rootOf : z_mw mX1_rootOf := ⟨z_TBm (List.mem_of_getElem? (i := 1050) (by decide +kernel)) rfl, w0_X1, rfl, by decide, by decide⟩
abbrev mX1_growEdges : z_M := (yX1_growEdges, cX1_growEdges, 3, none)
theorem wm_X1_growEdges : z_mw mX1_growEdges := ⟨z_TBm (List.mem_of_getElem? (i := 1054) (by decide +kernel)) rfl, w0_X1, rfl, by decide, by decide⟩
abbrev mX1_joinWhole : z_M := (yX1_joinWhole, cX1_joinWhole, 3, none)
theorem wm_X1_joinWhole : z_mw mX1_joinWhole := ⟨z_TBm (List.mem_of_getElem? (i := 1058) (by decide +kernel)) rfl, w0_X1, rfl, by decide, by decide⟩
abbrev mX1_joinEnds : z_M := (yX1_joinEnds, cX1_joinEnds, 5, some .boolean)
theorem wm_X1_joinEnds : z_mw mX1_joinEnds := ⟨z_TBm (List.mem_of_getElem? (i := 1062) (by decide +kernel)) rfl, w0_X1, rfl, by decide, by decide⟩
abbrev mX1_layForest : z_M := (yX1_layForest, cX1_layForest, 3, none)
theorem wm_X1_layForest : z_mw mX1_layForest := ⟨z_TBm (List.mem_of_getElem? (i := 1066) (by decide +kernel)) rfl, w0_X1, rfl, by decide, by decide⟩
abbrev mX1_addBranch : z_M := (yX1_addBranch, cX1_addBranch, 3, none)
theorem wm_X1_addBranch : z_mw mX1_addBranch := ⟨z_TBm (List.mem_of_getElem? (i := 1070) (by decide +kernel)) rfl, w0_X1, rfl, by decide, by decide⟩
abbrev mX1_peelForest : z_M := (yX1_peelForest, cX1_peelForest, 5, none)
theorem wm_X1_peelForest : z_mw mX1_peelForest := ⟨z_TBm (List.mem_of_getElem? (i := 1074) (by decide +kernel)) rfl, w0_X1, rfl, by decide, by decide⟩
abbrev mX1_isLeaf : z_M := (yX1_isLeaf, cX1_isLeaf, 3, some .boolean)
theorem wm_X1_isLeaf : z_mw mX1_isLeaf := ⟨z_TBm (List.mem_of_getElem? (i := 1078) (by decide +kernel)) rfl, w0_X1, rfl, by decide, by decide⟩
abbrev mX1_peelLeaf : z_M := (yX1_peelLeaf, cX1_peelLeaf, 5, some .int)
theorem wm_X1_peelLeaf : z_mw mX1_peelLeaf := ⟨z_TBm (List.mem_of_getElem? (i := 1082) (by decide +kernel)) rfl, w0_X1, rfl, by decide, by decide⟩
abbrev mX7_keepGrowth : z_M := (yX7_keepGrowth, cX7_keepGrowth, 4, none)
theorem wm_X7_keepGrowth : z_mw mX7_keepGrowth := ⟨z_TBm (List.mem_of_getElem? (i := 1087) (by decide +kernel)) rfl, w0_X7, rfl, by decide, by decide⟩
abbrev mX10_grown : z_M := (yX10_grown, cX10_grown, 2, some .int)
theorem wm_X10_grown : z_mw mX10_grown := ⟨z_TBm (List.mem_of_getElem? (i := 1091) (by decide +kernel)) rfl, w0_X10, rfl, by decide, by decide⟩
abbrev mX10_peeledAt : z_M := (yX10_peeledAt, cX10_peeledAt, 2, some .int)
theorem wm_X10_peeledAt : z_mw mX10_peeledAt := ⟨z_TBm (List.mem_of_getElem? (i := 1095) (by decide +kernel)) rfl, w0_X10, rfl, by decide, by decide⟩
abbrev mX10_blame : z_M := (yX10_blame, cX10_blame, 4, some .int)
theorem wm_X10_blame : z_mw mX10_blame := ⟨z_TBm (List.mem_of_getElem? (i := 1099) (by decide +kernel)) rfl, w0_X10, rfl, by decide, by decide⟩
abbrev mX5_trace : z_M := (yX5_trace, cX5_trace, 4, none)
theorem wm_X5_trace : z_mw mX5_trace := ⟨z_TBm (List.mem_of_getElem? (i := 1103) (by decide +kernel)) rfl, w0_X5, rfl, by decide, by decide⟩
abbrev mX5_flipAlong : z_M := (yX5_flipAlong, cX5_flipAlong, 3, none)
theorem wm_X5_flipAlong : z_mw mX5_flipAlong := ⟨z_TBm (List.mem_of_getElem? (i := 1109) (by decide +kernel)) rfl, w0_X5, rfl, by decide, by decide⟩
abbrev mX4_risesOf : z_M := (yX4_risesOf, cX4_risesOf, 5, some .int)
theorem wm_X4_risesOf : z_mw mX4_risesOf := ⟨z_TBm (List.mem_of_getElem? (i := 1113) (by decide +kernel)) rfl, w0_X4, rfl, by decide, by decide⟩
abbrev mX10_edges : z_M := (yX10_edges, cX10_edges, 2, some .int)
theorem wm_X10_edges : z_mw mX10_edges := ⟨z_TBm (List.mem_of_getElem? (i := 1117) (by decide +kernel)) rfl, w0_X10, rfl, by decide, by decide⟩
abbrev mX10_correction : z_M := (yX10_correction, cX10_correction, 3, some .int)
theorem wm_X10_correction : z_mw mX10_correction := ⟨z_TBm (List.mem_of_getElem? (i := 1121) (by decide +kernel)) rfl, w0_X10, rfl, by decide, by decide⟩
abbrev mX10_correctionOf : z_M := (yX10_correctionOf, cX10_correctionOf, 4, some .int)
theorem wm_X10_correctionOf : z_mw mX10_correctionOf := ⟨z_TBm (List.mem_of_getElem? (i := 1125) (by decide +kernel)) rfl, w0_X10, rfl, by decide, by decide⟩
abbrev mX4_qubitsOf : z_M := (yX4_qubitsOf, cX4_qubitsOf, 5, some .int)
theorem wm_X4_qubitsOf : z_mw mX4_qubitsOf := ⟨z_TBm (List.mem_of_getElem? (i := 1129) (by decide +kernel)) rfl, w0_X4, rfl, by decide, by decide⟩
abbrev mX3_lightestSet : z_M := (yX3_lightestSet, cX3_lightestSet, 4, some .int)
theorem wm_X3_lightestSet : z_mw mX3_lightestSet := ⟨z_TBm (List.mem_of_getElem? (i := 1133) (by decide +kernel)) rfl, w0_X3, rfl, by decide, by decide⟩
abbrev mX3_weighRows : z_M := (yX3_weighRows, cX3_weighRows, 5, none)
theorem wm_X3_weighRows : z_mw mX3_weighRows := ⟨z_TBm (List.mem_of_getElem? (i := 1137) (by decide +kernel)) rfl, w0_X3, rfl, by decide, by decide⟩
abbrev mX3_seekLightest : z_M := (yX3_seekLightest, cX3_seekLightest, 7, none)
theorem wm_X3_seekLightest : z_mw mX3_seekLightest := ⟨z_TBm (List.mem_of_getElem? (i := 1142) (by decide +kernel)) rfl, w0_X3, rfl, by decide, by decide⟩
abbrev mX3_lookAt : z_M := (yX3_lookAt, cX3_lookAt, 3, none)
theorem wm_X3_lookAt : z_mw mX3_lookAt := ⟨z_TBm (List.mem_of_getElem? (i := 1146) (by decide +kernel)) rfl, w0_X3, rfl, by decide, by decide⟩
abbrev mX10_result : z_M := (yX10_result, cX10_result, 3, some .int)
theorem wm_X10_result : z_mw mX10_result := ⟨z_TBm (List.mem_of_getElem? (i := 1150) (by decide +kernel)) rfl, w0_X10, rfl, by decide, by decide⟩
abbrev mX10_resultOf : z_M := (yX10_resultOf, cX10_resultOf, 5, some .int)
theorem wm_X10_resultOf : z_mw mX10_resultOf := ⟨z_TBm (List.mem_of_getElem? (i := 1154) (by decide +kernel)) rfl, w0_X10, rfl, by decide, by decide⟩
abbrev mX9_logicalOf : z_M := (yX9_logicalOf, cX9_logicalOf, 3, some .int)
theorem wm_X9_logicalOf : z_mw mX9_logicalOf := ⟨z_TBm (List.mem_of_getElem? (i := 1158) (by decide +kernel)) rfl, w0_X9, rfl, by decide, by decide⟩
abbrev mX10_correct : z_M := (yX10_correct, cX10_correct, 4, some .int)
theorem wm_X10_correct : z_mw mX10_correct := ⟨z_TBm (List.mem_of_getElem? (i := 1163) (by decide +kernel)) rfl, w0_X10, rfl, by decide, by decide⟩
abbrev mX10_distance : z_M := (yX10_distance, cX10_distance, 2, some .int)
theorem wm_X10_distance : z_mw mX10_distance := ⟨z_TBm (List.mem_of_getElem? (i := 1168) (by decide +kernel)) rfl, w0_X10, rfl, by decide, by decide⟩
abbrev mX3_leastChain : z_M := (yX3_leastChain, cX3_leastChain, 3, some .int)
theorem wm_X3_leastChain : z_mw mX3_leastChain := ⟨z_TBm (List.mem_of_getElem? (i := 1172) (by decide +kernel)) rfl, w0_X3, rfl, by decide, by decide⟩
abbrev mX10_like : z_M := (yX10_like, cX10_like, 4, some .int)
theorem wm_X10_like : z_mw mX10_like := ⟨z_TBm (List.mem_of_getElem? (i := 1176) (by decide +kernel)) rfl, w0_X10, rfl, by decide, by decide⟩
abbrev mX10_isLogical : z_M := (yX10_isLogical, cX10_isLogical, 1, some .boolean)
theorem wm_X10_isLogical : z_mw mX10_isLogical := ⟨z_TBm (List.mem_of_getElem? (i := 1179) (by decide +kernel)) rfl, w0_X10, rfl, by decide, by decide⟩
abbrev mX3_countSizes : z_M := (yX3_countSizes, cX3_countSizes, 8, none)
theorem wm_X3_countSizes : z_mw mX3_countSizes := ⟨z_TBm (List.mem_of_getElem? (i := 1183) (by decide +kernel)) rfl, w0_X3, rfl, by decide, by decide⟩
abbrev mX10_odds : z_M := (yX10_odds, cX10_odds, 5, some .long)
theorem wm_X10_odds : z_mw mX10_odds := ⟨z_TBm (List.mem_of_getElem? (i := 1190) (by decide +kernel)) rfl, w0_X10, rfl, by decide, by decide⟩
abbrev mX10_isFactor : z_M := (yX10_isFactor, cX10_isFactor, 1, some .boolean)
theorem wm_X10_isFactor : z_mw mX10_isFactor := ⟨z_TBm (List.mem_of_getElem? (i := 1193) (by decide +kernel)) rfl, w0_X10, rfl, by decide, by decide⟩
abbrev mX3_chances : z_M := (yX3_chances, cX3_chances, 11, some .long)
theorem wm_X3_chances : z_mw mX3_chances := ⟨z_TBm (List.mem_of_getElem? (i := 1198) (by decide +kernel)) rfl, w0_X3, rfl, by decide, by decide⟩
abbrev mX3_power : z_M := (yX3_power, cX3_power, 5, some .long)
theorem wm_X3_power : z_mw mX3_power := ⟨z_TBm (List.mem_of_getElem? (i := 1201) (by decide +kernel)) rfl, w0_X3, rfl, by decide, by decide⟩
abbrev mX3_times : z_M := (yX3_times, cX3_times, 4, some .long)
theorem wm_X3_times : z_mw mX3_times := ⟨z_TBm (List.mem_of_getElem? (i := 1204) (by decide +kernel)) rfl, w0_X3, rfl, by decide, by decide⟩
abbrev mX10_press : z_M := (yX10_press, cX10_press, 4, some .int)
theorem wm_X10_press : z_mw mX10_press := ⟨z_TBm (List.mem_of_getElem? (i := 1210) (by decide +kernel)) rfl, w0_X10, rfl, by decide, by decide⟩
abbrev mX10_isCheck : z_M := (yX10_isCheck, cX10_isCheck, 3, some .boolean)
theorem wm_X10_isCheck : z_mw mX10_isCheck := ⟨z_TBm (List.mem_of_getElem? (i := 1214) (by decide +kernel)) rfl, w0_X10, rfl, by decide, by decide⟩
abbrev mX10_chain : z_M := (yX10_chain, cX10_chain, 2, some .int)
theorem wm_X10_chain : z_mw mX10_chain := ⟨z_TBm (List.mem_of_getElem? (i := 1218) (by decide +kernel)) rfl, w0_X10, rfl, by decide, by decide⟩
abbrev mX10_line : z_M := (yX10_line, cX10_line, 2, some .int)
theorem wm_X10_line : z_mw mX10_line := ⟨z_TBm (List.mem_of_getElem? (i := 1222) (by decide +kernel)) rfl, w0_X10, rfl, by decide, by decide⟩
abbrev mX7_drawLine : z_M := (yX7_drawLine, cX7_drawLine, 3, none)
theorem wm_X7_drawLine : z_mw mX7_drawLine := ⟨z_TBm (List.mem_of_getElem? (i := 1226) (by decide +kernel)) rfl, w0_X7, rfl, by decide, by decide⟩
abbrev mX7_drawChecks : z_M := (yX7_drawChecks, cX7_drawChecks, 8, none)
theorem wm_X7_drawChecks : z_mw mX7_drawChecks := ⟨z_TBm (List.mem_of_getElem? (i := 1231) (by decide +kernel)) rfl, w0_X7, rfl, by decide, by decide⟩
abbrev mX7_drawQubits : z_M := (yX7_drawQubits, cX7_drawQubits, 8, none)
theorem wm_X7_drawQubits : z_mw mX7_drawQubits := ⟨z_TBm (List.mem_of_getElem? (i := 1236) (by decide +kernel)) rfl, w0_X7, rfl, by decide, by decide⟩
abbrev mX10_byteAt : z_M := (yX10_byteAt, cX10_byteAt, 2, some .int)
theorem wm_X10_byteAt : z_mw mX10_byteAt := ⟨z_TBm (List.mem_of_getElem? (i := 1240) (by decide +kernel)) rfl, w0_X10, rfl, by decide, by decide⟩
abbrev mX10_fewest : z_M := (yX10_fewest, cX10_fewest, 3, some .int)
theorem wm_X10_fewest : z_mw mX10_fewest := ⟨z_TBm (List.mem_of_getElem? (i := 1244) (by decide +kernel)) rfl, w0_X10, rfl, by decide, by decide⟩
abbrev mX3_leastSize : z_M := (yX3_leastSize, cX3_leastSize, 3, some .int)
theorem wm_X3_leastSize : z_mw mX3_leastSize := ⟨z_TBm (List.mem_of_getElem? (i := 1248) (by decide +kernel)) rfl, w0_X3, rfl, by decide, by decide⟩
abbrev mX10_drawn : z_M := (yX10_drawn, cX10_drawn, 4, some .int)
theorem wm_X10_drawn : z_mw mX10_drawn := ⟨z_TBm (List.mem_of_getElem? (i := 1252) (by decide +kernel)) rfl, w0_X10, rfl, by decide, by decide⟩
abbrev mX10_canBeDrawn : z_M := (yX10_canBeDrawn, cX10_canBeDrawn, 3, some .boolean)
theorem wm_X10_canBeDrawn : z_mw mX10_canBeDrawn := ⟨z_TBm (List.mem_of_getElem? (i := 1256) (by decide +kernel)) rfl, w0_X10, rfl, by decide, by decide⟩
abbrev mX0_drawRounds : z_M := (yX0_drawRounds, cX0_drawRounds, 9, some .int)
theorem wm_X0_drawRounds : z_mw mX0_drawRounds := ⟨z_TBm (List.mem_of_getElem? (i := 1260) (by decide +kernel)) rfl, w0_X0, rfl, by decide, by decide⟩
abbrev mX0_drawBehind : z_M := (yX0_drawBehind, cX0_drawBehind, 1, some .int)
theorem wm_X0_drawBehind : z_mw mX0_drawBehind := ⟨z_TBm (List.mem_of_getElem? (i := 1263) (by decide +kernel)) rfl, w0_X0, rfl, by decide, by decide⟩
abbrev mX0_drawOf : z_M := (yX0_drawOf, cX0_drawOf, 1, some .int)
theorem wm_X0_drawOf : z_mw mX0_drawOf := ⟨z_TBm (List.mem_of_getElem? (i := 1267) (by decide +kernel)) rfl, w0_X0, rfl, by decide, by decide⟩
abbrev mX0_slipByDraw : z_M := (yX0_slipByDraw, cX0_slipByDraw, 5, some .int)
theorem wm_X0_slipByDraw : z_mw mX0_slipByDraw := ⟨z_TBm (List.mem_of_getElem? (i := 1271) (by decide +kernel)) rfl, w0_X0, rfl, by decide, by decide⟩
abbrev mX10_often : z_M := (yX10_often, cX10_often, 9, some .int)
theorem wm_X10_often : z_mw mX10_often := ⟨z_TBm (List.mem_of_getElem? (i := 1276) (by decide +kernel)) rfl, w0_X10, rfl, by decide, by decide⟩
abbrev mX10_undo : z_M := (yX10_undo, cX10_undo, 1, some .int)
theorem wm_X10_undo : z_mw mX10_undo := ⟨z_TBm (List.mem_of_getElem? (i := 1281) (by decide +kernel)) rfl, w0_X10, rfl, by decide, by decide⟩
abbrev mX2_takeBack : z_M := (yX2_takeBack, cX2_takeBack, 2, none)
theorem wm_X2_takeBack : z_mw mX2_takeBack := ⟨z_TBm (List.mem_of_getElem? (i := 1285) (by decide +kernel)) rfl, w0_X2, rfl, by decide, by decide⟩
abbrev mX10_image : z_M := (yX10_image, cX10_image, 2, some .boolean)
theorem wm_X10_image : z_mw mX10_image := ⟨z_TBm (List.mem_of_getElem? (i := 1289) (by decide +kernel)) rfl, w0_X10, rfl, by decide, by decide⟩
abbrev mX10_restore : z_M := (yX10_restore, cX10_restore, 2, some .boolean)
theorem wm_X10_restore : z_mw mX10_restore := ⟨z_TBm (List.mem_of_getElem? (i := 1293) (by decide +kernel)) rfl, w0_X10, rfl, by decide, by decide⟩
abbrev mX10_check : z_M := (yX10_check, cX10_check, 4, some .int)
theorem wm_X10_check : z_mw mX10_check := ⟨z_TBm (List.mem_of_getElem? (i := 1301) (by decide +kernel)) rfl, w0_X10, rfl, by decide, by decide⟩
abbrev mX10_qubit : z_M := (yX10_qubit, cX10_qubit, 3, some .int)
theorem wm_X10_qubit : z_mw mX10_qubit := ⟨z_TBm (List.mem_of_getElem? (i := 1369) (by decide +kernel)) rfl, w0_X10, rfl, by decide, by decide⟩
abbrev mX10_edge : z_M := (yX10_edge, cX10_edge, 4, some .int)
theorem wm_X10_edge : z_mw mX10_edge := ⟨z_TBm (List.mem_of_getElem? (i := 1377) (by decide +kernel)) rfl, w0_X10, rfl, by decide, by decide⟩
abbrev mX11_thrown : z_M := (yX11_thrown, cX11_thrown, 1, some .int)
theorem wm_X11_thrown : z_mw mX11_thrown := ⟨z_TBm (List.mem_of_getElem? (i := 1381) (by decide +kernel)) rfl, w0_X11, rfl, by decide, by decide⟩
abbrev mX11_init : z_M := (yX11_init, cX11_init, 1, none)
theorem wm_X11_init : z_mw mX11_init := ⟨z_TBm (List.mem_of_getElem? (i := 1386) (by decide +kernel)) rfl, w0_X11, rfl, by decide, by decide⟩
abbrev mX11_begins : z_M := (yX11_begins, cX11_begins, 3, none)
theorem wm_X11_begins : z_mw mX11_begins := ⟨z_TBm (List.mem_of_getElem? (i := 1391) (by decide +kernel)) rfl, w0_X11, rfl, by decide, by decide⟩
abbrev mX11_lays : z_M := (yX11_lays, cX11_lays, 5, none)
theorem wm_X11_lays : z_mw mX11_lays := ⟨z_TBm (List.mem_of_getElem? (i := 1395) (by decide +kernel)) rfl, w0_X11, rfl, by decide, by decide⟩
abbrev mX11_qubits : z_M := (yX11_qubits, cX11_qubits, 1, some .int)
theorem wm_X11_qubits : z_mw mX11_qubits := ⟨z_TBm (List.mem_of_getElem? (i := 1399) (by decide +kernel)) rfl, w0_X11, rfl, by decide, by decide⟩
abbrev mX11_d : z_M := (yX11_d, cX11_d, 1, some .int)
theorem wm_X11_d : z_mw mX11_d := ⟨z_TBm (List.mem_of_getElem? (i := 1403) (by decide +kernel)) rfl, w0_X11, rfl, by decide, by decide⟩
abbrev mX11_kindOn : z_M := (yX11_kindOn, cX11_kindOn, 6, some .int)
theorem wm_X11_kindOn : z_mw mX11_kindOn := ⟨z_TBm (List.mem_of_getElem? (i := 1407) (by decide +kernel)) rfl, w0_X11, rfl, by decide, by decide⟩
abbrev mX11_isIn : z_M := (yX11_isIn, cX11_isIn, 3, some .boolean)
theorem wm_X11_isIn : z_mw mX11_isIn := ⟨z_TBm (List.mem_of_getElem? (i := 1410) (by decide +kernel)) rfl, w0_X11, rfl, by decide, by decide⟩
abbrev mX11_bitsOn : z_M := (yX11_bitsOn, cX11_bitsOn, 6, some .int)
theorem wm_X11_bitsOn : z_mw mX11_bitsOn := ⟨z_TBm (List.mem_of_getElem? (i := 1414) (by decide +kernel)) rfl, w0_X11, rfl, by decide, by decide⟩
abbrev mX11_bitOf : z_M := (yX11_bitOf, cX11_bitOf, 2, some .boolean)
theorem wm_X11_bitOf : z_mw mX11_bitOf := ⟨z_TBm (List.mem_of_getElem? (i := 1417) (by decide +kernel)) rfl, w0_X11, rfl, by decide, by decide⟩
abbrev mX11_feed : z_M := (yX11_feed, cX11_feed, 6, some .int)
theorem wm_X11_feed : z_mw mX11_feed := ⟨z_TBm (List.mem_of_getElem? (i := 1619) (by decide +kernel)) rfl, w0_X11, rfl, by decide, by decide⟩
abbrev mX11_four : z_M := (yX11_four, cX11_four, 3, none)
theorem wm_X11_four : z_mw mX11_four := ⟨z_TBm (List.mem_of_getElem? (i := 1623) (by decide +kernel)) rfl, w0_X11, rfl, by decide, by decide⟩
abbrev mX11_end : z_M := (yX11_end, cX11_end, 2, some .boolean)
theorem wm_X11_end : z_mw mX11_end := ⟨z_TBm (List.mem_of_getElem? (i := 1627) (by decide +kernel)) rfl, w0_X11, rfl, by decide, by decide⟩
abbrev mX11_undo : z_M := (yX11_undo, cX11_undo, 1, some .int)
theorem wm_X11_undo : z_mw mX11_undo := ⟨z_TBm (List.mem_of_getElem? (i := 1631) (by decide +kernel)) rfl, w0_X11, rfl, by decide, by decide⟩
abbrev mX11_copies : z_M := (yX11_copies, cX11_copies, 6, none)
theorem wm_X11_copies : z_mw mX11_copies := ⟨z_TBm (List.mem_of_getElem? (i := 1635) (by decide +kernel)) rfl, w0_X11, rfl, by decide, by decide⟩
abbrev mX11_image : z_M := (yX11_image, cX11_image, 2, some .boolean)
theorem wm_X11_image : z_mw mX11_image := ⟨z_TBm (List.mem_of_getElem? (i := 1639) (by decide +kernel)) rfl, w0_X11, rfl, by decide, by decide⟩
abbrev mX11_restore : z_M := (yX11_restore, cX11_restore, 2, some .boolean)
theorem wm_X11_restore : z_mw mX11_restore := ⟨z_TBm (List.mem_of_getElem? (i := 1643) (by decide +kernel)) rfl, w0_X11, rfl, by decide, by decide⟩
abbrev mX11_code : z_M := (yX11_code, cX11_code, 2, some .int)
theorem wm_X11_code : z_mw mX11_code := ⟨z_TBm (List.mem_of_getElem? (i := 1647) (by decide +kernel)) rfl, w0_X11, rfl, by decide, by decide⟩
abbrev mX11_work : z_M := (yX11_work, cX11_work, 1, some .int)
theorem wm_X11_work : z_mw mX11_work := ⟨z_TBm (List.mem_of_getElem? (i := 1651) (by decide +kernel)) rfl, w0_X11, rfl, by decide, by decide⟩
abbrev mX11_bad : z_M := (yX11_bad, cX11_bad, 3, some .boolean)
theorem wm_X11_bad : z_mw mX11_bad := ⟨z_TBm (List.mem_of_getElem? (i := 1655) (by decide +kernel)) rfl, w0_X11, rfl, by decide, by decide⟩
abbrev mX11_reads : z_M := (yX11_reads, cX11_reads, 3, some .boolean)
theorem wm_X11_reads : z_mw mX11_reads := ⟨z_TBm (List.mem_of_getElem? (i := 1659) (by decide +kernel)) rfl, w0_X11, rfl, by decide, by decide⟩
abbrev mX11_peek : z_M := (yX11_peek, cX11_peek, 1, some .int)
theorem wm_X11_peek : z_mw mX11_peek := ⟨z_TBm (List.mem_of_getElem? (i := 1663) (by decide +kernel)) rfl, w0_X11, rfl, by decide, by decide⟩
abbrev mX11_sign : z_M := (yX11_sign, cX11_sign, 2, some .boolean)
theorem wm_X11_sign : z_mw mX11_sign := ⟨z_TBm (List.mem_of_getElem? (i := 1667) (by decide +kernel)) rfl, w0_X11, rfl, by decide, by decide⟩
abbrev mX11_step : z_M := (yX11_step, cX11_step, 4, some .boolean)
theorem wm_X11_step : z_mw mX11_step := ⟨z_TBm (List.mem_of_getElem? (i := 1671) (by decide +kernel)) rfl, w0_X11, rfl, by decide, by decide⟩
abbrev mX11_wordHere : z_M := (yX11_wordHere, cX11_wordHere, 7, some .int)
theorem wm_X11_wordHere : z_mw mX11_wordHere := ⟨z_TBm (List.mem_of_getElem? (i := 1675) (by decide +kernel)) rfl, w0_X11, rfl, by decide, by decide⟩
abbrev mX11_kind : z_M := (yX11_kind, cX11_kind, 3, some .boolean)
theorem wm_X11_kind : z_mw mX11_kind := ⟨z_TBm (List.mem_of_getElem? (i := 1681) (by decide +kernel)) rfl, w0_X11, rfl, by decide, by decide⟩
abbrev mX11_number : z_M := (yX11_number, cX11_number, 7, some .boolean)
theorem wm_X11_number : z_mw mX11_number := ⟨z_TBm (List.mem_of_getElem? (i := 1685) (by decide +kernel)) rfl, w0_X11, rfl, by decide, by decide⟩
abbrev mX11_keeps : z_M := (yX11_keeps, cX11_keeps, 2, none)
theorem wm_X11_keeps : z_mw mX11_keeps := ⟨z_TBm (List.mem_of_getElem? (i := 1689) (by decide +kernel)) rfl, w0_X11, rfl, by decide, by decide⟩
abbrev mX11_doesAll : z_M := (yX11_doesAll, cX11_doesAll, 5, some .int)
theorem wm_X11_doesAll : z_mw mX11_doesAll := ⟨z_TBm (List.mem_of_getElem? (i := 1693) (by decide +kernel)) rfl, w0_X11, rfl, by decide, by decide⟩
abbrev mX11_does : z_M := (yX11_does, cX11_does, 5, some .boolean)
theorem wm_X11_does : z_mw mX11_does := ⟨z_TBm (List.mem_of_getElem? (i := 1697) (by decide +kernel)) rfl, w0_X11, rfl, by decide, by decide⟩
abbrev mX11_round : z_M := (yX11_round, cX11_round, 2, none)
theorem wm_X11_round : z_mw mX11_round := ⟨z_TBm (List.mem_of_getElem? (i := 1701) (by decide +kernel)) rfl, w0_X11, rfl, by decide, by decide⟩
abbrev mX11_loud : z_M := (yX11_loud, cX11_loud, 5, some .int)
theorem wm_X11_loud : z_mw mX11_loud := ⟨z_TBm (List.mem_of_getElem? (i := 1705) (by decide +kernel)) rfl, w0_X11, rfl, by decide, by decide⟩
abbrev mX11_bits : z_M := (yX11_bits, cX11_bits, 3, some .int)
theorem wm_X11_bits : z_mw mX11_bits := ⟨z_TBm (List.mem_of_getElem? (i := 1708) (by decide +kernel)) rfl, w0_X11, rfl, by decide, by decide⟩
abbrev mX11_fault : z_M := (yX11_fault, cX11_fault, 1, some .int)
theorem wm_X11_fault : z_mw mX11_fault := ⟨z_TBm (List.mem_of_getElem? (i := 1712) (by decide +kernel)) rfl, w0_X11, rfl, by decide, by decide⟩
abbrev mX11_events : z_M := (yX11_events, cX11_events, 2, some .int)
theorem wm_X11_events : z_mw mX11_events := ⟨z_TBm (List.mem_of_getElem? (i := 1716) (by decide +kernel)) rfl, w0_X11, rfl, by decide, by decide⟩
abbrev mX11_isKind : z_M := (yX11_isKind, cX11_isKind, 1, some .boolean)
theorem wm_X11_isKind : z_mw mX11_isKind := ⟨z_TBm (List.mem_of_getElem? (i := 1719) (by decide +kernel)) rfl, w0_X11, rfl, by decide, by decide⟩
abbrev mX11_laysNet : z_M := (yX11_laysNet, cX11_laysNet, 8, none)
theorem wm_X11_laysNet : z_mw mX11_laysNet := ⟨z_TBm (List.mem_of_getElem? (i := 1723) (by decide +kernel)) rfl, w0_X11, rfl, by decide, by decide⟩
abbrev mX11_layer : z_M := (yX11_layer, cX11_layer, 3, some .int)
theorem wm_X11_layer : z_mw mX11_layer := ⟨z_TBm (List.mem_of_getElem? (i := 1727) (by decide +kernel)) rfl, w0_X11, rfl, by decide, by decide⟩
abbrev mX11_event : z_M := (yX11_event, cX11_event, 4, some .int)
theorem wm_X11_event : z_mw mX11_event := ⟨z_TBm (List.mem_of_getElem? (i := 1731) (by decide +kernel)) rfl, w0_X11, rfl, by decide, by decide⟩
abbrev mX11_far : z_M := (yX11_far, cX11_far, 4, some .int)
theorem wm_X11_far : z_mw mX11_far := ⟨z_TBm (List.mem_of_getElem? (i := 1735) (by decide +kernel)) rfl, w0_X11, rfl, by decide, by decide⟩
abbrev mX11_isPair : z_M := (yX11_isPair, cX11_isPair, 4, some .boolean)
theorem wm_X11_isPair : z_mw mX11_isPair := ⟨z_TBm (List.mem_of_getElem? (i := 1739) (by decide +kernel)) rfl, w0_X11, rfl, by decide, by decide⟩
abbrev mX11_aims : z_M := (yX11_aims, cX11_aims, 2, none)
theorem wm_X11_aims : z_mw mX11_aims := ⟨z_TBm (List.mem_of_getElem? (i := 1743) (by decide +kernel)) rfl, w0_X11, rfl, by decide, by decide⟩
abbrev mX11_laysLeft : z_M := (yX11_laysLeft, cX11_laysLeft, 6, none)
theorem wm_X11_laysLeft : z_mw mX11_laysLeft := ⟨z_TBm (List.mem_of_getElem? (i := 1747) (by decide +kernel)) rfl, w0_X11, rfl, by decide, by decide⟩
abbrev mX11_way : z_M := (yX11_way, cX11_way, 5, some .int)
theorem wm_X11_way : z_mw mX11_way := ⟨z_TBm (List.mem_of_getElem? (i := 1752) (by decide +kernel)) rfl, w0_X11, rfl, by decide, by decide⟩
abbrev mX11_laysWay : z_M := (yX11_laysWay, cX11_laysWay, 4, none)
theorem wm_X11_laysWay : z_mw mX11_laysWay := ⟨z_TBm (List.mem_of_getElem? (i := 1756) (by decide +kernel)) rfl, w0_X11, rfl, by decide, by decide⟩
abbrev mX11_leads : z_M := (yX11_leads, cX11_leads, 4, some .boolean)
theorem wm_X11_leads : z_mw mX11_leads := ⟨z_TBm (List.mem_of_getElem? (i := 1760) (by decide +kernel)) rfl, w0_X11, rfl, by decide, by decide⟩
abbrev mX11_edges : z_M := (yX11_edges, cX11_edges, 2, some .int)
theorem wm_X11_edges : z_mw mX11_edges := ⟨z_TBm (List.mem_of_getElem? (i := 1764) (by decide +kernel)) rfl, w0_X11, rfl, by decide, by decide⟩
abbrev mX11_edge : z_M := (yX11_edge, cX11_edge, 5, some .int)
theorem wm_X11_edge : z_mw mX11_edge := ⟨z_TBm (List.mem_of_getElem? (i := 1768) (by decide +kernel)) rfl, w0_X11, rfl, by decide, by decide⟩
abbrev mX11_throwsIf : z_M := (yX11_throwsIf, cX11_throwsIf, 2, some .boolean)
theorem wm_X11_throwsIf : z_mw mX11_throwsIf := ⟨z_TBm (List.mem_of_getElem? (i := 1772) (by decide +kernel)) rfl, w0_X11, rfl, by decide, by decide⟩
abbrev mX11_pair : z_M := (yX11_pair, cX11_pair, 3, some .int)
theorem wm_X11_pair : z_mw mX11_pair := ⟨z_TBm (List.mem_of_getElem? (i := 1776) (by decide +kernel)) rfl, w0_X11, rfl, by decide, by decide⟩
abbrev mX11_pairs : z_M := (yX11_pairs, cX11_pairs, 4, some .boolean)
theorem wm_X11_pairs : z_mw mX11_pairs := ⟨z_TBm (List.mem_of_getElem? (i := 1780) (by decide +kernel)) rfl, w0_X11, rfl, by decide, by decide⟩
abbrev mX11_best : z_M := (yX11_best, cX11_best, 6, none)
theorem wm_X11_best : z_mw mX11_best := ⟨z_TBm (List.mem_of_getElem? (i := 1784) (by decide +kernel)) rfl, w0_X11, rfl, by decide, by decide⟩
abbrev mX11_lowest : z_M := (yX11_lowest, cX11_lowest, 2, some .int)
theorem wm_X11_lowest : z_mw mX11_lowest := ⟨z_TBm (List.mem_of_getElem? (i := 1787) (by decide +kernel)) rfl, w0_X11, rfl, by decide, by decide⟩
abbrev mX11_costOf : z_M := (yX11_costOf, cX11_costOf, 4, some .int)
theorem wm_X11_costOf : z_mw mX11_costOf := ⟨z_TBm (List.mem_of_getElem? (i := 1791) (by decide +kernel)) rfl, w0_X11, rfl, by decide, by decide⟩
abbrev mX11_chooses : z_M := (yX11_chooses, cX11_chooses, 4, none)
theorem wm_X11_chooses : z_mw mX11_chooses := ⟨z_TBm (List.mem_of_getElem? (i := 1795) (by decide +kernel)) rfl, w0_X11, rfl, by decide, by decide⟩
abbrev mX11_partner : z_M := (yX11_partner, cX11_partner, 2, some .int)
theorem wm_X11_partner : z_mw mX11_partner := ⟨z_TBm (List.mem_of_getElem? (i := 1799) (by decide +kernel)) rfl, w0_X11, rfl, by decide, by decide⟩
abbrev mX11_pairings : z_M := (yX11_pairings, cX11_pairings, 2, some .int)
theorem wm_X11_pairings : z_mw mX11_pairings := ⟨z_TBm (List.mem_of_getElem? (i := 1803) (by decide +kernel)) rfl, w0_X11, rfl, by decide, by decide⟩
abbrev mX11_grow : z_M := (yX11_grow, cX11_grow, 4, some .int)
theorem wm_X11_grow : z_mw mX11_grow := ⟨z_TBm (List.mem_of_getElem? (i := 1807) (by decide +kernel)) rfl, w0_X11, rfl, by decide, by decide⟩
abbrev mX11_grows : z_M := (yX11_grows, cX11_grows, 3, none)
theorem wm_X11_grows : z_mw mX11_grows := ⟨z_TBm (List.mem_of_getElem? (i := 1811) (by decide +kernel)) rfl, w0_X11, rfl, by decide, by decide⟩
abbrev mX11_counts : z_M := (yX11_counts, cX11_counts, 3, some .boolean)
theorem wm_X11_counts : z_mw mX11_counts := ⟨z_TBm (List.mem_of_getElem? (i := 1815) (by decide +kernel)) rfl, w0_X11, rfl, by decide, by decide⟩
abbrev mX11_leaderOf : z_M := (yX11_leaderOf, cX11_leaderOf, 3, some .int)
theorem wm_X11_leaderOf : z_mw mX11_leaderOf := ⟨z_TBm (List.mem_of_getElem? (i := 1819) (by decide +kernel)) rfl, w0_X11, rfl, by decide, by decide⟩
abbrev mX11_opens : z_M := (yX11_opens, cX11_opens, 2, some .int)
theorem wm_X11_opens : z_mw mX11_opens := ⟨z_TBm (List.mem_of_getElem? (i := 1823) (by decide +kernel)) rfl, w0_X11, rfl, by decide, by decide⟩
abbrev mX11_unites : z_M := (yX11_unites, cX11_unites, 5, none)
theorem wm_X11_unites : z_mw mX11_unites := ⟨z_TBm (List.mem_of_getElem? (i := 1827) (by decide +kernel)) rfl, w0_X11, rfl, by decide, by decide⟩
abbrev mX11_peels : z_M := (yX11_peels, cX11_peels, 5, none)
theorem wm_X11_peels : z_mw mX11_peels := ⟨z_TBm (List.mem_of_getElem? (i := 1831) (by decide +kernel)) rfl, w0_X11, rfl, by decide, by decide⟩
abbrev mX11_side : z_M := (yX11_side, cX11_side, 6, none)
theorem wm_X11_side : z_mw mX11_side := ⟨z_TBm (List.mem_of_getElem? (i := 1835) (by decide +kernel)) rfl, w0_X11, rfl, by decide, by decide⟩
abbrev mX11_grown : z_M := (yX11_grown, cX11_grown, 2, some .int)
theorem wm_X11_grown : z_mw mX11_grown := ⟨z_TBm (List.mem_of_getElem? (i := 1839) (by decide +kernel)) rfl, w0_X11, rfl, by decide, by decide⟩
abbrev mX11_peeledAt : z_M := (yX11_peeledAt, cX11_peeledAt, 2, some .int)
theorem wm_X11_peeledAt : z_mw mX11_peeledAt := ⟨z_TBm (List.mem_of_getElem? (i := 1843) (by decide +kernel)) rfl, w0_X11, rfl, by decide, by decide⟩
abbrev mX11_blame : z_M := (yX11_blame, cX11_blame, 4, some .int)
theorem wm_X11_blame : z_mw mX11_blame := ⟨z_TBm (List.mem_of_getElem? (i := 1847) (by decide +kernel)) rfl, w0_X11, rfl, by decide, by decide⟩
abbrev mX11_lays_ : z_M := (yX11_lays_, cX11_lays_, 4, some .boolean)
theorem wm_X11_lays_ : z_mw mX11_lays_ := ⟨z_TBm (List.mem_of_getElem? (i := 1851) (by decide +kernel)) rfl, w0_X11, rfl, by decide, by decide⟩
abbrev mX11_goesWay : z_M := (yX11_goesWay, cX11_goesWay, 2, none)
theorem wm_X11_goesWay : z_mw mX11_goesWay := ⟨z_TBm (List.mem_of_getElem? (i := 1855) (by decide +kernel)) rfl, w0_X11, rfl, by decide, by decide⟩
abbrev mX11_gone : z_M := (yX11_gone, cX11_gone, 7, some .int)
theorem wm_X11_gone : z_mw mX11_gone := ⟨z_TBm (List.mem_of_getElem? (i := 1859) (by decide +kernel)) rfl, w0_X11, rfl, by decide, by decide⟩
abbrev mX11_like : z_M := (yX11_like, cX11_like, 4, some .int)
theorem wm_X11_like : z_mw mX11_like := ⟨z_TBm (List.mem_of_getElem? (i := 1863) (by decide +kernel)) rfl, w0_X11, rfl, by decide, by decide⟩
abbrev mX11_isLike : z_M := (yX11_isLike, cX11_isLike, 3, some .boolean)
theorem wm_X11_isLike : z_mw mX11_isLike := ⟨z_TBm (List.mem_of_getElem? (i := 1867) (by decide +kernel)) rfl, w0_X11, rfl, by decide, by decide⟩
abbrev mX11_likes : z_M := (yX11_likes, cX11_likes, 7, none)
theorem wm_X11_likes : z_mw mX11_likes := ⟨z_TBm (List.mem_of_getElem? (i := 1871) (by decide +kernel)) rfl, w0_X11, rfl, by decide, by decide⟩
abbrev mX11_weightOf : z_M := (yX11_weightOf, cX11_weightOf, 4, some .int)
theorem wm_X11_weightOf : z_mw mX11_weightOf := ⟨z_TBm (List.mem_of_getElem? (i := 1875) (by decide +kernel)) rfl, w0_X11, rfl, by decide, by decide⟩
abbrev mX11_chainOf : z_M := (yX11_chainOf, cX11_chainOf, 2, some .int)
theorem wm_X11_chainOf : z_mw mX11_chainOf := ⟨z_TBm (List.mem_of_getElem? (i := 1879) (by decide +kernel)) rfl, w0_X11, rfl, by decide, by decide⟩
abbrev mX11_rowOrColumn : z_M := (yX11_rowOrColumn, cX11_rowOrColumn, 4, some .int)
theorem wm_X11_rowOrColumn : z_mw mX11_rowOrColumn := ⟨z_TBm (List.mem_of_getElem? (i := 1883) (by decide +kernel)) rfl, w0_X11, rfl, by decide, by decide⟩
abbrev mX11_logical : z_M := (yX11_logical, cX11_logical, 3, some .int)
theorem wm_X11_logical : z_mw mX11_logical := ⟨z_TBm (List.mem_of_getElem? (i := 1887) (by decide +kernel)) rfl, w0_X11, rfl, by decide, by decide⟩
abbrev mX11_fewest : z_M := (yX11_fewest, cX11_fewest, 4, some .int)
theorem wm_X11_fewest : z_mw mX11_fewest := ⟨z_TBm (List.mem_of_getElem? (i := 1891) (by decide +kernel)) rfl, w0_X11, rfl, by decide, by decide⟩
abbrev mX11_distance : z_M := (yX11_distance, cX11_distance, 2, some .int)
theorem wm_X11_distance : z_mw mX11_distance := ⟨z_TBm (List.mem_of_getElem? (i := 1895) (by decide +kernel)) rfl, w0_X11, rfl, by decide, by decide⟩
abbrev mX11_odds : z_M := (yX11_odds, cX11_odds, 11, some .long)
theorem wm_X11_odds : z_mw mX11_odds := ⟨z_TBm (List.mem_of_getElem? (i := 1899) (by decide +kernel)) rfl, w0_X11, rfl, by decide, by decide⟩
abbrev mX11_times : z_M := (yX11_times, cX11_times, 4, some .long)
theorem wm_X11_times : z_mw mX11_times := ⟨z_TBm (List.mem_of_getElem? (i := 1903) (by decide +kernel)) rfl, w0_X11, rfl, by decide, by decide⟩
abbrev mX11_correction : z_M := (yX11_correction, cX11_correction, 3, some .int)
theorem wm_X11_correction : z_mw mX11_correction := ⟨z_TBm (List.mem_of_getElem? (i := 1908) (by decide +kernel)) rfl, w0_X11, rfl, by decide, by decide⟩
abbrev mX11_corrects : z_M := (yX11_corrects, cX11_corrects, 3, some .boolean)
theorem wm_X11_corrects : z_mw mX11_corrects := ⟨z_TBm (List.mem_of_getElem? (i := 1912) (by decide +kernel)) rfl, w0_X11, rfl, by decide, by decide⟩
abbrev mX11_result : z_M := (yX11_result, cX11_result, 3, some .int)
theorem wm_X11_result : z_mw mX11_result := ⟨z_TBm (List.mem_of_getElem? (i := 1916) (by decide +kernel)) rfl, w0_X11, rfl, by decide, by decide⟩
abbrev mX11_correct : z_M := (yX11_correct, cX11_correct, 3, some .int)
theorem wm_X11_correct : z_mw mX11_correct := ⟨z_TBm (List.mem_of_getElem? (i := 1920) (by decide +kernel)) rfl, w0_X11, rfl, by decide, by decide⟩
abbrev mX11_press : z_M := (yX11_press, cX11_press, 3, some .int)
theorem wm_X11_press : z_mw mX11_press := ⟨z_TBm (List.mem_of_getElem? (i := 1924) (by decide +kernel)) rfl, w0_X11, rfl, by decide, by decide⟩
abbrev mX11_isCheck : z_M := (yX11_isCheck, cX11_isCheck, 3, some .boolean)
theorem wm_X11_isCheck : z_mw mX11_isCheck := ⟨z_TBm (List.mem_of_getElem? (i := 1928) (by decide +kernel)) rfl, w0_X11, rfl, by decide, by decide⟩
abbrev mX11_chain : z_M := (yX11_chain, cX11_chain, 2, some .int)
theorem wm_X11_chain : z_mw mX11_chain := ⟨z_TBm (List.mem_of_getElem? (i := 1932) (by decide +kernel)) rfl, w0_X11, rfl, by decide, by decide⟩
abbrev mX11_drawn : z_M := (yX11_drawn, cX11_drawn, 4, some .int)
theorem wm_X11_drawn : z_mw mX11_drawn := ⟨z_TBm (List.mem_of_getElem? (i := 1936) (by decide +kernel)) rfl, w0_X11, rfl, by decide, by decide⟩
abbrev mX11_canDraw : z_M := (yX11_canDraw, cX11_canDraw, 3, some .boolean)
theorem wm_X11_canDraw : z_mw mX11_canDraw := ⟨z_TBm (List.mem_of_getElem? (i := 1940) (by decide +kernel)) rfl, w0_X11, rfl, by decide, by decide⟩
abbrev mX11_draws : z_M := (yX11_draws, cX11_draws, 8, some .int)
theorem wm_X11_draws : z_mw mX11_draws := ⟨z_TBm (List.mem_of_getElem? (i := 1944) (by decide +kernel)) rfl, w0_X11, rfl, by decide, by decide⟩
abbrev mX11_draw : z_M := (yX11_draw, cX11_draw, 2, some .int)
theorem wm_X11_draw : z_mw mX11_draw := ⟨z_TBm (List.mem_of_getElem? (i := 1948) (by decide +kernel)) rfl, w0_X11, rfl, by decide, by decide⟩
abbrev mX11_often : z_M := (yX11_often, cX11_often, 10, some .int)
theorem wm_X11_often : z_mw mX11_often := ⟨z_TBm (List.mem_of_getElem? (i := 1953) (by decide +kernel)) rfl, w0_X11, rfl, by decide, by decide⟩
abbrev mX11_now : z_M := (yX11_now, cX11_now, 2, some .int)
theorem wm_X11_now : z_mw mX11_now := ⟨z_TBm (List.mem_of_getElem? (i := 1957) (by decide +kernel)) rfl, w0_X11, rfl, by decide, by decide⟩
abbrev mX11_check : z_M := (yX11_check, cX11_check, 4, some .int)
theorem wm_X11_check : z_mw mX11_check := ⟨z_TBm (List.mem_of_getElem? (i := 1961) (by decide +kernel)) rfl, w0_X11, rfl, by decide, by decide⟩
abbrev mX11_qubit : z_M := (yX11_qubit, cX11_qubit, 3, some .int)
theorem wm_X11_qubit : z_mw mX11_qubit := ⟨z_TBm (List.mem_of_getElem? (i := 1965) (by decide +kernel)) rfl, w0_X11, rfl, by decide, by decide⟩
abbrev mX11_reading : z_M := (yX11_reading, cX11_reading, 3, some .int)
theorem wm_X11_reading : z_mw mX11_reading := ⟨z_TBm (List.mem_of_getElem? (i := 1969) (by decide +kernel)) rfl, w0_X11, rfl, by decide, by decide⟩
abbrev mX11_line : z_M := (yX11_line, cX11_line, 3, some .int)
theorem wm_X11_line : z_mw mX11_line := ⟨z_TBm (List.mem_of_getElem? (i := 1973) (by decide +kernel)) rfl, w0_X11, rfl, by decide, by decide⟩
abbrev mX11_signOf : z_M := (yX11_signOf, cX11_signOf, 5, some .int)
theorem wm_X11_signOf : z_mw mX11_signOf := ⟨z_TBm (List.mem_of_getElem? (i := 1977) (by decide +kernel)) rfl, w0_X11, rfl, by decide, by decide⟩
abbrev mX11_byteAt : z_M := (yX11_byteAt, cX11_byteAt, 2, some .int)
theorem wm_X11_byteAt : z_mw mX11_byteAt := ⟨z_TBm (List.mem_of_getElem? (i := 1981) (by decide +kernel)) rfl, w0_X11, rfl, by decide, by decide⟩
