/-! THE LAW: the cases of its switch -/
abbrev mL_law : z_M := (yL_law, cL_law, 7, some .boolean)
abbrev l_LS (t : Nat) (a5 a6 : Value) : List Value := [.ref (z_X + 60), .ref 0, .ref 223, .ref 261, .int (nI t), a5, a6]
theorem lg_cmp_self (x : Int64) : lg_cmp x x = 0 := by
  unfold lg_cmp
  rw [if_neg (fun h => Int64.lt_irrefl h), if_pos rfl]
theorem lw_okr {S : z_Shp} (hL : z_L S) {P : Prop} (h : P) : (z_k S 0 ≠ 0 ∨ z_X ≤ 0) ∧ (z_k S 223 ≠ 0 ∨ z_X ≤ 223) ∧ (z_k S 261 ≠ 0 ∨ z_X ≤ 261) ∧ P := ⟨Or.inl (z_k0 (zk_0 hL)), Or.inl (z_k0 (zk_223 hL)), Or.inl (z_k0 (zk_261 hL)), h⟩
theorem lw_xx : z_X ≤ z_X + 60 := Nat.le_add_right _ _
section LC
variable {G : z_G} {d t : Nat} {B : Nat × Nat × Nat} {S : z_Shp} {v : z_Dat} {Q : Option Value → z_Shp → z_Dat → Prop}
theorem lw_arg {pc k : Nat} {kk : Int} {st : List Value} {a5 a6 : Value} (ht : t + k < G.1) (hG : G.1 ≤ 3584) (hk : Int32.ofInt kk = nI k) (hd0 : decode cL_law pc = .ok (.aload_n 0, 1)) (hd1 : decode cL_law (pc + 1) = .ok (.iload 4, 2)) (hd3 : decode cL_law (pc + 3) = .ok (.iconst kk, 1)) (hd4 : decode cL_law (pc + 4) = .ok (.iadd, 1)) (hd5 : decode cL_law (pc + 5) = .ok (.iaload, 1))
    (hj : z_J G d mL_law (pc + 6, l_LS t a5 a6, .int (G.2 (t + k)) :: st, S, v) Q) : z_J G d mL_law (pc, l_LS t a5 a6, st, S, v) Q := by
  refine zj_aload_n hd0 rfl rfl ?_
  refine zj_iload hd1 rfl ?_
  refine zj_iconst hd3 hk ?_
  refine zj_iadd hd4 ?_
  rw [nI_add]
  refine zj_sload hd5 (vp_in_nI ht (by omega)) ?_
  rw [nI_clamp (by omega)]
  exact hj
theorem lw_arg6 {pc : Nat} {st : List Value} {a5 a6 : Value} (ht : t + 6 < G.1) (hG : G.1 ≤ 3584) (hd0 : decode cL_law pc = .ok (.aload_n 0, 1)) (hd1 : decode cL_law (pc + 1) = .ok (.iload 4, 2)) (hd3 : decode cL_law (pc + 3) = .ok (.bipush 6, 2)) (hd4 : decode cL_law (pc + 5) = .ok (.iadd, 1)) (hd5 : decode cL_law (pc + 6) = .ok (.iaload, 1))
    (hj : z_J G d mL_law (pc + 7, l_LS t a5 a6, .int (G.2 (t + 6)) :: st, S, v) Q) : z_J G d mL_law (pc, l_LS t a5 a6, st, S, v) Q := by
  refine zj_aload_n hd0 rfl rfl ?_
  refine zj_iload hd1 rfl ?_
  refine zj_bipush (x := nI 6) hd3 rfl ?_
  refine zj_iadd hd4 ?_
  rw [nI_add]
  refine zj_sload hd5 (vp_in_nI ht (by omega)) ?_
  rw [nI_clamp (by omega)]
  exact hj
theorem lc_feed (hd : 30 ≤ d) (ht : t + 7 ≤ G.1) (hG : G.1 ≤ 3584) (hB : B.1 ≤ 999000) (hI : g_I B S v) (h : ∀ S2 v2, g_I B S2 v2 → z_J G (d + 1) mL_law (1650, l_LS t .null .null, [], S2, v2) Q) : z_J G (d + 1) mL_law (208, l_LS t .null .null, [], S, v) Q := by
  have hL := hI.L
  refine zj_aload_n dL_law_208 rfl rfl ?_
  refine lw_arg (k := 1) (by omega) hG rfl dL_law_209 dL_law_210 dL_law_212 dL_law_213 dL_law_214 ?_
  refine lw_arg (k := 2) (by omega) hG rfl dL_law_215 dL_law_216 dL_law_218 dL_law_219 dL_law_220 ?_
  refine lw_arg (k := 3) (by omega) hG rfl dL_law_221 dL_law_222 dL_law_224 dL_law_225 dL_law_226 ?_
  refine lw_arg (k := 4) (by omega) hG rfl dL_law_227 dL_law_228 dL_law_230 dL_law_231 dL_law_232 ?_
  refine lw_arg (k := 5) (by omega) hG rfl dL_law_233 dL_law_234 dL_law_236 dL_law_237 dL_law_238 ?_
  refine zj_callV (M' := mX10_feed) (avs := [.int (G.2 (t + 1)), .int (G.2 (t + 2)), .int (G.2 (t + 3)), .int (G.2 (t + 4)), .int (G.2 (t + 5))]) (st := []) (ci := 10) dL_law_239 wm_X10_feed wl_L_26 wi_X10_feed ws_X10_feed (by decide) (zk_0 hL) rfl rfl (by decide) rfl (Nat.le_of_ble_eq_true rfl) (Nat.le_of_ble_eq_true rfl) ⟨Or.inr lw_xx, lw_okr hL trivial⟩ trivial (z_J.mono (gx_feed (K := fun S2 v2 => z_J G (d + 1) mL_law (1650, l_LS t .null .null, [], S2, v2) Q) hd hB hI h) (fun r S1 v1 hq => ?_))
  obtain ⟨y, rfl, hL1, hm⟩ := hq
  refine zj_aload_n dL_law_242 rfl rfl ?_
  refine lw_arg (k := 1) (by omega) hG rfl dL_law_243 dL_law_244 dL_law_246 dL_law_247 dL_law_248 ?_
  refine lw_arg (k := 2) (by omega) hG rfl dL_law_249 dL_law_250 dL_law_252 dL_law_253 dL_law_254 ?_
  refine lw_arg (k := 3) (by omega) hG rfl dL_law_255 dL_law_256 dL_law_258 dL_law_259 dL_law_260 ?_
  refine lw_arg (k := 4) (by omega) hG rfl dL_law_261 dL_law_262 dL_law_264 dL_law_265 dL_law_266 ?_
  refine lw_arg (k := 5) (by omega) hG rfl dL_law_267 dL_law_268 dL_law_270 dL_law_271 dL_law_272 ?_
  refine zj_callV (M' := mX11_feed) (avs := [.int (G.2 (t + 1)), .int (G.2 (t + 2)), .int (G.2 (t + 3)), .int (G.2 (t + 4)), .int (G.2 (t + 5))]) (st := [.int y]) (ci := 11) dL_law_273 wm_X11_feed wl_L_30 wi_X11_feed ws_X11_feed (by decide) (zk_223 hL1) rfl rfl (by decide) rfl (Nat.le_of_ble_eq_true rfl) (Nat.le_of_ble_eq_true rfl) ⟨Or.inr lw_xx, lw_okr hL1 trivial⟩ trivial (z_J.mono hm (fun r S2 v2 hq => ?_))
  obtain ⟨rfl, hk⟩ := hq
  exact zj_icmp_eq (tgt := 1650) dL_law_276 (by decide) (fun _ => hk) (fun c => absurd rfl c)
theorem lc_end (hd : 30 ≤ d) (ht : t + 7 ≤ G.1) (hG : G.1 ≤ 3584) (hB : B.1 ≤ 999000) (hI : g_I B S v) (h : ∀ S2 v2, g_I B S2 v2 → z_J G (d + 1) mL_law (1650, l_LS t .null .null, [], S2, v2) Q) : z_J G (d + 1) mL_law (281, l_LS t .null .null, [], S, v) Q := by
  have hL := hI.L
  refine zj_aload_n dL_law_281 rfl rfl ?_
  refine lw_arg (k := 1) (by omega) hG rfl dL_law_282 dL_law_283 dL_law_285 dL_law_286 dL_law_287 ?_
  refine zj_callV (M' := mX10_end) (avs := [.int (G.2 (t + 1))]) (st := []) (ci := 10) dL_law_288 wm_X10_end wl_L_31 wi_X10_end ws_X10_end (by decide) (zk_0 hL) rfl rfl (by decide) rfl (Nat.le_of_ble_eq_true rfl) (Nat.le_of_ble_eq_true rfl) ⟨Or.inr lw_xx, lw_okr hL trivial⟩ trivial (z_J.mono (gx_end (K := fun S2 v2 => z_J G (d + 1) mL_law (1650, l_LS t .null .null, [], S2, v2) Q) hd hB hI h) (fun r S1 v1 hq => ?_))
  obtain ⟨y, rfl, hL1, hm⟩ := hq
  refine zj_aload_n dL_law_291 rfl rfl ?_
  refine lw_arg (k := 1) (by omega) hG rfl dL_law_292 dL_law_293 dL_law_295 dL_law_296 dL_law_297 ?_
  refine zj_callV (M' := mX11_end) (avs := [.int (G.2 (t + 1))]) (st := [.int y]) (ci := 11) dL_law_298 wm_X11_end wl_L_35 wi_X11_end ws_X11_end (by decide) (zk_223 hL1) rfl rfl (by decide) rfl (Nat.le_of_ble_eq_true rfl) (Nat.le_of_ble_eq_true rfl) ⟨Or.inr lw_xx, lw_okr hL1 trivial⟩ trivial (z_J.mono hm (fun r S2 v2 hq => ?_))
  obtain ⟨rfl, hk⟩ := hq
  exact zj_icmp_eq (tgt := 1650) dL_law_301 (by decide) (fun _ => hk) (fun c => absurd rfl c)
theorem lc_code (hd : 30 ≤ d) (ht : t + 7 ≤ G.1) (hG : G.1 ≤ 3584) (hB : B.1 ≤ 999000) (hI : g_I B S v) (h : ∀ S2 v2, g_I B S2 v2 → z_J G (d + 1) mL_law (1650, l_LS t .null .null, [], S2, v2) Q) : z_J G (d + 1) mL_law (306, l_LS t .null .null, [], S, v) Q := by
  have hL := hI.L
  refine zj_aload_n dL_law_306 rfl rfl ?_
  refine lw_arg (k := 1) (by omega) hG rfl dL_law_307 dL_law_308 dL_law_310 dL_law_311 dL_law_312 ?_
  refine zj_callV (M' := mX10_code) (avs := [.int (G.2 (t + 1))]) (st := []) (ci := 10) dL_law_313 wm_X10_code wl_L_36 wi_X10_code ws_X10_code (by decide) (zk_0 hL) rfl rfl (by decide) rfl (Nat.le_of_ble_eq_true rfl) (Nat.le_of_ble_eq_true rfl) ⟨Or.inr lw_xx, lw_okr hL trivial⟩ trivial (z_J.mono (gx_code (K := fun S2 v2 => z_J G (d + 1) mL_law (1650, l_LS t .null .null, [], S2, v2) Q) hd hB hI h) (fun r S1 v1 hq => ?_))
  obtain ⟨y, rfl, hL1, hm⟩ := hq
  refine zj_aload_n dL_law_316 rfl rfl ?_
  refine lw_arg (k := 1) (by omega) hG rfl dL_law_317 dL_law_318 dL_law_320 dL_law_321 dL_law_322 ?_
  refine zj_callV (M' := mX11_code) (avs := [.int (G.2 (t + 1))]) (st := [.int y]) (ci := 11) dL_law_323 wm_X11_code wl_L_40 wi_X11_code ws_X11_code (by decide) (zk_223 hL1) rfl rfl (by decide) rfl (Nat.le_of_ble_eq_true rfl) (Nat.le_of_ble_eq_true rfl) ⟨Or.inr lw_xx, lw_okr hL1 trivial⟩ trivial (z_J.mono hm (fun r S2 v2 hq => ?_))
  obtain ⟨rfl, hk⟩ := hq
  exact zj_icmp_eq (tgt := 1650) dL_law_326 (by decide) (fun _ => hk) (fun c => absurd rfl c)
theorem lc_work (hd : 30 ≤ d) (ht : t + 7 ≤ G.1) (hG : G.1 ≤ 3584) (hB : B.1 ≤ 999000) (hI : g_I B S v) (h : ∀ S2 v2, g_I B S2 v2 → z_J G (d + 1) mL_law (1650, l_LS t .null .null, [], S2, v2) Q) : z_J G (d + 1) mL_law (331, l_LS t .null .null, [], S, v) Q := by
  have hL := hI.L
  refine zj_aload_n dL_law_331 rfl rfl ?_
  refine zj_callV (M' := mX10_work) (avs := []) (st := []) (ci := 10) dL_law_332 wm_X10_work wl_L_41 wi_X10_work ws_X10_work (by decide) (zk_0 hL) rfl rfl (by decide) rfl (Nat.le_of_ble_eq_true rfl) (Nat.le_of_ble_eq_true rfl) ⟨Or.inr lw_xx, lw_okr hL trivial⟩ trivial (z_J.mono (gx_work (K := fun S2 v2 => z_J G (d + 1) mL_law (1650, l_LS t .null .null, [], S2, v2) Q) hd hB hI h) (fun r S1 v1 hq => ?_))
  obtain ⟨y, rfl, hL1, hm⟩ := hq
  refine zj_aload_n dL_law_335 rfl rfl ?_
  refine zj_callV (M' := mX11_work) (avs := []) (st := [.int y]) (ci := 11) dL_law_336 wm_X11_work wl_L_45 wi_X11_work ws_X11_work (by decide) (zk_223 hL1) rfl rfl (by decide) rfl (Nat.le_of_ble_eq_true rfl) (Nat.le_of_ble_eq_true rfl) ⟨Or.inr lw_xx, lw_okr hL1 trivial⟩ trivial (z_J.mono hm (fun r S2 v2 hq => ?_))
  obtain ⟨rfl, hk⟩ := hq
  exact zj_icmp_eq (tgt := 1650) dL_law_339 (by decide) (fun _ => hk) (fun c => absurd rfl c)
theorem lc_fault (hd : 30 ≤ d) (ht : t + 7 ≤ G.1) (hG : G.1 ≤ 3584) (hB : B.1 ≤ 999000) (hI : g_I B S v) (h : ∀ S2 v2, g_I B S2 v2 → z_J G (d + 1) mL_law (1650, l_LS t .null .null, [], S2, v2) Q) : z_J G (d + 1) mL_law (344, l_LS t .null .null, [], S, v) Q := by
  have hL := hI.L
  refine zj_aload_n dL_law_344 rfl rfl ?_
  refine zj_callV (M' := mX10_fault) (avs := []) (st := []) (ci := 10) dL_law_345 wm_X10_fault wl_L_46 wi_X10_fault ws_X10_fault (by decide) (zk_0 hL) rfl rfl (by decide) rfl (Nat.le_of_ble_eq_true rfl) (Nat.le_of_ble_eq_true rfl) ⟨Or.inr lw_xx, lw_okr hL trivial⟩ trivial (z_J.mono (gx_fault (K := fun S2 v2 => z_J G (d + 1) mL_law (1650, l_LS t .null .null, [], S2, v2) Q) hd hB hI h) (fun r S1 v1 hq => ?_))
  obtain ⟨y, rfl, hL1, hm⟩ := hq
  refine zj_aload_n dL_law_348 rfl rfl ?_
  refine zj_callV (M' := mX11_fault) (avs := []) (st := [.int y]) (ci := 11) dL_law_349 wm_X11_fault wl_L_49 wi_X11_fault ws_X11_fault (by decide) (zk_223 hL1) rfl rfl (by decide) rfl (Nat.le_of_ble_eq_true rfl) (Nat.le_of_ble_eq_true rfl) ⟨Or.inr lw_xx, lw_okr hL1 trivial⟩ trivial (z_J.mono hm (fun r S2 v2 hq => ?_))
  obtain ⟨rfl, hk⟩ := hq
  exact zj_icmp_eq (tgt := 1650) dL_law_352 (by decide) (fun _ => hk) (fun c => absurd rfl c)
theorem lc_now (hd : 30 ≤ d) (ht : t + 7 ≤ G.1) (hG : G.1 ≤ 3584) (hB : B.1 ≤ 999000) (hI : g_I B S v) (h : ∀ S2 v2, g_I B S2 v2 → z_J G (d + 1) mL_law (1650, l_LS t .null .null, [], S2, v2) Q) : z_J G (d + 1) mL_law (357, l_LS t .null .null, [], S, v) Q := by
  have hL := hI.L
  refine zj_aload_n dL_law_357 rfl rfl ?_
  refine lw_arg (k := 1) (by omega) hG rfl dL_law_358 dL_law_359 dL_law_361 dL_law_362 dL_law_363 ?_
  refine zj_callV (M' := mX10_now) (avs := [.int (G.2 (t + 1))]) (st := []) (ci := 10) dL_law_364 wm_X10_now wl_L_50 wi_X10_now ws_X10_now (by decide) (zk_0 hL) rfl rfl (by decide) rfl (Nat.le_of_ble_eq_true rfl) (Nat.le_of_ble_eq_true rfl) ⟨Or.inr lw_xx, lw_okr hL trivial⟩ trivial (z_J.mono (gx_now (K := fun S2 v2 => z_J G (d + 1) mL_law (1650, l_LS t .null .null, [], S2, v2) Q) hd hB hI h) (fun r S1 v1 hq => ?_))
  obtain ⟨y, rfl, hL1, hm⟩ := hq
  refine zj_aload_n dL_law_367 rfl rfl ?_
  refine lw_arg (k := 1) (by omega) hG rfl dL_law_368 dL_law_369 dL_law_371 dL_law_372 dL_law_373 ?_
  refine zj_callV (M' := mX11_now) (avs := [.int (G.2 (t + 1))]) (st := [.int y]) (ci := 11) dL_law_374 wm_X11_now wl_L_53 wi_X11_now ws_X11_now (by decide) (zk_223 hL1) rfl rfl (by decide) rfl (Nat.le_of_ble_eq_true rfl) (Nat.le_of_ble_eq_true rfl) ⟨Or.inr lw_xx, lw_okr hL1 trivial⟩ trivial (z_J.mono hm (fun r S2 v2 hq => ?_))
  obtain ⟨rfl, hk⟩ := hq
  exact zj_icmp_eq (tgt := 1650) dL_law_377 (by decide) (fun _ => hk) (fun c => absurd rfl c)
theorem lc_reading (hd : 30 ≤ d) (ht : t + 7 ≤ G.1) (hG : G.1 ≤ 3584) (hB : B.1 ≤ 999000) (hI : g_I B S v) (h : ∀ S2 v2, g_I B S2 v2 → z_J G (d + 1) mL_law (1650, l_LS t .null .null, [], S2, v2) Q) : z_J G (d + 1) mL_law (530, l_LS t .null .null, [], S, v) Q := by
  have hL := hI.L
  refine zj_aload_n dL_law_530 rfl rfl ?_
  refine lw_arg (k := 1) (by omega) hG rfl dL_law_531 dL_law_532 dL_law_534 dL_law_535 dL_law_536 ?_
  refine lw_arg (k := 2) (by omega) hG rfl dL_law_537 dL_law_538 dL_law_540 dL_law_541 dL_law_542 ?_
  refine zj_callV (M' := mX10_reading) (avs := [.int (G.2 (t + 1)), .int (G.2 (t + 2))]) (st := []) (ci := 10) dL_law_543 wm_X10_reading wl_L_67 wi_X10_reading ws_X10_reading (by decide) (zk_0 hL) rfl rfl (by decide) rfl (Nat.le_of_ble_eq_true rfl) (Nat.le_of_ble_eq_true rfl) ⟨Or.inr lw_xx, lw_okr hL trivial⟩ trivial (z_J.mono (gx_reading (K := fun S2 v2 => z_J G (d + 1) mL_law (1650, l_LS t .null .null, [], S2, v2) Q) hd hB hI h) (fun r S1 v1 hq => ?_))
  obtain ⟨y, rfl, hL1, hm⟩ := hq
  refine zj_aload_n dL_law_546 rfl rfl ?_
  refine lw_arg (k := 1) (by omega) hG rfl dL_law_547 dL_law_548 dL_law_550 dL_law_551 dL_law_552 ?_
  refine lw_arg (k := 2) (by omega) hG rfl dL_law_553 dL_law_554 dL_law_556 dL_law_557 dL_law_558 ?_
  refine zj_callV (M' := mX11_reading) (avs := [.int (G.2 (t + 1)), .int (G.2 (t + 2))]) (st := [.int y]) (ci := 11) dL_law_559 wm_X11_reading wl_L_70 wi_X11_reading ws_X11_reading (by decide) (zk_223 hL1) rfl rfl (by decide) rfl (Nat.le_of_ble_eq_true rfl) (Nat.le_of_ble_eq_true rfl) ⟨Or.inr lw_xx, lw_okr hL1 trivial⟩ trivial (z_J.mono hm (fun r S2 v2 hq => ?_))
  obtain ⟨rfl, hk⟩ := hq
  exact zj_icmp_eq (tgt := 1650) dL_law_562 (by decide) (fun _ => hk) (fun c => absurd rfl c)
theorem lc_events (hd : 30 ≤ d) (ht : t + 7 ≤ G.1) (hG : G.1 ≤ 3584) (hB : B.1 ≤ 999000) (hI : g_I B S v) (h : ∀ S2 v2, g_I B S2 v2 → z_J G (d + 1) mL_law (1650, l_LS t .null .null, [], S2, v2) Q) : z_J G (d + 1) mL_law (567, l_LS t .null .null, [], S, v) Q := by
  have hL := hI.L
  refine zj_aload_n dL_law_567 rfl rfl ?_
  refine lw_arg (k := 1) (by omega) hG rfl dL_law_568 dL_law_569 dL_law_571 dL_law_572 dL_law_573 ?_
  refine zj_callV (M' := mX10_events) (avs := [.int (G.2 (t + 1))]) (st := []) (ci := 10) dL_law_574 wm_X10_events wl_L_71 wi_X10_events ws_X10_events (by decide) (zk_0 hL) rfl rfl (by decide) rfl (Nat.le_of_ble_eq_true rfl) (Nat.le_of_ble_eq_true rfl) ⟨Or.inr lw_xx, lw_okr hL trivial⟩ trivial (z_J.mono (gx_events (K := fun S2 v2 => z_J G (d + 1) mL_law (1650, l_LS t .null .null, [], S2, v2) Q) hd hB hI h) (fun r S1 v1 hq => ?_))
  obtain ⟨y, rfl, hL1, hm⟩ := hq
  refine zj_aload_n dL_law_577 rfl rfl ?_
  refine lw_arg (k := 1) (by omega) hG rfl dL_law_578 dL_law_579 dL_law_581 dL_law_582 dL_law_583 ?_
  refine zj_callV (M' := mX11_events) (avs := [.int (G.2 (t + 1))]) (st := [.int y]) (ci := 11) dL_law_584 wm_X11_events wl_L_74 wi_X11_events ws_X11_events (by decide) (zk_223 hL1) rfl rfl (by decide) rfl (Nat.le_of_ble_eq_true rfl) (Nat.le_of_ble_eq_true rfl) ⟨Or.inr lw_xx, lw_okr hL1 trivial⟩ trivial (z_J.mono hm (fun r S2 v2 hq => ?_))
  obtain ⟨rfl, hk⟩ := hq
  exact zj_icmp_eq (tgt := 1650) dL_law_587 (by decide) (fun _ => hk) (fun c => absurd rfl c)
theorem lc_event (hd : 30 ≤ d) (ht : t + 7 ≤ G.1) (hG : G.1 ≤ 3584) (hB : B.1 ≤ 999000) (hI : g_I B S v) (h : ∀ S2 v2, g_I B S2 v2 → z_J G (d + 1) mL_law (1650, l_LS t .null .null, [], S2, v2) Q) : z_J G (d + 1) mL_law (592, l_LS t .null .null, [], S, v) Q := by
  have hL := hI.L
  refine zj_aload_n dL_law_592 rfl rfl ?_
  refine lw_arg (k := 1) (by omega) hG rfl dL_law_593 dL_law_594 dL_law_596 dL_law_597 dL_law_598 ?_
  refine lw_arg (k := 2) (by omega) hG rfl dL_law_599 dL_law_600 dL_law_602 dL_law_603 dL_law_604 ?_
  refine lw_arg (k := 3) (by omega) hG rfl dL_law_605 dL_law_606 dL_law_608 dL_law_609 dL_law_610 ?_
  refine zj_callV (M' := mX10_event) (avs := [.int (G.2 (t + 1)), .int (G.2 (t + 2)), .int (G.2 (t + 3))]) (st := []) (ci := 10) dL_law_611 wm_X10_event wl_L_75 wi_X10_event ws_X10_event (by decide) (zk_0 hL) rfl rfl (by decide) rfl (Nat.le_of_ble_eq_true rfl) (Nat.le_of_ble_eq_true rfl) ⟨Or.inr lw_xx, lw_okr hL trivial⟩ trivial (z_J.mono (gx_event (K := fun S2 v2 => z_J G (d + 1) mL_law (1650, l_LS t .null .null, [], S2, v2) Q) hd hB hI h) (fun r S1 v1 hq => ?_))
  obtain ⟨y, rfl, hL1, hm⟩ := hq
  refine zj_aload_n dL_law_614 rfl rfl ?_
  refine lw_arg (k := 1) (by omega) hG rfl dL_law_615 dL_law_616 dL_law_618 dL_law_619 dL_law_620 ?_
  refine lw_arg (k := 2) (by omega) hG rfl dL_law_621 dL_law_622 dL_law_624 dL_law_625 dL_law_626 ?_
  refine lw_arg (k := 3) (by omega) hG rfl dL_law_627 dL_law_628 dL_law_630 dL_law_631 dL_law_632 ?_
  refine zj_callV (M' := mX11_event) (avs := [.int (G.2 (t + 1)), .int (G.2 (t + 2)), .int (G.2 (t + 3))]) (st := [.int y]) (ci := 11) dL_law_633 wm_X11_event wl_L_78 wi_X11_event ws_X11_event (by decide) (zk_223 hL1) rfl rfl (by decide) rfl (Nat.le_of_ble_eq_true rfl) (Nat.le_of_ble_eq_true rfl) ⟨Or.inr lw_xx, lw_okr hL1 trivial⟩ trivial (z_J.mono hm (fun r S2 v2 hq => ?_))
  obtain ⟨rfl, hk⟩ := hq
  exact zj_icmp_eq (tgt := 1650) dL_law_636 (by decide) (fun _ => hk) (fun c => absurd rfl c)
theorem lc_far (hd : 30 ≤ d) (ht : t + 7 ≤ G.1) (hG : G.1 ≤ 3584) (hB : B.1 ≤ 999000) (hI : g_I B S v) (h : ∀ S2 v2, g_I B S2 v2 → z_J G (d + 1) mL_law (1650, l_LS t .null .null, [], S2, v2) Q) : z_J G (d + 1) mL_law (641, l_LS t .null .null, [], S, v) Q := by
  have hL := hI.L
  refine zj_aload_n dL_law_641 rfl rfl ?_
  refine lw_arg (k := 1) (by omega) hG rfl dL_law_642 dL_law_643 dL_law_645 dL_law_646 dL_law_647 ?_
  refine lw_arg (k := 2) (by omega) hG rfl dL_law_648 dL_law_649 dL_law_651 dL_law_652 dL_law_653 ?_
  refine lw_arg (k := 3) (by omega) hG rfl dL_law_654 dL_law_655 dL_law_657 dL_law_658 dL_law_659 ?_
  refine zj_callV (M' := mX10_far) (avs := [.int (G.2 (t + 1)), .int (G.2 (t + 2)), .int (G.2 (t + 3))]) (st := []) (ci := 10) dL_law_660 wm_X10_far wl_L_79 wi_X10_far ws_X10_far (by decide) (zk_0 hL) rfl rfl (by decide) rfl (Nat.le_of_ble_eq_true rfl) (Nat.le_of_ble_eq_true rfl) ⟨Or.inr lw_xx, lw_okr hL trivial⟩ trivial (z_J.mono (gx_far (K := fun S2 v2 => z_J G (d + 1) mL_law (1650, l_LS t .null .null, [], S2, v2) Q) hd hB hI h) (fun r S1 v1 hq => ?_))
  obtain ⟨y, rfl, hL1, hm⟩ := hq
  refine zj_aload_n dL_law_663 rfl rfl ?_
  refine lw_arg (k := 1) (by omega) hG rfl dL_law_664 dL_law_665 dL_law_667 dL_law_668 dL_law_669 ?_
  refine lw_arg (k := 2) (by omega) hG rfl dL_law_670 dL_law_671 dL_law_673 dL_law_674 dL_law_675 ?_
  refine lw_arg (k := 3) (by omega) hG rfl dL_law_676 dL_law_677 dL_law_679 dL_law_680 dL_law_681 ?_
  refine zj_callV (M' := mX11_far) (avs := [.int (G.2 (t + 1)), .int (G.2 (t + 2)), .int (G.2 (t + 3))]) (st := [.int y]) (ci := 11) dL_law_682 wm_X11_far wl_L_82 wi_X11_far ws_X11_far (by decide) (zk_223 hL1) rfl rfl (by decide) rfl (Nat.le_of_ble_eq_true rfl) (Nat.le_of_ble_eq_true rfl) ⟨Or.inr lw_xx, lw_okr hL1 trivial⟩ trivial (z_J.mono hm (fun r S2 v2 hq => ?_))
  obtain ⟨rfl, hk⟩ := hq
  exact zj_icmp_eq (tgt := 1650) dL_law_685 (by decide) (fun _ => hk) (fun c => absurd rfl c)
theorem lc_way (hd : 30 ≤ d) (ht : t + 7 ≤ G.1) (hG : G.1 ≤ 3584) (hB : B.1 ≤ 999000) (hI : g_I B S v) (h : ∀ S2 v2, g_I B S2 v2 → z_J G (d + 1) mL_law (1650, l_LS t .null .null, [], S2, v2) Q) : z_J G (d + 1) mL_law (690, l_LS t .null .null, [], S, v) Q := by
  have hL := hI.L
  refine zj_aload_n dL_law_690 rfl rfl ?_
  refine lw_arg (k := 1) (by omega) hG rfl dL_law_691 dL_law_692 dL_law_694 dL_law_695 dL_law_696 ?_
  refine lw_arg (k := 2) (by omega) hG rfl dL_law_697 dL_law_698 dL_law_700 dL_law_701 dL_law_702 ?_
  refine lw_arg (k := 3) (by omega) hG rfl dL_law_703 dL_law_704 dL_law_706 dL_law_707 dL_law_708 ?_
  refine lw_arg (k := 4) (by omega) hG rfl dL_law_709 dL_law_710 dL_law_712 dL_law_713 dL_law_714 ?_
  refine zj_callV (M' := mX10_way) (avs := [.int (G.2 (t + 1)), .int (G.2 (t + 2)), .int (G.2 (t + 3)), .int (G.2 (t + 4))]) (st := []) (ci := 10) dL_law_715 wm_X10_way wl_L_83 wi_X10_way ws_X10_way (by decide) (zk_0 hL) rfl rfl (by decide) rfl (Nat.le_of_ble_eq_true rfl) (Nat.le_of_ble_eq_true rfl) ⟨Or.inr lw_xx, lw_okr hL trivial⟩ trivial (z_J.mono (gx_way (K := fun S2 v2 => z_J G (d + 1) mL_law (1650, l_LS t .null .null, [], S2, v2) Q) hd hB hI h) (fun r S1 v1 hq => ?_))
  obtain ⟨y, rfl, hL1, hm⟩ := hq
  refine zj_aload_n dL_law_718 rfl rfl ?_
  refine lw_arg (k := 1) (by omega) hG rfl dL_law_719 dL_law_720 dL_law_722 dL_law_723 dL_law_724 ?_
  refine lw_arg (k := 2) (by omega) hG rfl dL_law_725 dL_law_726 dL_law_728 dL_law_729 dL_law_730 ?_
  refine lw_arg (k := 3) (by omega) hG rfl dL_law_731 dL_law_732 dL_law_734 dL_law_735 dL_law_736 ?_
  refine lw_arg (k := 4) (by omega) hG rfl dL_law_737 dL_law_738 dL_law_740 dL_law_741 dL_law_742 ?_
  refine zj_callV (M' := mX11_way) (avs := [.int (G.2 (t + 1)), .int (G.2 (t + 2)), .int (G.2 (t + 3)), .int (G.2 (t + 4))]) (st := [.int y]) (ci := 11) dL_law_743 wm_X11_way wl_L_87 wi_X11_way ws_X11_way (by decide) (zk_223 hL1) rfl rfl (by decide) rfl (Nat.le_of_ble_eq_true rfl) (Nat.le_of_ble_eq_true rfl) ⟨Or.inr lw_xx, lw_okr hL1 trivial⟩ trivial (z_J.mono hm (fun r S2 v2 hq => ?_))
  obtain ⟨rfl, hk⟩ := hq
  exact zj_icmp_eq (tgt := 1650) dL_law_746 (by decide) (fun _ => hk) (fun c => absurd rfl c)
theorem lc_pair (hd : 30 ≤ d) (ht : t + 7 ≤ G.1) (hG : G.1 ≤ 3584) (hB : B.1 ≤ 999000) (hI : g_I B S v) (h : ∀ S2 v2, g_I B S2 v2 → z_J G (d + 1) mL_law (1650, l_LS t .null .null, [], S2, v2) Q) : z_J G (d + 1) mL_law (751, l_LS t .null .null, [], S, v) Q := by
  have hL := hI.L
  refine zj_aload_n dL_law_751 rfl rfl ?_
  refine lw_arg (k := 1) (by omega) hG rfl dL_law_752 dL_law_753 dL_law_755 dL_law_756 dL_law_757 ?_
  refine zj_callV (M' := mX10_pair) (avs := [.int (G.2 (t + 1))]) (st := []) (ci := 10) dL_law_758 wm_X10_pair wl_L_88 wi_X10_pair ws_X10_pair (by decide) (zk_0 hL) rfl rfl (by decide) rfl (Nat.le_of_ble_eq_true rfl) (Nat.le_of_ble_eq_true rfl) ⟨Or.inr lw_xx, lw_okr hL trivial⟩ trivial (z_J.mono (gx_pair (K := fun S2 v2 => z_J G (d + 1) mL_law (1650, l_LS t .null .null, [], S2, v2) Q) hd hB hI h) (fun r S1 v1 hq => ?_))
  obtain ⟨y, rfl, hL1, hm⟩ := hq
  refine zj_aload_n dL_law_761 rfl rfl ?_
  refine lw_arg (k := 1) (by omega) hG rfl dL_law_762 dL_law_763 dL_law_765 dL_law_766 dL_law_767 ?_
  refine zj_callV (M' := mX11_pair) (avs := [.int (G.2 (t + 1))]) (st := [.int y]) (ci := 11) dL_law_768 wm_X11_pair wl_L_91 wi_X11_pair ws_X11_pair (by decide) (zk_223 hL1) rfl rfl (by decide) rfl (Nat.le_of_ble_eq_true rfl) (Nat.le_of_ble_eq_true rfl) ⟨Or.inr lw_xx, lw_okr hL1 trivial⟩ trivial (z_J.mono hm (fun r S2 v2 hq => ?_))
  obtain ⟨rfl, hk⟩ := hq
  exact zj_icmp_eq (tgt := 1650) dL_law_771 (by decide) (fun _ => hk) (fun c => absurd rfl c)
theorem lc_partner (hd : 30 ≤ d) (ht : t + 7 ≤ G.1) (hG : G.1 ≤ 3584) (hB : B.1 ≤ 999000) (hI : g_I B S v) (h : ∀ S2 v2, g_I B S2 v2 → z_J G (d + 1) mL_law (1650, l_LS t .null .null, [], S2, v2) Q) : z_J G (d + 1) mL_law (776, l_LS t .null .null, [], S, v) Q := by
  have hL := hI.L
  refine zj_aload_n dL_law_776 rfl rfl ?_
  refine lw_arg (k := 1) (by omega) hG rfl dL_law_777 dL_law_778 dL_law_780 dL_law_781 dL_law_782 ?_
  refine zj_callV (M' := mX10_partner) (avs := [.int (G.2 (t + 1))]) (st := []) (ci := 10) dL_law_783 wm_X10_partner wl_L_92 wi_X10_partner ws_X10_partner (by decide) (zk_0 hL) rfl rfl (by decide) rfl (Nat.le_of_ble_eq_true rfl) (Nat.le_of_ble_eq_true rfl) ⟨Or.inr lw_xx, lw_okr hL trivial⟩ trivial (z_J.mono (gx_partner (K := fun S2 v2 => z_J G (d + 1) mL_law (1650, l_LS t .null .null, [], S2, v2) Q) hd hB hI h) (fun r S1 v1 hq => ?_))
  obtain ⟨y, rfl, hL1, hm⟩ := hq
  refine zj_aload_n dL_law_786 rfl rfl ?_
  refine lw_arg (k := 1) (by omega) hG rfl dL_law_787 dL_law_788 dL_law_790 dL_law_791 dL_law_792 ?_
  refine zj_callV (M' := mX11_partner) (avs := [.int (G.2 (t + 1))]) (st := [.int y]) (ci := 11) dL_law_793 wm_X11_partner wl_L_95 wi_X11_partner ws_X11_partner (by decide) (zk_223 hL1) rfl rfl (by decide) rfl (Nat.le_of_ble_eq_true rfl) (Nat.le_of_ble_eq_true rfl) ⟨Or.inr lw_xx, lw_okr hL1 trivial⟩ trivial (z_J.mono hm (fun r S2 v2 hq => ?_))
  obtain ⟨rfl, hk⟩ := hq
  exact zj_icmp_eq (tgt := 1650) dL_law_796 (by decide) (fun _ => hk) (fun c => absurd rfl c)
theorem lc_pairings (hd : 30 ≤ d) (ht : t + 7 ≤ G.1) (hG : G.1 ≤ 3584) (hB : B.1 ≤ 999000) (hI : g_I B S v) (h : ∀ S2 v2, g_I B S2 v2 → z_J G (d + 1) mL_law (1650, l_LS t .null .null, [], S2, v2) Q) : z_J G (d + 1) mL_law (801, l_LS t .null .null, [], S, v) Q := by
  have hL := hI.L
  refine zj_aload_n dL_law_801 rfl rfl ?_
  refine lw_arg (k := 1) (by omega) hG rfl dL_law_802 dL_law_803 dL_law_805 dL_law_806 dL_law_807 ?_
  refine zj_callV (M' := mX10_pairings) (avs := [.int (G.2 (t + 1))]) (st := []) (ci := 10) dL_law_808 wm_X10_pairings wl_L_96 wi_X10_pairings ws_X10_pairings (by decide) (zk_0 hL) rfl rfl (by decide) rfl (Nat.le_of_ble_eq_true rfl) (Nat.le_of_ble_eq_true rfl) ⟨Or.inr lw_xx, lw_okr hL trivial⟩ trivial (z_J.mono (gx_pairings (K := fun S2 v2 => z_J G (d + 1) mL_law (1650, l_LS t .null .null, [], S2, v2) Q) hd hB hI h) (fun r S1 v1 hq => ?_))
  obtain ⟨y, rfl, hL1, hm⟩ := hq
  refine zj_aload_n dL_law_811 rfl rfl ?_
  refine lw_arg (k := 1) (by omega) hG rfl dL_law_812 dL_law_813 dL_law_815 dL_law_816 dL_law_817 ?_
  refine zj_callV (M' := mX11_pairings) (avs := [.int (G.2 (t + 1))]) (st := [.int y]) (ci := 11) dL_law_818 wm_X11_pairings wl_L_99 wi_X11_pairings ws_X11_pairings (by decide) (zk_223 hL1) rfl rfl (by decide) rfl (Nat.le_of_ble_eq_true rfl) (Nat.le_of_ble_eq_true rfl) ⟨Or.inr lw_xx, lw_okr hL1 trivial⟩ trivial (z_J.mono hm (fun r S2 v2 hq => ?_))
  obtain ⟨rfl, hk⟩ := hq
  exact zj_icmp_eq (tgt := 1650) dL_law_821 (by decide) (fun _ => hk) (fun c => absurd rfl c)
theorem lc_grow (hd : 30 ≤ d) (ht : t + 7 ≤ G.1) (hG : G.1 ≤ 3584) (hB : B.1 ≤ 999000) (hI : g_I B S v) (h : ∀ S2 v2, g_I B S2 v2 → z_J G (d + 1) mL_law (1650, l_LS t .null .null, [], S2, v2) Q) : z_J G (d + 1) mL_law (826, l_LS t .null .null, [], S, v) Q := by
  have hL := hI.L
  refine zj_aload_n dL_law_826 rfl rfl ?_
  refine lw_arg (k := 1) (by omega) hG rfl dL_law_827 dL_law_828 dL_law_830 dL_law_831 dL_law_832 ?_
  refine zj_callV (M' := mX10_grow) (avs := [.int (G.2 (t + 1))]) (st := []) (ci := 10) dL_law_833 wm_X10_grow wl_L_100 wi_X10_grow ws_X10_grow (by decide) (zk_0 hL) rfl rfl (by decide) rfl (Nat.le_of_ble_eq_true rfl) (Nat.le_of_ble_eq_true rfl) ⟨Or.inr lw_xx, lw_okr hL trivial⟩ trivial (z_J.mono (gx_grow (K := fun S2 v2 => z_J G (d + 1) mL_law (1650, l_LS t .null .null, [], S2, v2) Q) hd hB hI h) (fun r S1 v1 hq => ?_))
  obtain ⟨y, rfl, hL1, hm⟩ := hq
  refine zj_aload_n dL_law_836 rfl rfl ?_
  refine lw_arg (k := 1) (by omega) hG rfl dL_law_837 dL_law_838 dL_law_840 dL_law_841 dL_law_842 ?_
  refine zj_callV (M' := mX11_grow) (avs := [.int (G.2 (t + 1))]) (st := [.int y]) (ci := 11) dL_law_843 wm_X11_grow wl_L_103 wi_X11_grow ws_X11_grow (by decide) (zk_223 hL1) rfl rfl (by decide) rfl (Nat.le_of_ble_eq_true rfl) (Nat.le_of_ble_eq_true rfl) ⟨Or.inr lw_xx, lw_okr hL1 trivial⟩ trivial (z_J.mono hm (fun r S2 v2 hq => ?_))
  obtain ⟨rfl, hk⟩ := hq
  exact zj_icmp_eq (tgt := 1650) dL_law_846 (by decide) (fun _ => hk) (fun c => absurd rfl c)
theorem lc_grown (hd : 30 ≤ d) (ht : t + 7 ≤ G.1) (hG : G.1 ≤ 3584) (hB : B.1 ≤ 999000) (hI : g_I B S v) (h : ∀ S2 v2, g_I B S2 v2 → z_J G (d + 1) mL_law (1650, l_LS t .null .null, [], S2, v2) Q) : z_J G (d + 1) mL_law (851, l_LS t .null .null, [], S, v) Q := by
  have hL := hI.L
  refine zj_aload_n dL_law_851 rfl rfl ?_
  refine lw_arg (k := 1) (by omega) hG rfl dL_law_852 dL_law_853 dL_law_855 dL_law_856 dL_law_857 ?_
  refine zj_callV (M' := mX10_grown) (avs := [.int (G.2 (t + 1))]) (st := []) (ci := 10) dL_law_858 wm_X10_grown wl_L_104 wi_X10_grown ws_X10_grown (by decide) (zk_0 hL) rfl rfl (by decide) rfl (Nat.le_of_ble_eq_true rfl) (Nat.le_of_ble_eq_true rfl) ⟨Or.inr lw_xx, lw_okr hL trivial⟩ trivial (z_J.mono (gx_grown (K := fun S2 v2 => z_J G (d + 1) mL_law (1650, l_LS t .null .null, [], S2, v2) Q) hd hB hI h) (fun r S1 v1 hq => ?_))
  obtain ⟨y, rfl, hL1, hm⟩ := hq
  refine zj_aload_n dL_law_861 rfl rfl ?_
  refine lw_arg (k := 1) (by omega) hG rfl dL_law_862 dL_law_863 dL_law_865 dL_law_866 dL_law_867 ?_
  refine zj_callV (M' := mX11_grown) (avs := [.int (G.2 (t + 1))]) (st := [.int y]) (ci := 11) dL_law_868 wm_X11_grown wl_L_107 wi_X11_grown ws_X11_grown (by decide) (zk_223 hL1) rfl rfl (by decide) rfl (Nat.le_of_ble_eq_true rfl) (Nat.le_of_ble_eq_true rfl) ⟨Or.inr lw_xx, lw_okr hL1 trivial⟩ trivial (z_J.mono hm (fun r S2 v2 hq => ?_))
  obtain ⟨rfl, hk⟩ := hq
  exact zj_icmp_eq (tgt := 1650) dL_law_871 (by decide) (fun _ => hk) (fun c => absurd rfl c)
theorem lc_peeledAt (hd : 30 ≤ d) (ht : t + 7 ≤ G.1) (hG : G.1 ≤ 3584) (hB : B.1 ≤ 999000) (hI : g_I B S v) (h : ∀ S2 v2, g_I B S2 v2 → z_J G (d + 1) mL_law (1650, l_LS t .null .null, [], S2, v2) Q) : z_J G (d + 1) mL_law (876, l_LS t .null .null, [], S, v) Q := by
  have hL := hI.L
  refine zj_aload_n dL_law_876 rfl rfl ?_
  refine lw_arg (k := 1) (by omega) hG rfl dL_law_877 dL_law_878 dL_law_880 dL_law_881 dL_law_882 ?_
  refine zj_callV (M' := mX10_peeledAt) (avs := [.int (G.2 (t + 1))]) (st := []) (ci := 10) dL_law_883 wm_X10_peeledAt wl_L_108 wi_X10_peeledAt ws_X10_peeledAt (by decide) (zk_0 hL) rfl rfl (by decide) rfl (Nat.le_of_ble_eq_true rfl) (Nat.le_of_ble_eq_true rfl) ⟨Or.inr lw_xx, lw_okr hL trivial⟩ trivial (z_J.mono (gx_peeledAt (K := fun S2 v2 => z_J G (d + 1) mL_law (1650, l_LS t .null .null, [], S2, v2) Q) hd hB hI h) (fun r S1 v1 hq => ?_))
  obtain ⟨y, rfl, hL1, hm⟩ := hq
  refine zj_aload_n dL_law_886 rfl rfl ?_
  refine lw_arg (k := 1) (by omega) hG rfl dL_law_887 dL_law_888 dL_law_890 dL_law_891 dL_law_892 ?_
  refine zj_callV (M' := mX11_peeledAt) (avs := [.int (G.2 (t + 1))]) (st := [.int y]) (ci := 11) dL_law_893 wm_X11_peeledAt wl_L_111 wi_X11_peeledAt ws_X11_peeledAt (by decide) (zk_223 hL1) rfl rfl (by decide) rfl (Nat.le_of_ble_eq_true rfl) (Nat.le_of_ble_eq_true rfl) ⟨Or.inr lw_xx, lw_okr hL1 trivial⟩ trivial (z_J.mono hm (fun r S2 v2 hq => ?_))
  obtain ⟨rfl, hk⟩ := hq
  exact zj_icmp_eq (tgt := 1650) dL_law_896 (by decide) (fun _ => hk) (fun c => absurd rfl c)
theorem lc_blame (hd : 30 ≤ d) (ht : t + 7 ≤ G.1) (hG : G.1 ≤ 3584) (hB : B.1 ≤ 999000) (hI : g_I B S v) (h : ∀ S2 v2, g_I B S2 v2 → z_J G (d + 1) mL_law (1650, l_LS t .null .null, [], S2, v2) Q) : z_J G (d + 1) mL_law (901, l_LS t .null .null, [], S, v) Q := by
  have hL := hI.L
  refine zj_aload_n dL_law_901 rfl rfl ?_
  refine lw_arg (k := 1) (by omega) hG rfl dL_law_902 dL_law_903 dL_law_905 dL_law_906 dL_law_907 ?_
  refine lw_arg (k := 2) (by omega) hG rfl dL_law_908 dL_law_909 dL_law_911 dL_law_912 dL_law_913 ?_
  refine lw_arg (k := 3) (by omega) hG rfl dL_law_914 dL_law_915 dL_law_917 dL_law_918 dL_law_919 ?_
  refine zj_callV (M' := mX10_blame) (avs := [.int (G.2 (t + 1)), .int (G.2 (t + 2)), .int (G.2 (t + 3))]) (st := []) (ci := 10) dL_law_920 wm_X10_blame wl_L_112 wi_X10_blame ws_X10_blame (by decide) (zk_0 hL) rfl rfl (by decide) rfl (Nat.le_of_ble_eq_true rfl) (Nat.le_of_ble_eq_true rfl) ⟨Or.inr lw_xx, lw_okr hL trivial⟩ trivial (z_J.mono (gx_blame (K := fun S2 v2 => z_J G (d + 1) mL_law (1650, l_LS t .null .null, [], S2, v2) Q) hd hB hI h) (fun r S1 v1 hq => ?_))
  obtain ⟨y, rfl, hL1, hm⟩ := hq
  refine zj_aload_n dL_law_923 rfl rfl ?_
  refine lw_arg (k := 1) (by omega) hG rfl dL_law_924 dL_law_925 dL_law_927 dL_law_928 dL_law_929 ?_
  refine lw_arg (k := 2) (by omega) hG rfl dL_law_930 dL_law_931 dL_law_933 dL_law_934 dL_law_935 ?_
  refine lw_arg (k := 3) (by omega) hG rfl dL_law_936 dL_law_937 dL_law_939 dL_law_940 dL_law_941 ?_
  refine zj_callV (M' := mX11_blame) (avs := [.int (G.2 (t + 1)), .int (G.2 (t + 2)), .int (G.2 (t + 3))]) (st := [.int y]) (ci := 11) dL_law_942 wm_X11_blame wl_L_115 wi_X11_blame ws_X11_blame (by decide) (zk_223 hL1) rfl rfl (by decide) rfl (Nat.le_of_ble_eq_true rfl) (Nat.le_of_ble_eq_true rfl) ⟨Or.inr lw_xx, lw_okr hL1 trivial⟩ trivial (z_J.mono hm (fun r S2 v2 hq => ?_))
  obtain ⟨rfl, hk⟩ := hq
  exact zj_icmp_eq (tgt := 1650) dL_law_945 (by decide) (fun _ => hk) (fun c => absurd rfl c)
theorem lc_edges (hd : 30 ≤ d) (ht : t + 7 ≤ G.1) (hG : G.1 ≤ 3584) (hB : B.1 ≤ 999000) (hI : g_I B S v) (h : ∀ S2 v2, g_I B S2 v2 → z_J G (d + 1) mL_law (1650, l_LS t .null .null, [], S2, v2) Q) : z_J G (d + 1) mL_law (950, l_LS t .null .null, [], S, v) Q := by
  have hL := hI.L
  refine zj_aload_n dL_law_950 rfl rfl ?_
  refine lw_arg (k := 1) (by omega) hG rfl dL_law_951 dL_law_952 dL_law_954 dL_law_955 dL_law_956 ?_
  refine zj_callV (M' := mX10_edges) (avs := [.int (G.2 (t + 1))]) (st := []) (ci := 10) dL_law_957 wm_X10_edges wl_L_116 wi_X10_edges ws_X10_edges (by decide) (zk_0 hL) rfl rfl (by decide) rfl (Nat.le_of_ble_eq_true rfl) (Nat.le_of_ble_eq_true rfl) ⟨Or.inr lw_xx, lw_okr hL trivial⟩ trivial (z_J.mono (gx_edges (K := fun S2 v2 => z_J G (d + 1) mL_law (1650, l_LS t .null .null, [], S2, v2) Q) hd hB hI h) (fun r S1 v1 hq => ?_))
  obtain ⟨y, rfl, hL1, hm⟩ := hq
  refine zj_aload_n dL_law_960 rfl rfl ?_
  refine lw_arg (k := 1) (by omega) hG rfl dL_law_961 dL_law_962 dL_law_964 dL_law_965 dL_law_966 ?_
  refine zj_callV (M' := mX11_edges) (avs := [.int (G.2 (t + 1))]) (st := [.int y]) (ci := 11) dL_law_967 wm_X11_edges wl_L_119 wi_X11_edges ws_X11_edges (by decide) (zk_223 hL1) rfl rfl (by decide) rfl (Nat.le_of_ble_eq_true rfl) (Nat.le_of_ble_eq_true rfl) ⟨Or.inr lw_xx, lw_okr hL1 trivial⟩ trivial (z_J.mono hm (fun r S2 v2 hq => ?_))
  obtain ⟨rfl, hk⟩ := hq
  exact zj_icmp_eq (tgt := 1650) dL_law_970 (by decide) (fun _ => hk) (fun c => absurd rfl c)
theorem lc_correction (hd : 30 ≤ d) (ht : t + 7 ≤ G.1) (hG : G.1 ≤ 3584) (hB : B.1 ≤ 999000) (hI : g_I B S v) (h : ∀ S2 v2, g_I B S2 v2 → z_J G (d + 1) mL_law (1650, l_LS t .null .null, [], S2, v2) Q) : z_J G (d + 1) mL_law (1055, l_LS t .null .null, [], S, v) Q := by
  have hL := hI.L
  refine zj_aload_n dL_law_1055 rfl rfl ?_
  refine lw_arg (k := 1) (by omega) hG rfl dL_law_1056 dL_law_1057 dL_law_1059 dL_law_1060 dL_law_1061 ?_
  refine lw_arg (k := 2) (by omega) hG rfl dL_law_1062 dL_law_1063 dL_law_1065 dL_law_1066 dL_law_1067 ?_
  refine zj_callV (M' := mX10_correction) (avs := [.int (G.2 (t + 1)), .int (G.2 (t + 2))]) (st := []) (ci := 10) dL_law_1068 wm_X10_correction wl_L_123 wi_X10_correction ws_X10_correction (by decide) (zk_0 hL) rfl rfl (by decide) rfl (Nat.le_of_ble_eq_true rfl) (Nat.le_of_ble_eq_true rfl) ⟨Or.inr lw_xx, lw_okr hL trivial⟩ trivial (z_J.mono (gx_correction (K := fun S2 v2 => z_J G (d + 1) mL_law (1650, l_LS t .null .null, [], S2, v2) Q) hd hB hI h) (fun r S1 v1 hq => ?_))
  obtain ⟨y, rfl, hL1, hm⟩ := hq
  refine zj_aload_n dL_law_1071 rfl rfl ?_
  refine lw_arg (k := 1) (by omega) hG rfl dL_law_1072 dL_law_1073 dL_law_1075 dL_law_1076 dL_law_1077 ?_
  refine lw_arg (k := 2) (by omega) hG rfl dL_law_1078 dL_law_1079 dL_law_1081 dL_law_1082 dL_law_1083 ?_
  refine zj_callV (M' := mX11_correction) (avs := [.int (G.2 (t + 1)), .int (G.2 (t + 2))]) (st := [.int y]) (ci := 11) dL_law_1084 wm_X11_correction wl_L_126 wi_X11_correction ws_X11_correction (by decide) (zk_223 hL1) rfl rfl (by decide) rfl (Nat.le_of_ble_eq_true rfl) (Nat.le_of_ble_eq_true rfl) ⟨Or.inr lw_xx, lw_okr hL1 trivial⟩ trivial (z_J.mono hm (fun r S2 v2 hq => ?_))
  obtain ⟨rfl, hk⟩ := hq
  exact zj_icmp_eq (tgt := 1650) dL_law_1087 (by decide) (fun _ => hk) (fun c => absurd rfl c)
theorem lc_result (hd : 30 ≤ d) (ht : t + 7 ≤ G.1) (hG : G.1 ≤ 3584) (hB : B.1 ≤ 999000) (hI : g_I B S v) (h : ∀ S2 v2, g_I B S2 v2 → z_J G (d + 1) mL_law (1650, l_LS t .null .null, [], S2, v2) Q) : z_J G (d + 1) mL_law (1092, l_LS t .null .null, [], S, v) Q := by
  have hL := hI.L
  refine zj_aload_n dL_law_1092 rfl rfl ?_
  refine lw_arg (k := 1) (by omega) hG rfl dL_law_1093 dL_law_1094 dL_law_1096 dL_law_1097 dL_law_1098 ?_
  refine lw_arg (k := 2) (by omega) hG rfl dL_law_1099 dL_law_1100 dL_law_1102 dL_law_1103 dL_law_1104 ?_
  refine zj_callV (M' := mX10_result) (avs := [.int (G.2 (t + 1)), .int (G.2 (t + 2))]) (st := []) (ci := 10) dL_law_1105 wm_X10_result wl_L_127 wi_X10_result ws_X10_result (by decide) (zk_0 hL) rfl rfl (by decide) rfl (Nat.le_of_ble_eq_true rfl) (Nat.le_of_ble_eq_true rfl) ⟨Or.inr lw_xx, lw_okr hL trivial⟩ trivial (z_J.mono (gx_result (K := fun S2 v2 => z_J G (d + 1) mL_law (1650, l_LS t .null .null, [], S2, v2) Q) hd hB hI h) (fun r S1 v1 hq => ?_))
  obtain ⟨y, rfl, hL1, hm⟩ := hq
  refine zj_aload_n dL_law_1108 rfl rfl ?_
  refine lw_arg (k := 1) (by omega) hG rfl dL_law_1109 dL_law_1110 dL_law_1112 dL_law_1113 dL_law_1114 ?_
  refine lw_arg (k := 2) (by omega) hG rfl dL_law_1115 dL_law_1116 dL_law_1118 dL_law_1119 dL_law_1120 ?_
  refine zj_callV (M' := mX11_result) (avs := [.int (G.2 (t + 1)), .int (G.2 (t + 2))]) (st := [.int y]) (ci := 11) dL_law_1121 wm_X11_result wl_L_130 wi_X11_result ws_X11_result (by decide) (zk_223 hL1) rfl rfl (by decide) rfl (Nat.le_of_ble_eq_true rfl) (Nat.le_of_ble_eq_true rfl) ⟨Or.inr lw_xx, lw_okr hL1 trivial⟩ trivial (z_J.mono hm (fun r S2 v2 hq => ?_))
  obtain ⟨rfl, hk⟩ := hq
  exact zj_icmp_eq (tgt := 1650) dL_law_1124 (by decide) (fun _ => hk) (fun c => absurd rfl c)
theorem lc_correct (hd : 30 ≤ d) (ht : t + 7 ≤ G.1) (hG : G.1 ≤ 3584) (hB : B.1 ≤ 999000) (hI : g_I B S v) (h : ∀ S2 v2, g_I B S2 v2 → z_J G (d + 1) mL_law (1650, l_LS t .null .null, [], S2, v2) Q) : z_J G (d + 1) mL_law (1129, l_LS t .null .null, [], S, v) Q := by
  have hL := hI.L
  refine zj_aload_n dL_law_1129 rfl rfl ?_
  refine lw_arg (k := 1) (by omega) hG rfl dL_law_1130 dL_law_1131 dL_law_1133 dL_law_1134 dL_law_1135 ?_
  refine lw_arg (k := 2) (by omega) hG rfl dL_law_1136 dL_law_1137 dL_law_1139 dL_law_1140 dL_law_1141 ?_
  refine zj_callV (M' := mX10_correct) (avs := [.int (G.2 (t + 1)), .int (G.2 (t + 2))]) (st := []) (ci := 10) dL_law_1142 wm_X10_correct wl_L_131 wi_X10_correct ws_X10_correct (by decide) (zk_0 hL) rfl rfl (by decide) rfl (Nat.le_of_ble_eq_true rfl) (Nat.le_of_ble_eq_true rfl) ⟨Or.inr lw_xx, lw_okr hL trivial⟩ trivial (z_J.mono (gx_correct (K := fun S2 v2 => z_J G (d + 1) mL_law (1650, l_LS t .null .null, [], S2, v2) Q) hd hB hI h) (fun r S1 v1 hq => ?_))
  obtain ⟨y, rfl, hL1, hm⟩ := hq
  refine zj_aload_n dL_law_1145 rfl rfl ?_
  refine lw_arg (k := 1) (by omega) hG rfl dL_law_1146 dL_law_1147 dL_law_1149 dL_law_1150 dL_law_1151 ?_
  refine lw_arg (k := 2) (by omega) hG rfl dL_law_1152 dL_law_1153 dL_law_1155 dL_law_1156 dL_law_1157 ?_
  refine zj_callV (M' := mX11_correct) (avs := [.int (G.2 (t + 1)), .int (G.2 (t + 2))]) (st := [.int y]) (ci := 11) dL_law_1158 wm_X11_correct wl_L_134 wi_X11_correct ws_X11_correct (by decide) (zk_223 hL1) rfl rfl (by decide) rfl (Nat.le_of_ble_eq_true rfl) (Nat.le_of_ble_eq_true rfl) ⟨Or.inr lw_xx, lw_okr hL1 trivial⟩ trivial (z_J.mono hm (fun r S2 v2 hq => ?_))
  obtain ⟨rfl, hk⟩ := hq
  exact zj_icmp_eq (tgt := 1650) dL_law_1161 (by decide) (fun _ => hk) (fun c => absurd rfl c)
theorem lc_distance (hd : 30 ≤ d) (ht : t + 7 ≤ G.1) (hG : G.1 ≤ 3584) (hB : B.1 ≤ 999000) (hI : g_I B S v) (h : ∀ S2 v2, g_I B S2 v2 → z_J G (d + 1) mL_law (1650, l_LS t .null .null, [], S2, v2) Q) : z_J G (d + 1) mL_law (1166, l_LS t .null .null, [], S, v) Q := by
  have hL := hI.L
  refine zj_aload_n dL_law_1166 rfl rfl ?_
  refine lw_arg (k := 1) (by omega) hG rfl dL_law_1167 dL_law_1168 dL_law_1170 dL_law_1171 dL_law_1172 ?_
  refine zj_callV (M' := mX10_distance) (avs := [.int (G.2 (t + 1))]) (st := []) (ci := 10) dL_law_1173 wm_X10_distance wl_L_135 wi_X10_distance ws_X10_distance (by decide) (zk_0 hL) rfl rfl (by decide) rfl (Nat.le_of_ble_eq_true rfl) (Nat.le_of_ble_eq_true rfl) ⟨Or.inr lw_xx, lw_okr hL trivial⟩ trivial (z_J.mono (gx_distance (K := fun S2 v2 => z_J G (d + 1) mL_law (1650, l_LS t .null .null, [], S2, v2) Q) hd hB hI h) (fun r S1 v1 hq => ?_))
  obtain ⟨y, rfl, hL1, hm⟩ := hq
  refine zj_aload_n dL_law_1176 rfl rfl ?_
  refine lw_arg (k := 1) (by omega) hG rfl dL_law_1177 dL_law_1178 dL_law_1180 dL_law_1181 dL_law_1182 ?_
  refine zj_callV (M' := mX11_distance) (avs := [.int (G.2 (t + 1))]) (st := [.int y]) (ci := 11) dL_law_1183 wm_X11_distance wl_L_138 wi_X11_distance ws_X11_distance (by decide) (zk_223 hL1) rfl rfl (by decide) rfl (Nat.le_of_ble_eq_true rfl) (Nat.le_of_ble_eq_true rfl) ⟨Or.inr lw_xx, lw_okr hL1 trivial⟩ trivial (z_J.mono hm (fun r S2 v2 hq => ?_))
  obtain ⟨rfl, hk⟩ := hq
  exact zj_icmp_eq (tgt := 1650) dL_law_1186 (by decide) (fun _ => hk) (fun c => absurd rfl c)
theorem lc_like (hd : 30 ≤ d) (ht : t + 7 ≤ G.1) (hG : G.1 ≤ 3584) (hB : B.1 ≤ 999000) (hI : g_I B S v) (h : ∀ S2 v2, g_I B S2 v2 → z_J G (d + 1) mL_law (1650, l_LS t .null .null, [], S2, v2) Q) : z_J G (d + 1) mL_law (1191, l_LS t .null .null, [], S, v) Q := by
  have hL := hI.L
  refine zj_aload_n dL_law_1191 rfl rfl ?_
  refine lw_arg (k := 1) (by omega) hG rfl dL_law_1192 dL_law_1193 dL_law_1195 dL_law_1196 dL_law_1197 ?_
  refine lw_arg (k := 2) (by omega) hG rfl dL_law_1198 dL_law_1199 dL_law_1201 dL_law_1202 dL_law_1203 ?_
  refine lw_arg (k := 3) (by omega) hG rfl dL_law_1204 dL_law_1205 dL_law_1207 dL_law_1208 dL_law_1209 ?_
  refine zj_callV (M' := mX10_like) (avs := [.int (G.2 (t + 1)), .int (G.2 (t + 2)), .int (G.2 (t + 3))]) (st := []) (ci := 10) dL_law_1210 wm_X10_like wl_L_139 wi_X10_like ws_X10_like (by decide) (zk_0 hL) rfl rfl (by decide) rfl (Nat.le_of_ble_eq_true rfl) (Nat.le_of_ble_eq_true rfl) ⟨Or.inr lw_xx, lw_okr hL trivial⟩ trivial (z_J.mono (gx_like (K := fun S2 v2 => z_J G (d + 1) mL_law (1650, l_LS t .null .null, [], S2, v2) Q) hd hB hI h) (fun r S1 v1 hq => ?_))
  obtain ⟨y, rfl, hL1, hm⟩ := hq
  refine zj_aload_n dL_law_1213 rfl rfl ?_
  refine lw_arg (k := 1) (by omega) hG rfl dL_law_1214 dL_law_1215 dL_law_1217 dL_law_1218 dL_law_1219 ?_
  refine lw_arg (k := 2) (by omega) hG rfl dL_law_1220 dL_law_1221 dL_law_1223 dL_law_1224 dL_law_1225 ?_
  refine lw_arg (k := 3) (by omega) hG rfl dL_law_1226 dL_law_1227 dL_law_1229 dL_law_1230 dL_law_1231 ?_
  refine zj_callV (M' := mX11_like) (avs := [.int (G.2 (t + 1)), .int (G.2 (t + 2)), .int (G.2 (t + 3))]) (st := [.int y]) (ci := 11) dL_law_1232 wm_X11_like wl_L_142 wi_X11_like ws_X11_like (by decide) (zk_223 hL1) rfl rfl (by decide) rfl (Nat.le_of_ble_eq_true rfl) (Nat.le_of_ble_eq_true rfl) ⟨Or.inr lw_xx, lw_okr hL1 trivial⟩ trivial (z_J.mono hm (fun r S2 v2 hq => ?_))
  obtain ⟨rfl, hk⟩ := hq
  exact zj_icmp_eq (tgt := 1650) dL_law_1235 (by decide) (fun _ => hk) (fun c => absurd rfl c)
theorem lc_odds (hd : 30 ≤ d) (ht : t + 7 ≤ G.1) (hG : G.1 ≤ 3584) (hB : B.1 ≤ 999000) (hI : g_I B S v) (h : ∀ S2 v2, g_I B S2 v2 → z_J G (d + 1) mL_law (1650, l_LS t .null .null, [], S2, v2) Q) : z_J G (d + 1) mL_law (1240, l_LS t .null .null, [], S, v) Q := by
  have hL := hI.L
  refine zj_aload_n dL_law_1240 rfl rfl ?_
  refine lw_arg (k := 1) (by omega) hG rfl dL_law_1241 dL_law_1242 dL_law_1244 dL_law_1245 dL_law_1246 ?_
  refine lw_arg (k := 2) (by omega) hG rfl dL_law_1247 dL_law_1248 dL_law_1250 dL_law_1251 dL_law_1252 ?_
  refine lw_arg (k := 3) (by omega) hG rfl dL_law_1253 dL_law_1254 dL_law_1256 dL_law_1257 dL_law_1258 ?_
  refine lw_arg (k := 4) (by omega) hG rfl dL_law_1259 dL_law_1260 dL_law_1262 dL_law_1263 dL_law_1264 ?_
  refine zj_callV (M' := mX10_odds) (avs := [.int (G.2 (t + 1)), .int (G.2 (t + 2)), .int (G.2 (t + 3)), .int (G.2 (t + 4))]) (st := []) (ci := 10) dL_law_1265 wm_X10_odds wl_L_143 wi_X10_odds ws_X10_odds (by decide) (zk_0 hL) rfl rfl (by decide) rfl (Nat.le_of_ble_eq_true rfl) (Nat.le_of_ble_eq_true rfl) ⟨Or.inr lw_xx, lw_okr hL trivial⟩ trivial (z_J.mono (gx_odds (K := fun S2 v2 => z_J G (d + 1) mL_law (1650, l_LS t .null .null, [], S2, v2) Q) hd hB hI h) (fun r S1 v1 hq => ?_))
  obtain ⟨y, rfl, hL1, hm⟩ := hq
  refine zj_aload_n dL_law_1268 rfl rfl ?_
  refine lw_arg (k := 1) (by omega) hG rfl dL_law_1269 dL_law_1270 dL_law_1272 dL_law_1273 dL_law_1274 ?_
  refine lw_arg (k := 2) (by omega) hG rfl dL_law_1275 dL_law_1276 dL_law_1278 dL_law_1279 dL_law_1280 ?_
  refine lw_arg (k := 3) (by omega) hG rfl dL_law_1281 dL_law_1282 dL_law_1284 dL_law_1285 dL_law_1286 ?_
  refine lw_arg (k := 4) (by omega) hG rfl dL_law_1287 dL_law_1288 dL_law_1290 dL_law_1291 dL_law_1292 ?_
  refine zj_callV (M' := mX11_odds) (avs := [.int (G.2 (t + 1)), .int (G.2 (t + 2)), .int (G.2 (t + 3)), .int (G.2 (t + 4))]) (st := [.long y]) (ci := 11) dL_law_1293 wm_X11_odds wl_L_147 wi_X11_odds ws_X11_odds (by decide) (zk_223 hL1) rfl rfl (by decide) rfl (Nat.le_of_ble_eq_true rfl) (Nat.le_of_ble_eq_true rfl) ⟨Or.inr lw_xx, lw_okr hL1 trivial⟩ trivial (z_J.mono hm (fun r S2 v2 hq => ?_))
  obtain ⟨rfl, hk⟩ := hq
  refine zj_lcmp dL_law_1296 ?_
  exact zj_if_eq (tgt := 1650) dL_law_1297 (by decide) (fun _ => hk) (fun c => absurd (lg_cmp_self y) c)
theorem lc_press (hd : 30 ≤ d) (ht : t + 7 ≤ G.1) (hG : G.1 ≤ 3584) (hB : B.1 ≤ 999000) (hI : g_I B S v) (h : ∀ S2 v2, g_I B S2 v2 → z_J G (d + 1) mL_law (1650, l_LS t .null .null, [], S2, v2) Q) : z_J G (d + 1) mL_law (1302, l_LS t .null .null, [], S, v) Q := by
  have hL := hI.L
  refine zj_aload_n dL_law_1302 rfl rfl ?_
  refine lw_arg (k := 1) (by omega) hG rfl dL_law_1303 dL_law_1304 dL_law_1306 dL_law_1307 dL_law_1308 ?_
  refine lw_arg (k := 2) (by omega) hG rfl dL_law_1309 dL_law_1310 dL_law_1312 dL_law_1313 dL_law_1314 ?_
  refine zj_callV (M' := mX10_press) (avs := [.int (G.2 (t + 1)), .int (G.2 (t + 2))]) (st := []) (ci := 10) dL_law_1315 wm_X10_press wl_L_148 wi_X10_press ws_X10_press (by decide) (zk_0 hL) rfl rfl (by decide) rfl (Nat.le_of_ble_eq_true rfl) (Nat.le_of_ble_eq_true rfl) ⟨Or.inr lw_xx, lw_okr hL trivial⟩ trivial (z_J.mono (gx_press (K := fun S2 v2 => z_J G (d + 1) mL_law (1650, l_LS t .null .null, [], S2, v2) Q) hd hB hI h) (fun r S1 v1 hq => ?_))
  obtain ⟨y, rfl, hL1, hm⟩ := hq
  refine zj_aload_n dL_law_1318 rfl rfl ?_
  refine lw_arg (k := 1) (by omega) hG rfl dL_law_1319 dL_law_1320 dL_law_1322 dL_law_1323 dL_law_1324 ?_
  refine lw_arg (k := 2) (by omega) hG rfl dL_law_1325 dL_law_1326 dL_law_1328 dL_law_1329 dL_law_1330 ?_
  refine zj_callV (M' := mX11_press) (avs := [.int (G.2 (t + 1)), .int (G.2 (t + 2))]) (st := [.int y]) (ci := 11) dL_law_1331 wm_X11_press wl_L_151 wi_X11_press ws_X11_press (by decide) (zk_223 hL1) rfl rfl (by decide) rfl (Nat.le_of_ble_eq_true rfl) (Nat.le_of_ble_eq_true rfl) ⟨Or.inr lw_xx, lw_okr hL1 trivial⟩ trivial (z_J.mono hm (fun r S2 v2 hq => ?_))
  obtain ⟨rfl, hk⟩ := hq
  exact zj_icmp_eq (tgt := 1650) dL_law_1334 (by decide) (fun _ => hk) (fun c => absurd rfl c)
theorem lc_chain (hd : 30 ≤ d) (ht : t + 7 ≤ G.1) (hG : G.1 ≤ 3584) (hB : B.1 ≤ 999000) (hI : g_I B S v) (h : ∀ S2 v2, g_I B S2 v2 → z_J G (d + 1) mL_law (1650, l_LS t .null .null, [], S2, v2) Q) : z_J G (d + 1) mL_law (1339, l_LS t .null .null, [], S, v) Q := by
  have hL := hI.L
  refine zj_aload_n dL_law_1339 rfl rfl ?_
  refine lw_arg (k := 1) (by omega) hG rfl dL_law_1340 dL_law_1341 dL_law_1343 dL_law_1344 dL_law_1345 ?_
  refine zj_callV (M' := mX10_chain) (avs := [.int (G.2 (t + 1))]) (st := []) (ci := 10) dL_law_1346 wm_X10_chain wl_L_152 wi_X10_chain ws_X10_chain (by decide) (zk_0 hL) rfl rfl (by decide) rfl (Nat.le_of_ble_eq_true rfl) (Nat.le_of_ble_eq_true rfl) ⟨Or.inr lw_xx, lw_okr hL trivial⟩ trivial (z_J.mono (gx_chain (K := fun S2 v2 => z_J G (d + 1) mL_law (1650, l_LS t .null .null, [], S2, v2) Q) hd hB hI h) (fun r S1 v1 hq => ?_))
  obtain ⟨y, rfl, hL1, hm⟩ := hq
  refine zj_aload_n dL_law_1349 rfl rfl ?_
  refine lw_arg (k := 1) (by omega) hG rfl dL_law_1350 dL_law_1351 dL_law_1353 dL_law_1354 dL_law_1355 ?_
  refine zj_callV (M' := mX11_chain) (avs := [.int (G.2 (t + 1))]) (st := [.int y]) (ci := 11) dL_law_1356 wm_X11_chain wl_L_155 wi_X11_chain ws_X11_chain (by decide) (zk_223 hL1) rfl rfl (by decide) rfl (Nat.le_of_ble_eq_true rfl) (Nat.le_of_ble_eq_true rfl) ⟨Or.inr lw_xx, lw_okr hL1 trivial⟩ trivial (z_J.mono hm (fun r S2 v2 hq => ?_))
  obtain ⟨rfl, hk⟩ := hq
  exact zj_icmp_eq (tgt := 1650) dL_law_1359 (by decide) (fun _ => hk) (fun c => absurd rfl c)
theorem lc_line (hd : 30 ≤ d) (ht : t + 7 ≤ G.1) (hG : G.1 ≤ 3584) (hB : B.1 ≤ 999000) (hI : g_I B S v) (h : ∀ S2 v2, g_I B S2 v2 → z_J G (d + 1) mL_law (1650, l_LS t .null .null, [], S2, v2) Q) : z_J G (d + 1) mL_law (1364, l_LS t .null .null, [], S, v) Q := by
  have hL := hI.L
  refine zj_aload_n dL_law_1364 rfl rfl ?_
  refine lw_arg (k := 1) (by omega) hG rfl dL_law_1365 dL_law_1366 dL_law_1368 dL_law_1369 dL_law_1370 ?_
  refine zj_callV (M' := mX10_line) (avs := [.int (G.2 (t + 1))]) (st := []) (ci := 10) dL_law_1371 wm_X10_line wl_L_156 wi_X10_line ws_X10_line (by decide) (zk_0 hL) rfl rfl (by decide) rfl (Nat.le_of_ble_eq_true rfl) (Nat.le_of_ble_eq_true rfl) ⟨Or.inr lw_xx, lw_okr hL trivial⟩ trivial (z_J.mono (gx_line (K := fun S2 v2 => z_J G (d + 1) mL_law (1650, l_LS t .null .null, [], S2, v2) Q) hd hB hI h) (fun r S1 v1 hq => ?_))
  obtain ⟨y, rfl, hL1, hm⟩ := hq
  refine zj_aload_n dL_law_1374 rfl rfl ?_
  refine lw_arg (k := 1) (by omega) hG rfl dL_law_1375 dL_law_1376 dL_law_1378 dL_law_1379 dL_law_1380 ?_
  refine zj_callV (M' := mX11_line) (avs := [.int (G.2 (t + 1))]) (st := [.int y]) (ci := 11) dL_law_1381 wm_X11_line wl_L_159 wi_X11_line ws_X11_line (by decide) (zk_223 hL1) rfl rfl (by decide) rfl (Nat.le_of_ble_eq_true rfl) (Nat.le_of_ble_eq_true rfl) ⟨Or.inr lw_xx, lw_okr hL1 trivial⟩ trivial (z_J.mono hm (fun r S2 v2 hq => ?_))
  obtain ⟨rfl, hk⟩ := hq
  exact zj_icmp_eq (tgt := 1650) dL_law_1384 (by decide) (fun _ => hk) (fun c => absurd rfl c)
theorem lc_byteAt (hd : 30 ≤ d) (ht : t + 7 ≤ G.1) (hG : G.1 ≤ 3584) (hB : B.1 ≤ 999000) (hI : g_I B S v) (h : ∀ S2 v2, g_I B S2 v2 → z_J G (d + 1) mL_law (1650, l_LS t .null .null, [], S2, v2) Q) : z_J G (d + 1) mL_law (1389, l_LS t .null .null, [], S, v) Q := by
  have hL := hI.L
  refine zj_aload_n dL_law_1389 rfl rfl ?_
  refine lw_arg (k := 1) (by omega) hG rfl dL_law_1390 dL_law_1391 dL_law_1393 dL_law_1394 dL_law_1395 ?_
  refine zj_callV (M' := mX10_byteAt) (avs := [.int (G.2 (t + 1))]) (st := []) (ci := 10) dL_law_1396 wm_X10_byteAt wl_L_160 wi_X10_byteAt ws_X10_byteAt (by decide) (zk_0 hL) rfl rfl (by decide) rfl (Nat.le_of_ble_eq_true rfl) (Nat.le_of_ble_eq_true rfl) ⟨Or.inr lw_xx, lw_okr hL trivial⟩ trivial (z_J.mono (gx_byteAt (K := fun S2 v2 => z_J G (d + 1) mL_law (1650, l_LS t .null .null, [], S2, v2) Q) hd hB hI h) (fun r S1 v1 hq => ?_))
  obtain ⟨y, rfl, hL1, hm⟩ := hq
  refine zj_aload_n dL_law_1399 rfl rfl ?_
  refine lw_arg (k := 1) (by omega) hG rfl dL_law_1400 dL_law_1401 dL_law_1403 dL_law_1404 dL_law_1405 ?_
  refine zj_callV (M' := mX11_byteAt) (avs := [.int (G.2 (t + 1))]) (st := [.int y]) (ci := 11) dL_law_1406 wm_X11_byteAt wl_L_163 wi_X11_byteAt ws_X11_byteAt (by decide) (zk_223 hL1) rfl rfl (by decide) rfl (Nat.le_of_ble_eq_true rfl) (Nat.le_of_ble_eq_true rfl) ⟨Or.inr lw_xx, lw_okr hL1 trivial⟩ trivial (z_J.mono hm (fun r S2 v2 hq => ?_))
  obtain ⟨rfl, hk⟩ := hq
  exact zj_icmp_eq (tgt := 1650) dL_law_1409 (by decide) (fun _ => hk) (fun c => absurd rfl c)
theorem lc_fewest (hd : 30 ≤ d) (ht : t + 7 ≤ G.1) (hG : G.1 ≤ 3584) (hB : B.1 ≤ 999000) (hI : g_I B S v) (h : ∀ S2 v2, g_I B S2 v2 → z_J G (d + 1) mL_law (1650, l_LS t .null .null, [], S2, v2) Q) : z_J G (d + 1) mL_law (1414, l_LS t .null .null, [], S, v) Q := by
  have hL := hI.L
  refine zj_aload_n dL_law_1414 rfl rfl ?_
  refine lw_arg (k := 1) (by omega) hG rfl dL_law_1415 dL_law_1416 dL_law_1418 dL_law_1419 dL_law_1420 ?_
  refine lw_arg (k := 2) (by omega) hG rfl dL_law_1421 dL_law_1422 dL_law_1424 dL_law_1425 dL_law_1426 ?_
  refine zj_callV (M' := mX10_fewest) (avs := [.int (G.2 (t + 1)), .int (G.2 (t + 2))]) (st := []) (ci := 10) dL_law_1427 wm_X10_fewest wl_L_164 wi_X10_fewest ws_X10_fewest (by decide) (zk_0 hL) rfl rfl (by decide) rfl (Nat.le_of_ble_eq_true rfl) (Nat.le_of_ble_eq_true rfl) ⟨Or.inr lw_xx, lw_okr hL trivial⟩ trivial (z_J.mono (gx_fewest (K := fun S2 v2 => z_J G (d + 1) mL_law (1650, l_LS t .null .null, [], S2, v2) Q) hd hB hI h) (fun r S1 v1 hq => ?_))
  obtain ⟨y, rfl, hL1, hm⟩ := hq
  refine zj_aload_n dL_law_1430 rfl rfl ?_
  refine lw_arg (k := 1) (by omega) hG rfl dL_law_1431 dL_law_1432 dL_law_1434 dL_law_1435 dL_law_1436 ?_
  refine lw_arg (k := 2) (by omega) hG rfl dL_law_1437 dL_law_1438 dL_law_1440 dL_law_1441 dL_law_1442 ?_
  refine zj_callV (M' := mX11_fewest) (avs := [.int (G.2 (t + 1)), .int (G.2 (t + 2))]) (st := [.int y]) (ci := 11) dL_law_1443 wm_X11_fewest wl_L_167 wi_X11_fewest ws_X11_fewest (by decide) (zk_223 hL1) rfl rfl (by decide) rfl (Nat.le_of_ble_eq_true rfl) (Nat.le_of_ble_eq_true rfl) ⟨Or.inr lw_xx, lw_okr hL1 trivial⟩ trivial (z_J.mono hm (fun r S2 v2 hq => ?_))
  obtain ⟨rfl, hk⟩ := hq
  exact zj_icmp_eq (tgt := 1650) dL_law_1446 (by decide) (fun _ => hk) (fun c => absurd rfl c)
theorem lc_drawn (hd : 30 ≤ d) (ht : t + 7 ≤ G.1) (hG : G.1 ≤ 3584) (hB : B.1 ≤ 999000) (hI : g_I B S v) (h : ∀ S2 v2, g_I B S2 v2 → z_J G (d + 1) mL_law (1650, l_LS t .null .null, [], S2, v2) Q) : z_J G (d + 1) mL_law (1451, l_LS t .null .null, [], S, v) Q := by
  have hL := hI.L
  refine zj_aload_n dL_law_1451 rfl rfl ?_
  refine lw_arg (k := 1) (by omega) hG rfl dL_law_1452 dL_law_1453 dL_law_1455 dL_law_1456 dL_law_1457 ?_
  refine lw_arg (k := 2) (by omega) hG rfl dL_law_1458 dL_law_1459 dL_law_1461 dL_law_1462 dL_law_1463 ?_
  refine lw_arg (k := 3) (by omega) hG rfl dL_law_1464 dL_law_1465 dL_law_1467 dL_law_1468 dL_law_1469 ?_
  refine zj_callV (M' := mX10_drawn) (avs := [.int (G.2 (t + 1)), .int (G.2 (t + 2)), .int (G.2 (t + 3))]) (st := []) (ci := 10) dL_law_1470 wm_X10_drawn wl_L_168 wi_X10_drawn ws_X10_drawn (by decide) (zk_0 hL) rfl rfl (by decide) rfl (Nat.le_of_ble_eq_true rfl) (Nat.le_of_ble_eq_true rfl) ⟨Or.inr lw_xx, lw_okr hL trivial⟩ trivial (z_J.mono (gx_drawn (K := fun S2 v2 => z_J G (d + 1) mL_law (1650, l_LS t .null .null, [], S2, v2) Q) hd hB hI h) (fun r S1 v1 hq => ?_))
  obtain ⟨y, rfl, hL1, hm⟩ := hq
  refine zj_aload_n dL_law_1473 rfl rfl ?_
  refine lw_arg (k := 1) (by omega) hG rfl dL_law_1474 dL_law_1475 dL_law_1477 dL_law_1478 dL_law_1479 ?_
  refine lw_arg (k := 2) (by omega) hG rfl dL_law_1480 dL_law_1481 dL_law_1483 dL_law_1484 dL_law_1485 ?_
  refine lw_arg (k := 3) (by omega) hG rfl dL_law_1486 dL_law_1487 dL_law_1489 dL_law_1490 dL_law_1491 ?_
  refine zj_callV (M' := mX11_drawn) (avs := [.int (G.2 (t + 1)), .int (G.2 (t + 2)), .int (G.2 (t + 3))]) (st := [.int y]) (ci := 11) dL_law_1492 wm_X11_drawn wl_L_171 wi_X11_drawn ws_X11_drawn (by decide) (zk_223 hL1) rfl rfl (by decide) rfl (Nat.le_of_ble_eq_true rfl) (Nat.le_of_ble_eq_true rfl) ⟨Or.inr lw_xx, lw_okr hL1 trivial⟩ trivial (z_J.mono hm (fun r S2 v2 hq => ?_))
  obtain ⟨rfl, hk⟩ := hq
  exact zj_icmp_eq (tgt := 1650) dL_law_1495 (by decide) (fun _ => hk) (fun c => absurd rfl c)
theorem lc_often (hd : 30 ≤ d) (ht : t + 7 ≤ G.1) (hG : G.1 ≤ 3584) (hB : B.1 ≤ 999000) (hI : g_I B S v) (h : ∀ S2 v2, g_I B S2 v2 → z_J G (d + 1) mL_law (1650, l_LS t .null .null, [], S2, v2) Q) : z_J G (d + 1) mL_law (1500, l_LS t .null .null, [], S, v) Q := by
  have hL := hI.L
  refine zj_aload_n dL_law_1500 rfl rfl ?_
  refine lw_arg (k := 1) (by omega) hG rfl dL_law_1501 dL_law_1502 dL_law_1504 dL_law_1505 dL_law_1506 ?_
  refine lw_arg (k := 2) (by omega) hG rfl dL_law_1507 dL_law_1508 dL_law_1510 dL_law_1511 dL_law_1512 ?_
  refine lw_arg (k := 3) (by omega) hG rfl dL_law_1513 dL_law_1514 dL_law_1516 dL_law_1517 dL_law_1518 ?_
  refine lw_arg (k := 4) (by omega) hG rfl dL_law_1519 dL_law_1520 dL_law_1522 dL_law_1523 dL_law_1524 ?_
  refine lw_arg (k := 5) (by omega) hG rfl dL_law_1525 dL_law_1526 dL_law_1528 dL_law_1529 dL_law_1530 ?_
  refine lw_arg6 (by omega) hG dL_law_1531 dL_law_1532 dL_law_1534 dL_law_1536 dL_law_1537 ?_
  refine zj_callV (M' := mX10_often) (avs := [.int (G.2 (t + 1)), .int (G.2 (t + 2)), .int (G.2 (t + 3)), .int (G.2 (t + 4)), .int (G.2 (t + 5)), .int (G.2 (t + 6))]) (st := []) (ci := 10) dL_law_1538 wm_X10_often wl_L_172 wi_X10_often ws_X10_often (by decide) (zk_0 hL) rfl rfl (by decide) rfl (Nat.le_of_ble_eq_true rfl) (Nat.le_of_ble_eq_true rfl) ⟨Or.inr lw_xx, lw_okr hL trivial⟩ trivial (z_J.mono (gx_often (K := fun S2 v2 => z_J G (d + 1) mL_law (1650, l_LS t .null .null, [], S2, v2) Q) hd hB hI h) (fun r S1 v1 hq => ?_))
  obtain ⟨y, rfl, hL1, hm⟩ := hq
  refine zj_aload_n dL_law_1541 rfl rfl ?_
  refine lw_arg (k := 1) (by omega) hG rfl dL_law_1542 dL_law_1543 dL_law_1545 dL_law_1546 dL_law_1547 ?_
  refine lw_arg (k := 2) (by omega) hG rfl dL_law_1548 dL_law_1549 dL_law_1551 dL_law_1552 dL_law_1553 ?_
  refine lw_arg (k := 3) (by omega) hG rfl dL_law_1554 dL_law_1555 dL_law_1557 dL_law_1558 dL_law_1559 ?_
  refine lw_arg (k := 4) (by omega) hG rfl dL_law_1560 dL_law_1561 dL_law_1563 dL_law_1564 dL_law_1565 ?_
  refine lw_arg (k := 5) (by omega) hG rfl dL_law_1566 dL_law_1567 dL_law_1569 dL_law_1570 dL_law_1571 ?_
  refine lw_arg6 (by omega) hG dL_law_1572 dL_law_1573 dL_law_1575 dL_law_1577 dL_law_1578 ?_
  refine zj_callV (M' := mX11_often) (avs := [.int (G.2 (t + 1)), .int (G.2 (t + 2)), .int (G.2 (t + 3)), .int (G.2 (t + 4)), .int (G.2 (t + 5)), .int (G.2 (t + 6))]) (st := [.int y]) (ci := 11) dL_law_1579 wm_X11_often wl_L_176 wi_X11_often ws_X11_often (by decide) (zk_223 hL1) rfl rfl (by decide) rfl (Nat.le_of_ble_eq_true rfl) (Nat.le_of_ble_eq_true rfl) ⟨Or.inr lw_xx, lw_okr hL1 trivial⟩ trivial (z_J.mono hm (fun r S2 v2 hq => ?_))
  obtain ⟨rfl, hk⟩ := hq
  exact zj_icmp_eq (tgt := 1650) dL_law_1582 (by decide) (fun _ => hk) (fun c => absurd rfl c)
theorem lc_undo (hd : 30 ≤ d) (ht : t + 7 ≤ G.1) (hG : G.1 ≤ 3584) (hB : B.1 ≤ 999000) (hI : g_I B S v) (h : ∀ S2 v2, g_I B S2 v2 → z_J G (d + 1) mL_law (1650, l_LS t .null .null, [], S2, v2) Q) : z_J G (d + 1) mL_law (1587, l_LS t .null .null, [], S, v) Q := by
  have hL := hI.L
  refine zj_aload_n dL_law_1587 rfl rfl ?_
  refine zj_callV (M' := mX10_undo) (avs := []) (st := []) (ci := 10) dL_law_1588 wm_X10_undo wl_L_177 wi_X10_undo ws_X10_undo (by decide) (zk_0 hL) rfl rfl (by decide) rfl (Nat.le_of_ble_eq_true rfl) (Nat.le_of_ble_eq_true rfl) ⟨Or.inr lw_xx, lw_okr hL trivial⟩ trivial (z_J.mono (gx_undo (K := fun S2 v2 => z_J G (d + 1) mL_law (1650, l_LS t .null .null, [], S2, v2) Q) hd hB hI h) (fun r S1 v1 hq => ?_))
  obtain ⟨y, rfl, hL1, hm⟩ := hq
  refine zj_aload_n dL_law_1591 rfl rfl ?_
  refine zj_callV (M' := mX11_undo) (avs := []) (st := [.int y]) (ci := 11) dL_law_1592 wm_X11_undo wl_L_180 wi_X11_undo ws_X11_undo (by decide) (zk_223 hL1) rfl rfl (by decide) rfl (Nat.le_of_ble_eq_true rfl) (Nat.le_of_ble_eq_true rfl) ⟨Or.inr lw_xx, lw_okr hL1 trivial⟩ trivial (z_J.mono hm (fun r S2 v2 hq => ?_))
  obtain ⟨rfl, hk⟩ := hq
  exact zj_icmp_eq (tgt := 1650) dL_law_1595 (by decide) (fun _ => hk) (fun c => absurd rfl c)
theorem lc_image (hd : 30 ≤ d) (ht : t + 7 ≤ G.1) (hG : G.1 ≤ 3584) (hB : B.1 ≤ 999000) (hI : g_I B S v) (h : ∀ S2 v2, g_I B S2 v2 → z_J G (d + 1) mL_law (1650, l_LS t .null .null, [], S2, v2) Q) : z_J G (d + 1) mL_law (1600, l_LS t .null .null, [], S, v) Q := by
  have hL := hI.L
  refine zj_aload_n dL_law_1600 rfl rfl ?_
  refine lw_arg (k := 1) (by omega) hG rfl dL_law_1601 dL_law_1602 dL_law_1604 dL_law_1605 dL_law_1606 ?_
  refine zj_callV (M' := mX10_image) (avs := [.int (G.2 (t + 1))]) (st := []) (ci := 10) dL_law_1607 wm_X10_image wl_L_181 wi_X10_image ws_X10_image (by decide) (zk_0 hL) rfl rfl (by decide) rfl (Nat.le_of_ble_eq_true rfl) (Nat.le_of_ble_eq_true rfl) ⟨Or.inr lw_xx, lw_okr hL trivial⟩ trivial (z_J.mono (gx_image (K := fun S2 v2 => z_J G (d + 1) mL_law (1650, l_LS t .null .null, [], S2, v2) Q) hd hB hI h) (fun r S1 v1 hq => ?_))
  obtain ⟨y, rfl, hL1, hm⟩ := hq
  refine zj_aload_n dL_law_1610 rfl rfl ?_
  refine lw_arg (k := 1) (by omega) hG rfl dL_law_1611 dL_law_1612 dL_law_1614 dL_law_1615 dL_law_1616 ?_
  refine zj_callV (M' := mX11_image) (avs := [.int (G.2 (t + 1))]) (st := [.int y]) (ci := 11) dL_law_1617 wm_X11_image wl_L_184 wi_X11_image ws_X11_image (by decide) (zk_223 hL1) rfl rfl (by decide) rfl (Nat.le_of_ble_eq_true rfl) (Nat.le_of_ble_eq_true rfl) ⟨Or.inr lw_xx, lw_okr hL1 trivial⟩ trivial (z_J.mono hm (fun r S2 v2 hq => ?_))
  obtain ⟨rfl, hk⟩ := hq
  exact zj_icmp_eq (tgt := 1650) dL_law_1620 (by decide) (fun _ => hk) (fun c => absurd rfl c)
theorem lc_restore (hd : 30 ≤ d) (ht : t + 7 ≤ G.1) (hG : G.1 ≤ 3584) (hB : B.1 ≤ 999000) (hI : g_I B S v) (h : ∀ S2 v2, g_I B S2 v2 → z_J G (d + 1) mL_law (1650, l_LS t .null .null, [], S2, v2) Q) : z_J G (d + 1) mL_law (1625, l_LS t .null .null, [], S, v) Q := by
  have hL := hI.L
  refine zj_aload_n dL_law_1625 rfl rfl ?_
  refine lw_arg (k := 1) (by omega) hG rfl dL_law_1626 dL_law_1627 dL_law_1629 dL_law_1630 dL_law_1631 ?_
  refine zj_callV (M' := mX10_restore) (avs := [.int (G.2 (t + 1))]) (st := []) (ci := 10) dL_law_1632 wm_X10_restore wl_L_185 wi_X10_restore ws_X10_restore (by decide) (zk_0 hL) rfl rfl (by decide) rfl (Nat.le_of_ble_eq_true rfl) (Nat.le_of_ble_eq_true rfl) ⟨Or.inr lw_xx, lw_okr hL trivial⟩ trivial (z_J.mono (gx_restore (K := fun S2 v2 => z_J G (d + 1) mL_law (1650, l_LS t .null .null, [], S2, v2) Q) hd hB hI h) (fun r S1 v1 hq => ?_))
  obtain ⟨y, rfl, hL1, hm⟩ := hq
  refine zj_aload_n dL_law_1635 rfl rfl ?_
  refine lw_arg (k := 1) (by omega) hG rfl dL_law_1636 dL_law_1637 dL_law_1639 dL_law_1640 dL_law_1641 ?_
  refine zj_callV (M' := mX11_restore) (avs := [.int (G.2 (t + 1))]) (st := [.int y]) (ci := 11) dL_law_1642 wm_X11_restore wl_L_188 wi_X11_restore ws_X11_restore (by decide) (zk_223 hL1) rfl rfl (by decide) rfl (Nat.le_of_ble_eq_true rfl) (Nat.le_of_ble_eq_true rfl) ⟨Or.inr lw_xx, lw_okr hL1 trivial⟩ trivial (z_J.mono hm (fun r S2 v2 hq => ?_))
  obtain ⟨rfl, hk⟩ := hq
  exact zj_icmp_eq (tgt := 1650) dL_law_1645 (by decide) (fun _ => hk) (fun c => absurd rfl c)
theorem lw_wr {x : Int64} : z_w (z_sw S 261 0 x) 261 (0 : Int32).toNatClampNeg = x := by
  show (if 261 = 261 then vp_updL (z_w S 261) 0 x else z_w S 261) 0 = x
  rw [if_pos rfl]
  simp [vp_updL]
theorem lc_check (hd : 30 ≤ d) (ht : t + 7 ≤ G.1) (hG : G.1 ≤ 3584) (hB : B.1 ≤ 999000) (hI : g_I B S v) (h : ∀ S2 v2, g_I (B.1, B.2.1 + 1, B.2.2 + 6) S2 v2 → z_J G (d + 2) mL_law (1650, l_LS t .null .null, [], S2, v2) Q) : z_J G (d + 2) mL_law (382, l_LS t .null .null, [], S, v) Q := by
  have hL := hI.L
  obtain ⟨σ, hC, hM, hP⟩ := hI
  refine zj_aload_n dL_law_382 rfl rfl ?_
  refine lw_arg (k := 1) (by omega) hG rfl dL_law_383 dL_law_384 dL_law_386 dL_law_387 dL_law_388 ?_
  refine lw_arg (k := 2) (by omega) hG rfl dL_law_389 dL_law_390 dL_law_392 dL_law_393 dL_law_394 ?_
  refine lw_arg (k := 3) (by omega) hG rfl dL_law_395 dL_law_396 dL_law_398 dL_law_399 dL_law_400 ?_
  refine zj_aload_n dL_law_401 rfl rfl ?_
  refine lw_check (ρ := σ.1) (st := []) (by omega) dL_law_402 wl_L_54 (Nat.le_of_ble_eq_true rfl) ⟨Or.inr lw_xx, lw_okr hL trivial⟩ trivial hL hP.1 hC.2.1 hC.2.2.1 (fun i hi => ?_) (fun hn => ?_)
  · have hL1 : z_L (z_sw S 261 0 (nI (n_chk σ.1 i.1 i.2)).toInt64) := hL
    refine zj_istore (ls2 := l_LS t (.int 0) .null) dL_law_405 (by decide) rfl rfl ?_
    refine zj_aload_n dL_law_407 rfl rfl ?_
    refine lw_arg (k := 1) (by omega) hG rfl dL_law_408 dL_law_409 dL_law_411 dL_law_412 dL_law_413 ?_
    refine lw_arg (k := 2) (by omega) hG rfl dL_law_414 dL_law_415 dL_law_417 dL_law_418 dL_law_419 ?_
    refine lw_arg (k := 3) (by omega) hG rfl dL_law_420 dL_law_421 dL_law_423 dL_law_424 dL_law_425 ?_
    refine zj_callV (M' := mX11_check) (avs := [.int (G.2 (t + 1)), .int (G.2 (t + 2)), .int (G.2 (t + 3))]) (st := []) (ci := 11) dL_law_426 wm_X11_check wl_L_59 wi_X11_check ws_X11_check (by decide) (zk_223 hL1) rfl rfl (by decide) rfl (Nat.le_of_ble_eq_true rfl) (Nat.le_of_ble_eq_true rfl) ⟨Or.inr lw_xx, lw_okr hL1 trivial⟩ trivial ?_
    refine sp_X11_check (by omega) hL1 hP.1 hM.1 hM.2.1 (fun v2 j hj e2 => ?_) (fun v2 hn _ => absurd ⟨i, hi⟩ hn)
    obtain rfl : j = i := a_chk_u hP.1.1 _ _ hj hi
    have e0 : v2 223 0 = 0 := (by rw [e2, z_ue rfl rfl])
    refine zj_istore (ls2 := l_LS t (.int 0) (.int (nI (n_chk σ.1 j.1 j.2)))) dL_law_429 (by decide) rfl rfl ?_
    refine zj_aload_n dL_law_431 rfl rfl ?_
    refine zj_callV (M' := mX11_thrown) (avs := []) (st := []) (ci := 11) dL_law_432 wm_X11_thrown wl_L_60 wi_X11_thrown ws_X11_thrown (by decide) (zk_223 hL1) rfl rfl (by decide) rfl (Nat.le_of_ble_eq_true rfl) (Nat.le_of_ble_eq_true rfl) ⟨Or.inr lw_xx, lw_okr hL1 trivial⟩ trivial (sg_X11_thrown_0 hL1 ?_)
    rw [e0]
    refine zj_iload dL_law_435 rfl ?_
    refine zj_icmp_eq (tgt := 442) dL_law_437 (by decide) (fun _ => ?_) (fun c => absurd rfl c)
    refine zj_iload dL_law_442 rfl ?_
    refine zj_if_ne (tgt := 459) dL_law_444 (by decide) (fun c => absurd rfl c) (fun _ => ?_)
    refine zj_aload_n dL_law_447 rfl rfl ?_
    refine zj_iconst (x := 0) dL_law_448 rfl ?_
    refine zj_laload dL_law_449 (zk_261 hL1) (by rw [zl_261 hL1]; exact z_vin (by decide)) ?_
    refine zj_iload dL_law_450 rfl ?_
    refine zj_i2l dL_law_452 ?_
    refine zj_lcmp dL_law_453 ?_
    refine zj_if_eq (tgt := 459) dL_law_454 (by decide) (fun _ => ?_) (fun c => absurd ?_ c)
    · refine zj_goto (tgt := 1650) dL_law_459 (by decide) (zj_forget (ls2 := l_LS t .null .null) ⟨Or.inr rfl, Or.inr rfl, Or.inr rfl, Or.inr rfl, Or.inr rfl, Or.inl rfl, Or.inl rfl, trivial⟩ ?_)
      exact h _ _ ((g_pk hC hM hP (e_T.rf hC.1) c_pk.rf (by rw [e2]; exact m_f6.u0.pk)).sw.up (Nat.le_refl _) (Nat.le_add_right _ _) (Nat.le_add_right _ _))
    · rw [lw_wr]; exact lg_cmp_self _
  · have hL1 : z_L (z_ct S 1 6) := hL
    refine zj_istore (ls2 := l_LS t (.int 1) .null) dL_law_405 (by decide) rfl rfl ?_
    refine zj_aload_n dL_law_407 rfl rfl ?_
    refine lw_arg (k := 1) (by omega) hG rfl dL_law_408 dL_law_409 dL_law_411 dL_law_412 dL_law_413 ?_
    refine lw_arg (k := 2) (by omega) hG rfl dL_law_414 dL_law_415 dL_law_417 dL_law_418 dL_law_419 ?_
    refine lw_arg (k := 3) (by omega) hG rfl dL_law_420 dL_law_421 dL_law_423 dL_law_424 dL_law_425 ?_
    refine zj_callV (M' := mX11_check) (avs := [.int (G.2 (t + 1)), .int (G.2 (t + 2)), .int (G.2 (t + 3))]) (st := []) (ci := 11) dL_law_426 wm_X11_check wl_L_59 wi_X11_check ws_X11_check (by decide) (zk_223 hL1) rfl rfl (by decide) rfl (Nat.le_of_ble_eq_true rfl) (Nat.le_of_ble_eq_true rfl) ⟨Or.inr lw_xx, lw_okr hL1 trivial⟩ trivial ?_
    refine sp_X11_check (by omega) hL1 hP.1 hM.1 hM.2.1 (fun v2 j hj _ => absurd ⟨j, hj⟩ hn) (fun v2 hn e2 => ?_)
    have e0 : v2 223 0 = 1 := (by rw [e2, z_ue rfl rfl])
    refine zj_istore (ls2 := l_LS t (.int 1) (.int 0)) dL_law_429 (by decide) rfl rfl ?_
    refine zj_aload_n dL_law_431 rfl rfl ?_
    refine zj_callV (M' := mX11_thrown) (avs := []) (st := []) (ci := 11) dL_law_432 wm_X11_thrown wl_L_60 wi_X11_thrown ws_X11_thrown (by decide) (zk_223 hL1) rfl rfl (by decide) rfl (Nat.le_of_ble_eq_true rfl) (Nat.le_of_ble_eq_true rfl) ⟨Or.inr lw_xx, lw_okr hL1 trivial⟩ trivial (sg_X11_thrown_0 hL1 ?_)
    rw [e0]
    refine zj_iload dL_law_435 rfl ?_
    refine zj_icmp_eq (tgt := 442) dL_law_437 (by decide) (fun _ => ?_) (fun c => absurd rfl c)
    refine zj_iload dL_law_442 rfl ?_
    refine zj_if_ne (tgt := 459) dL_law_444 (by decide) (fun _ => ?_) (fun c => absurd c (by decide))
    refine zj_goto (tgt := 1650) dL_law_459 (by decide) (zj_forget (ls2 := l_LS t .null .null) ⟨Or.inr rfl, Or.inr rfl, Or.inr rfl, Or.inr rfl, Or.inr rfl, Or.inl rfl, Or.inl rfl, trivial⟩ ?_)
    exact h _ _ (g_pk hC hM hP (e_T.rf hC.1) c_pk.rf (by rw [e2]; exact m_f6.u0.pk)).ct
theorem lc_qubit (hd : 30 ≤ d) (ht : t + 7 ≤ G.1) (hG : G.1 ≤ 3584) (hB : B.1 ≤ 999000) (hI : g_I B S v) (h : ∀ S2 v2, g_I (B.1, B.2.1 + 1, B.2.2 + 6) S2 v2 → z_J G (d + 2) mL_law (1650, l_LS t .null .null, [], S2, v2) Q) : z_J G (d + 2) mL_law (462, l_LS t .null .null, [], S, v) Q := by
  have hL := hI.L
  obtain ⟨σ, hC, hM, hP⟩ := hI
  refine zj_aload_n dL_law_462 rfl rfl ?_
  refine lw_arg (k := 1) (by omega) hG rfl dL_law_463 dL_law_464 dL_law_466 dL_law_467 dL_law_468 ?_
  refine lw_arg (k := 2) (by omega) hG rfl dL_law_469 dL_law_470 dL_law_472 dL_law_473 dL_law_474 ?_
  refine zj_aload_n dL_law_475 rfl rfl ?_
  refine lw_qubit (ρ := σ.1) (st := []) (by omega) dL_law_476 wl_L_63 (Nat.le_of_ble_eq_true rfl) ⟨Or.inr lw_xx, lw_okr hL trivial⟩ trivial hL hP.1 hC.2.1 hC.2.2.1 (fun i hi => ?_) (fun hn => ?_)
  · have hL1 : z_L (z_sw S 261 0 (nI (n_qu σ.1 i.1 i.2)).toInt64) := hL
    refine zj_istore (ls2 := l_LS t (.int 0) .null) dL_law_479 (by decide) rfl rfl ?_
    refine zj_aload_n dL_law_481 rfl rfl ?_
    refine lw_arg (k := 1) (by omega) hG rfl dL_law_482 dL_law_483 dL_law_485 dL_law_486 dL_law_487 ?_
    refine lw_arg (k := 2) (by omega) hG rfl dL_law_488 dL_law_489 dL_law_491 dL_law_492 dL_law_493 ?_
    refine zj_callV (M' := mX11_qubit) (avs := [.int (G.2 (t + 1)), .int (G.2 (t + 2))]) (st := []) (ci := 11) dL_law_494 wm_X11_qubit wl_L_66 wi_X11_qubit ws_X11_qubit (by decide) (zk_223 hL1) rfl rfl (by decide) rfl (Nat.le_of_ble_eq_true rfl) (Nat.le_of_ble_eq_true rfl) ⟨Or.inr lw_xx, lw_okr hL1 trivial⟩ trivial ?_
    refine sp_X11_qubit (by omega) hL1 hP.1 hM.1 hM.2.1 (fun v2 j hj e2 => ?_) (fun v2 hn _ => absurd ⟨i, hi⟩ hn)
    obtain rfl : j = i := a_qu_u hP.1.1 _ _ hj hi
    have e0 : v2 223 0 = 0 := (by rw [e2, z_ue rfl rfl])
    refine zj_istore (ls2 := l_LS t (.int 0) (.int (nI (n_qu σ.1 j.1 j.2)))) dL_law_497 (by decide) rfl rfl ?_
    refine zj_aload_n dL_law_499 rfl rfl ?_
    refine zj_callV (M' := mX11_thrown) (avs := []) (st := []) (ci := 11) dL_law_500 wm_X11_thrown wl_L_60 wi_X11_thrown ws_X11_thrown (by decide) (zk_223 hL1) rfl rfl (by decide) rfl (Nat.le_of_ble_eq_true rfl) (Nat.le_of_ble_eq_true rfl) ⟨Or.inr lw_xx, lw_okr hL1 trivial⟩ trivial (sg_X11_thrown_0 hL1 ?_)
    rw [e0]
    refine zj_iload dL_law_503 rfl ?_
    refine zj_icmp_eq (tgt := 510) dL_law_505 (by decide) (fun _ => ?_) (fun c => absurd rfl c)
    refine zj_iload dL_law_510 rfl ?_
    refine zj_if_ne (tgt := 527) dL_law_512 (by decide) (fun c => absurd rfl c) (fun _ => ?_)
    refine zj_aload_n dL_law_515 rfl rfl ?_
    refine zj_iconst (x := 0) dL_law_516 rfl ?_
    refine zj_laload dL_law_517 (zk_261 hL1) (by rw [zl_261 hL1]; exact z_vin (by decide)) ?_
    refine zj_iload dL_law_518 rfl ?_
    refine zj_i2l dL_law_520 ?_
    refine zj_lcmp dL_law_521 ?_
    refine zj_if_eq (tgt := 527) dL_law_522 (by decide) (fun _ => ?_) (fun c => absurd ?_ c)
    · refine zj_goto (tgt := 1650) dL_law_527 (by decide) (zj_forget (ls2 := l_LS t .null .null) ⟨Or.inr rfl, Or.inr rfl, Or.inr rfl, Or.inr rfl, Or.inr rfl, Or.inl rfl, Or.inl rfl, trivial⟩ ?_)
      exact h _ _ ((g_pk hC hM hP (e_T.rf hC.1) c_pk.rf (by rw [e2]; exact m_f6.u0.pk)).sw.up (Nat.le_refl _) (Nat.le_add_right _ _) (Nat.le_add_right _ _))
    · rw [lw_wr]; exact lg_cmp_self _
  · have hL1 : z_L (z_ct S 1 6) := hL
    refine zj_istore (ls2 := l_LS t (.int 1) .null) dL_law_479 (by decide) rfl rfl ?_
    refine zj_aload_n dL_law_481 rfl rfl ?_
    refine lw_arg (k := 1) (by omega) hG rfl dL_law_482 dL_law_483 dL_law_485 dL_law_486 dL_law_487 ?_
    refine lw_arg (k := 2) (by omega) hG rfl dL_law_488 dL_law_489 dL_law_491 dL_law_492 dL_law_493 ?_
    refine zj_callV (M' := mX11_qubit) (avs := [.int (G.2 (t + 1)), .int (G.2 (t + 2))]) (st := []) (ci := 11) dL_law_494 wm_X11_qubit wl_L_66 wi_X11_qubit ws_X11_qubit (by decide) (zk_223 hL1) rfl rfl (by decide) rfl (Nat.le_of_ble_eq_true rfl) (Nat.le_of_ble_eq_true rfl) ⟨Or.inr lw_xx, lw_okr hL1 trivial⟩ trivial ?_
    refine sp_X11_qubit (by omega) hL1 hP.1 hM.1 hM.2.1 (fun v2 j hj _ => absurd ⟨j, hj⟩ hn) (fun v2 hn e2 => ?_)
    have e0 : v2 223 0 = 1 := (by rw [e2, z_ue rfl rfl])
    refine zj_istore (ls2 := l_LS t (.int 1) (.int 0)) dL_law_497 (by decide) rfl rfl ?_
    refine zj_aload_n dL_law_499 rfl rfl ?_
    refine zj_callV (M' := mX11_thrown) (avs := []) (st := []) (ci := 11) dL_law_500 wm_X11_thrown wl_L_60 wi_X11_thrown ws_X11_thrown (by decide) (zk_223 hL1) rfl rfl (by decide) rfl (Nat.le_of_ble_eq_true rfl) (Nat.le_of_ble_eq_true rfl) ⟨Or.inr lw_xx, lw_okr hL1 trivial⟩ trivial (sg_X11_thrown_0 hL1 ?_)
    rw [e0]
    refine zj_iload dL_law_503 rfl ?_
    refine zj_icmp_eq (tgt := 510) dL_law_505 (by decide) (fun _ => ?_) (fun c => absurd rfl c)
    refine zj_iload dL_law_510 rfl ?_
    refine zj_if_ne (tgt := 527) dL_law_512 (by decide) (fun _ => ?_) (fun c => absurd c (by decide))
    refine zj_goto (tgt := 1650) dL_law_527 (by decide) (zj_forget (ls2 := l_LS t .null .null) ⟨Or.inr rfl, Or.inr rfl, Or.inr rfl, Or.inr rfl, Or.inr rfl, Or.inl rfl, Or.inl rfl, trivial⟩ ?_)
    exact h _ _ (g_pk hC hM hP (e_T.rf hC.1) c_pk.rf (by rw [e2]; exact m_f6.u0.pk)).ct
theorem lc_edge (hd : 30 ≤ d) (ht : t + 7 ≤ G.1) (hG : G.1 ≤ 3584) (hB : B.1 ≤ 999000) (hI : g_I B S v) (h : ∀ S2 v2, g_I (B.1, B.2.1 + 1, B.2.2 + 6) S2 v2 → z_J G (d + 2) mL_law (1650, l_LS t .null .null, [], S2, v2) Q) : z_J G (d + 2) mL_law (975, l_LS t .null .null, [], S, v) Q := by
  have hL := hI.L
  obtain ⟨σ, hC, hM, hP⟩ := hI
  refine zj_aload_n dL_law_975 rfl rfl ?_
  refine lw_arg (k := 1) (by omega) hG rfl dL_law_976 dL_law_977 dL_law_979 dL_law_980 dL_law_981 ?_
  refine lw_arg (k := 2) (by omega) hG rfl dL_law_982 dL_law_983 dL_law_985 dL_law_986 dL_law_987 ?_
  refine lw_arg (k := 3) (by omega) hG rfl dL_law_988 dL_law_989 dL_law_991 dL_law_992 dL_law_993 ?_
  refine zj_aload_n dL_law_994 rfl rfl ?_
  refine lw_edge (ρ := σ.1) (st := []) (by omega) dL_law_995 wl_L_120 (Nat.le_of_ble_eq_true rfl) ⟨Or.inr lw_xx, lw_okr hL trivial⟩ trivial hL hP.1 hC.2.1 hC.2.2.1 (fun i hi v1 g1 => ?_) (fun hn v1 g1 => ?_)
  · have hM1 := hM.of_c (v1 := v1) (fun b b1 b2 => g1 b (by omega))
    have hL1 : z_L (z_sw S 261 0 (n_eg σ.1 i).toInt64) := hL
    refine zj_istore (ls2 := l_LS t (.int 0) .null) dL_law_998 (by decide) rfl rfl ?_
    refine zj_aload_n dL_law_1000 rfl rfl ?_
    refine lw_arg (k := 1) (by omega) hG rfl dL_law_1001 dL_law_1002 dL_law_1004 dL_law_1005 dL_law_1006 ?_
    refine lw_arg (k := 2) (by omega) hG rfl dL_law_1007 dL_law_1008 dL_law_1010 dL_law_1011 dL_law_1012 ?_
    refine lw_arg (k := 3) (by omega) hG rfl dL_law_1013 dL_law_1014 dL_law_1016 dL_law_1017 dL_law_1018 ?_
    refine zj_callV (M' := mX11_edge) (avs := [.int (G.2 (t + 1)), .int (G.2 (t + 2)), .int (G.2 (t + 3))]) (st := []) (ci := 11) dL_law_1019 wm_X11_edge wl_L_122 wi_X11_edge ws_X11_edge (by decide) (zk_223 hL1) rfl rfl (by decide) rfl (Nat.le_of_ble_eq_true rfl) (Nat.le_of_ble_eq_true rfl) ⟨Or.inr lw_xx, lw_okr hL1 trivial⟩ trivial ?_
    refine sp_X11_edge (by omega) hL1 hP.1 hM1.1 hM1.2.1 (fun v2 j hj z2 f2 => ?_) (fun v2 hn _ _ => absurd ⟨i, hi⟩ hn)
    obtain rfl : j = i := a_eg_u hP.1 _ _ hj hi
    have e0 : v2 223 0 = 0 := z2
    refine zj_istore (ls2 := l_LS t (.int 0) (.int (n_eg σ.1 j))) dL_law_1022 (by decide) rfl rfl ?_
    refine zj_aload_n dL_law_1024 rfl rfl ?_
    refine zj_callV (M' := mX11_thrown) (avs := []) (st := []) (ci := 11) dL_law_1025 wm_X11_thrown wl_L_60 wi_X11_thrown ws_X11_thrown (by decide) (zk_223 hL1) rfl rfl (by decide) rfl (Nat.le_of_ble_eq_true rfl) (Nat.le_of_ble_eq_true rfl) ⟨Or.inr lw_xx, lw_okr hL1 trivial⟩ trivial (sg_X11_thrown_0 hL1 ?_)
    rw [e0]
    refine zj_iload dL_law_1028 rfl ?_
    refine zj_icmp_eq (tgt := 1035) dL_law_1030 (by decide) (fun _ => ?_) (fun c => absurd rfl c)
    refine zj_iload dL_law_1035 rfl ?_
    refine zj_if_ne (tgt := 1052) dL_law_1037 (by decide) (fun c => absurd rfl c) (fun _ => ?_)
    refine zj_aload_n dL_law_1040 rfl rfl ?_
    refine zj_iconst (x := 0) dL_law_1041 rfl ?_
    refine zj_laload dL_law_1042 (zk_261 hL1) (by rw [zl_261 hL1]; exact z_vin (by decide)) ?_
    refine zj_iload dL_law_1043 rfl ?_
    refine zj_i2l dL_law_1045 ?_
    refine zj_lcmp dL_law_1046 ?_
    refine zj_if_eq (tgt := 1052) dL_law_1047 (by decide) (fun _ => ?_) (fun c => absurd ?_ c)
    · refine zj_goto (tgt := 1650) dL_law_1052 (by decide) (zj_forget (ls2 := l_LS t .null .null) ⟨Or.inr rfl, Or.inr rfl, Or.inr rfl, Or.inr rfl, Or.inr rfl, Or.inl rfl, Or.inl rfl, trivial⟩ ?_)
      exact h _ _ ((g_pk hC hM hP (e_T.rf hC.1) g1 f2).sw.up (Nat.le_refl _) (Nat.le_add_right _ _) (Nat.le_add_right _ _))
    · rw [lw_wr]; exact lg_cmp_self _
  · have hM1 := hM.of_c (v1 := v1) (fun b b1 b2 => g1 b (by omega))
    have hL1 : z_L (z_ct S 1 6) := hL
    refine zj_istore (ls2 := l_LS t (.int 1) .null) dL_law_998 (by decide) rfl rfl ?_
    refine zj_aload_n dL_law_1000 rfl rfl ?_
    refine lw_arg (k := 1) (by omega) hG rfl dL_law_1001 dL_law_1002 dL_law_1004 dL_law_1005 dL_law_1006 ?_
    refine lw_arg (k := 2) (by omega) hG rfl dL_law_1007 dL_law_1008 dL_law_1010 dL_law_1011 dL_law_1012 ?_
    refine lw_arg (k := 3) (by omega) hG rfl dL_law_1013 dL_law_1014 dL_law_1016 dL_law_1017 dL_law_1018 ?_
    refine zj_callV (M' := mX11_edge) (avs := [.int (G.2 (t + 1)), .int (G.2 (t + 2)), .int (G.2 (t + 3))]) (st := []) (ci := 11) dL_law_1019 wm_X11_edge wl_L_122 wi_X11_edge ws_X11_edge (by decide) (zk_223 hL1) rfl rfl (by decide) rfl (Nat.le_of_ble_eq_true rfl) (Nat.le_of_ble_eq_true rfl) ⟨Or.inr lw_xx, lw_okr hL1 trivial⟩ trivial ?_
    refine sp_X11_edge (by omega) hL1 hP.1 hM1.1 hM1.2.1 (fun v2 j hj _ _ => absurd ⟨j, hj⟩ hn) (fun v2 hn z2 f2 => ?_)
    have e0 : v2 223 0 = 1 := z2
    refine zj_istore (ls2 := l_LS t (.int 1) (.int 0)) dL_law_1022 (by decide) rfl rfl ?_
    refine zj_aload_n dL_law_1024 rfl rfl ?_
    refine zj_callV (M' := mX11_thrown) (avs := []) (st := []) (ci := 11) dL_law_1025 wm_X11_thrown wl_L_60 wi_X11_thrown ws_X11_thrown (by decide) (zk_223 hL1) rfl rfl (by decide) rfl (Nat.le_of_ble_eq_true rfl) (Nat.le_of_ble_eq_true rfl) ⟨Or.inr lw_xx, lw_okr hL1 trivial⟩ trivial (sg_X11_thrown_0 hL1 ?_)
    rw [e0]
    refine zj_iload dL_law_1028 rfl ?_
    refine zj_icmp_eq (tgt := 1035) dL_law_1030 (by decide) (fun _ => ?_) (fun c => absurd rfl c)
    refine zj_iload dL_law_1035 rfl ?_
    refine zj_if_ne (tgt := 1052) dL_law_1037 (by decide) (fun _ => ?_) (fun c => absurd c (by decide))
    refine zj_goto (tgt := 1650) dL_law_1052 (by decide) (zj_forget (ls2 := l_LS t .null .null) ⟨Or.inr rfl, Or.inr rfl, Or.inr rfl, Or.inr rfl, Or.inr rfl, Or.inl rfl, Or.inl rfl, trivial⟩ ?_)
    exact h _ _ (g_pk hC hM hP (e_T.rf hC.1) g1 f2).ct
theorem lw_switch {x : Int32} (hd : 30 ≤ d) (ht : t + 7 ≤ G.1) (hG : G.1 ≤ 3584) (hB : B.1 ≤ 999000) (hI : g_I B S v) (h : ∀ S2 v2, g_I (B.1, B.2.1 + 1, B.2.2 + 6) S2 v2 → z_J G (d + 2) mL_law (1650, l_LS t .null .null, [], S2, v2) Q) : z_J G (d + 2) mL_law (40, l_LS t .null .null, [.int x], S, v) Q := by
  by_cases c0 : x = 0
  · exact zj_tabIn (tgt := 208) dL_law_40 (by rw [c0]; decide) (by rw [c0]; decide) (by rw [c0]; rfl) (by decide) (lc_feed (d := d + 1) (by omega) ht hG hB hI (fun S2 v2 h2 => h S2 v2 (h2.up (Nat.le_refl _) (Nat.le_add_right _ _) (Nat.le_add_right _ _))))
  by_cases c1 : x = 1
  · exact zj_tabIn (tgt := 281) dL_law_40 (by rw [c1]; decide) (by rw [c1]; decide) (by rw [c1]; rfl) (by decide) (lc_end (d := d + 1) (by omega) ht hG hB hI (fun S2 v2 h2 => h S2 v2 (h2.up (Nat.le_refl _) (Nat.le_add_right _ _) (Nat.le_add_right _ _))))
  by_cases c2 : x = 2
  · exact zj_tabIn (tgt := 306) dL_law_40 (by rw [c2]; decide) (by rw [c2]; decide) (by rw [c2]; rfl) (by decide) (lc_code (d := d + 1) (by omega) ht hG hB hI (fun S2 v2 h2 => h S2 v2 (h2.up (Nat.le_refl _) (Nat.le_add_right _ _) (Nat.le_add_right _ _))))
  by_cases c3 : x = 3
  · exact zj_tabIn (tgt := 331) dL_law_40 (by rw [c3]; decide) (by rw [c3]; decide) (by rw [c3]; rfl) (by decide) (lc_work (d := d + 1) (by omega) ht hG hB hI (fun S2 v2 h2 => h S2 v2 (h2.up (Nat.le_refl _) (Nat.le_add_right _ _) (Nat.le_add_right _ _))))
  by_cases c4 : x = 4
  · exact zj_tabIn (tgt := 344) dL_law_40 (by rw [c4]; decide) (by rw [c4]; decide) (by rw [c4]; rfl) (by decide) (lc_fault (d := d + 1) (by omega) ht hG hB hI (fun S2 v2 h2 => h S2 v2 (h2.up (Nat.le_refl _) (Nat.le_add_right _ _) (Nat.le_add_right _ _))))
  by_cases c5 : x = 5
  · exact zj_tabIn (tgt := 357) dL_law_40 (by rw [c5]; decide) (by rw [c5]; decide) (by rw [c5]; rfl) (by decide) (lc_now (d := d + 1) (by omega) ht hG hB hI (fun S2 v2 h2 => h S2 v2 (h2.up (Nat.le_refl _) (Nat.le_add_right _ _) (Nat.le_add_right _ _))))
  by_cases c6 : x = 6
  · exact zj_tabIn (tgt := 382) dL_law_40 (by rw [c6]; decide) (by rw [c6]; decide) (by rw [c6]; rfl) (by decide) (lc_check (by omega) ht hG hB hI (fun S2 v2 h2 => h S2 v2 h2))
  by_cases c7 : x = 7
  · exact zj_tabIn (tgt := 462) dL_law_40 (by rw [c7]; decide) (by rw [c7]; decide) (by rw [c7]; rfl) (by decide) (lc_qubit (by omega) ht hG hB hI (fun S2 v2 h2 => h S2 v2 h2))
  by_cases c8 : x = 8
  · exact zj_tabIn (tgt := 530) dL_law_40 (by rw [c8]; decide) (by rw [c8]; decide) (by rw [c8]; rfl) (by decide) (lc_reading (d := d + 1) (by omega) ht hG hB hI (fun S2 v2 h2 => h S2 v2 (h2.up (Nat.le_refl _) (Nat.le_add_right _ _) (Nat.le_add_right _ _))))
  by_cases c9 : x = 9
  · exact zj_tabIn (tgt := 567) dL_law_40 (by rw [c9]; decide) (by rw [c9]; decide) (by rw [c9]; rfl) (by decide) (lc_events (d := d + 1) (by omega) ht hG hB hI (fun S2 v2 h2 => h S2 v2 (h2.up (Nat.le_refl _) (Nat.le_add_right _ _) (Nat.le_add_right _ _))))
  by_cases c10 : x = 10
  · exact zj_tabIn (tgt := 592) dL_law_40 (by rw [c10]; decide) (by rw [c10]; decide) (by rw [c10]; rfl) (by decide) (lc_event (d := d + 1) (by omega) ht hG hB hI (fun S2 v2 h2 => h S2 v2 (h2.up (Nat.le_refl _) (Nat.le_add_right _ _) (Nat.le_add_right _ _))))
  by_cases c11 : x = 11
  · exact zj_tabIn (tgt := 641) dL_law_40 (by rw [c11]; decide) (by rw [c11]; decide) (by rw [c11]; rfl) (by decide) (lc_far (d := d + 1) (by omega) ht hG hB hI (fun S2 v2 h2 => h S2 v2 (h2.up (Nat.le_refl _) (Nat.le_add_right _ _) (Nat.le_add_right _ _))))
  by_cases c12 : x = 12
  · exact zj_tabIn (tgt := 690) dL_law_40 (by rw [c12]; decide) (by rw [c12]; decide) (by rw [c12]; rfl) (by decide) (lc_way (d := d + 1) (by omega) ht hG hB hI (fun S2 v2 h2 => h S2 v2 (h2.up (Nat.le_refl _) (Nat.le_add_right _ _) (Nat.le_add_right _ _))))
  by_cases c13 : x = 13
  · exact zj_tabIn (tgt := 751) dL_law_40 (by rw [c13]; decide) (by rw [c13]; decide) (by rw [c13]; rfl) (by decide) (lc_pair (d := d + 1) (by omega) ht hG hB hI (fun S2 v2 h2 => h S2 v2 (h2.up (Nat.le_refl _) (Nat.le_add_right _ _) (Nat.le_add_right _ _))))
  by_cases c14 : x = 14
  · exact zj_tabIn (tgt := 776) dL_law_40 (by rw [c14]; decide) (by rw [c14]; decide) (by rw [c14]; rfl) (by decide) (lc_partner (d := d + 1) (by omega) ht hG hB hI (fun S2 v2 h2 => h S2 v2 (h2.up (Nat.le_refl _) (Nat.le_add_right _ _) (Nat.le_add_right _ _))))
  by_cases c15 : x = 15
  · exact zj_tabIn (tgt := 801) dL_law_40 (by rw [c15]; decide) (by rw [c15]; decide) (by rw [c15]; rfl) (by decide) (lc_pairings (d := d + 1) (by omega) ht hG hB hI (fun S2 v2 h2 => h S2 v2 (h2.up (Nat.le_refl _) (Nat.le_add_right _ _) (Nat.le_add_right _ _))))
  by_cases c16 : x = 16
  · exact zj_tabIn (tgt := 826) dL_law_40 (by rw [c16]; decide) (by rw [c16]; decide) (by rw [c16]; rfl) (by decide) (lc_grow (d := d + 1) (by omega) ht hG hB hI (fun S2 v2 h2 => h S2 v2 (h2.up (Nat.le_refl _) (Nat.le_add_right _ _) (Nat.le_add_right _ _))))
  by_cases c17 : x = 17
  · exact zj_tabIn (tgt := 851) dL_law_40 (by rw [c17]; decide) (by rw [c17]; decide) (by rw [c17]; rfl) (by decide) (lc_grown (d := d + 1) (by omega) ht hG hB hI (fun S2 v2 h2 => h S2 v2 (h2.up (Nat.le_refl _) (Nat.le_add_right _ _) (Nat.le_add_right _ _))))
  by_cases c18 : x = 18
  · exact zj_tabIn (tgt := 876) dL_law_40 (by rw [c18]; decide) (by rw [c18]; decide) (by rw [c18]; rfl) (by decide) (lc_peeledAt (d := d + 1) (by omega) ht hG hB hI (fun S2 v2 h2 => h S2 v2 (h2.up (Nat.le_refl _) (Nat.le_add_right _ _) (Nat.le_add_right _ _))))
  by_cases c19 : x = 19
  · exact zj_tabIn (tgt := 901) dL_law_40 (by rw [c19]; decide) (by rw [c19]; decide) (by rw [c19]; rfl) (by decide) (lc_blame (d := d + 1) (by omega) ht hG hB hI (fun S2 v2 h2 => h S2 v2 (h2.up (Nat.le_refl _) (Nat.le_add_right _ _) (Nat.le_add_right _ _))))
  by_cases c20 : x = 20
  · exact zj_tabIn (tgt := 950) dL_law_40 (by rw [c20]; decide) (by rw [c20]; decide) (by rw [c20]; rfl) (by decide) (lc_edges (d := d + 1) (by omega) ht hG hB hI (fun S2 v2 h2 => h S2 v2 (h2.up (Nat.le_refl _) (Nat.le_add_right _ _) (Nat.le_add_right _ _))))
  by_cases c21 : x = 21
  · exact zj_tabIn (tgt := 975) dL_law_40 (by rw [c21]; decide) (by rw [c21]; decide) (by rw [c21]; rfl) (by decide) (lc_edge (by omega) ht hG hB hI (fun S2 v2 h2 => h S2 v2 h2))
  by_cases c22 : x = 22
  · exact zj_tabIn (tgt := 1055) dL_law_40 (by rw [c22]; decide) (by rw [c22]; decide) (by rw [c22]; rfl) (by decide) (lc_correction (d := d + 1) (by omega) ht hG hB hI (fun S2 v2 h2 => h S2 v2 (h2.up (Nat.le_refl _) (Nat.le_add_right _ _) (Nat.le_add_right _ _))))
  by_cases c23 : x = 23
  · exact zj_tabIn (tgt := 1092) dL_law_40 (by rw [c23]; decide) (by rw [c23]; decide) (by rw [c23]; rfl) (by decide) (lc_result (d := d + 1) (by omega) ht hG hB hI (fun S2 v2 h2 => h S2 v2 (h2.up (Nat.le_refl _) (Nat.le_add_right _ _) (Nat.le_add_right _ _))))
  by_cases c24 : x = 24
  · exact zj_tabIn (tgt := 1129) dL_law_40 (by rw [c24]; decide) (by rw [c24]; decide) (by rw [c24]; rfl) (by decide) (lc_correct (d := d + 1) (by omega) ht hG hB hI (fun S2 v2 h2 => h S2 v2 (h2.up (Nat.le_refl _) (Nat.le_add_right _ _) (Nat.le_add_right _ _))))
  by_cases c25 : x = 25
  · exact zj_tabIn (tgt := 1166) dL_law_40 (by rw [c25]; decide) (by rw [c25]; decide) (by rw [c25]; rfl) (by decide) (lc_distance (d := d + 1) (by omega) ht hG hB hI (fun S2 v2 h2 => h S2 v2 (h2.up (Nat.le_refl _) (Nat.le_add_right _ _) (Nat.le_add_right _ _))))
  by_cases c26 : x = 26
  · exact zj_tabIn (tgt := 1191) dL_law_40 (by rw [c26]; decide) (by rw [c26]; decide) (by rw [c26]; rfl) (by decide) (lc_like (d := d + 1) (by omega) ht hG hB hI (fun S2 v2 h2 => h S2 v2 (h2.up (Nat.le_refl _) (Nat.le_add_right _ _) (Nat.le_add_right _ _))))
  by_cases c27 : x = 27
  · exact zj_tabIn (tgt := 1240) dL_law_40 (by rw [c27]; decide) (by rw [c27]; decide) (by rw [c27]; rfl) (by decide) (lc_odds (d := d + 1) (by omega) ht hG hB hI (fun S2 v2 h2 => h S2 v2 (h2.up (Nat.le_refl _) (Nat.le_add_right _ _) (Nat.le_add_right _ _))))
  by_cases c28 : x = 28
  · exact zj_tabIn (tgt := 1302) dL_law_40 (by rw [c28]; decide) (by rw [c28]; decide) (by rw [c28]; rfl) (by decide) (lc_press (d := d + 1) (by omega) ht hG hB hI (fun S2 v2 h2 => h S2 v2 (h2.up (Nat.le_refl _) (Nat.le_add_right _ _) (Nat.le_add_right _ _))))
  by_cases c29 : x = 29
  · exact zj_tabIn (tgt := 1339) dL_law_40 (by rw [c29]; decide) (by rw [c29]; decide) (by rw [c29]; rfl) (by decide) (lc_chain (d := d + 1) (by omega) ht hG hB hI (fun S2 v2 h2 => h S2 v2 (h2.up (Nat.le_refl _) (Nat.le_add_right _ _) (Nat.le_add_right _ _))))
  by_cases c30 : x = 30
  · exact zj_tabIn (tgt := 1364) dL_law_40 (by rw [c30]; decide) (by rw [c30]; decide) (by rw [c30]; rfl) (by decide) (lc_line (d := d + 1) (by omega) ht hG hB hI (fun S2 v2 h2 => h S2 v2 (h2.up (Nat.le_refl _) (Nat.le_add_right _ _) (Nat.le_add_right _ _))))
  by_cases c31 : x = 31
  · exact zj_tabIn (tgt := 1389) dL_law_40 (by rw [c31]; decide) (by rw [c31]; decide) (by rw [c31]; rfl) (by decide) (lc_byteAt (d := d + 1) (by omega) ht hG hB hI (fun S2 v2 h2 => h S2 v2 (h2.up (Nat.le_refl _) (Nat.le_add_right _ _) (Nat.le_add_right _ _))))
  by_cases c32 : x = 32
  · exact zj_tabIn (tgt := 1414) dL_law_40 (by rw [c32]; decide) (by rw [c32]; decide) (by rw [c32]; rfl) (by decide) (lc_fewest (d := d + 1) (by omega) ht hG hB hI (fun S2 v2 h2 => h S2 v2 (h2.up (Nat.le_refl _) (Nat.le_add_right _ _) (Nat.le_add_right _ _))))
  by_cases c33 : x = 33
  · exact zj_tabIn (tgt := 1451) dL_law_40 (by rw [c33]; decide) (by rw [c33]; decide) (by rw [c33]; rfl) (by decide) (lc_drawn (d := d + 1) (by omega) ht hG hB hI (fun S2 v2 h2 => h S2 v2 (h2.up (Nat.le_refl _) (Nat.le_add_right _ _) (Nat.le_add_right _ _))))
  by_cases c34 : x = 34
  · exact zj_tabIn (tgt := 1500) dL_law_40 (by rw [c34]; decide) (by rw [c34]; decide) (by rw [c34]; rfl) (by decide) (lc_often (d := d + 1) (by omega) ht hG hB hI (fun S2 v2 h2 => h S2 v2 (h2.up (Nat.le_refl _) (Nat.le_add_right _ _) (Nat.le_add_right _ _))))
  by_cases c35 : x = 35
  · exact zj_tabIn (tgt := 1587) dL_law_40 (by rw [c35]; decide) (by rw [c35]; decide) (by rw [c35]; rfl) (by decide) (lc_undo (d := d + 1) (by omega) ht hG hB hI (fun S2 v2 h2 => h S2 v2 (h2.up (Nat.le_refl _) (Nat.le_add_right _ _) (Nat.le_add_right _ _))))
  by_cases c36 : x = 36
  · exact zj_tabIn (tgt := 1600) dL_law_40 (by rw [c36]; decide) (by rw [c36]; decide) (by rw [c36]; rfl) (by decide) (lc_image (d := d + 1) (by omega) ht hG hB hI (fun S2 v2 h2 => h S2 v2 (h2.up (Nat.le_refl _) (Nat.le_add_right _ _) (Nat.le_add_right _ _))))
  by_cases c37 : x = 37
  · exact zj_tabIn (tgt := 1625) dL_law_40 (by rw [c37]; decide) (by rw [c37]; decide) (by rw [c37]; rfl) (by decide) (lc_restore (d := d + 1) (by omega) ht hG hB hI (fun S2 v2 h2 => h S2 v2 (h2.up (Nat.le_refl _) (Nat.le_add_right _ _) (Nat.le_add_right _ _))))
  exact zj_tabOut (tgt := 1650) dL_law_40 (z_out_0_37 c0 c1 c2 c3 c4 c5 c6 c7 c8 c9 c10 c11 c12 c13 c14 c15 c16 c17 c18 c19 c20 c21 c22 c23 c24 c25 c26 c27 c28 c29 c30 c31 c32 c33 c34 c35 c36 c37) (by decide) (h S v (hI.up (Nat.le_refl _) (Nat.le_add_right _ _) (Nat.le_add_right _ _)))
end LC
