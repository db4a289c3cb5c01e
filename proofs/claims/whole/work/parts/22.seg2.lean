theorem sg_J1_charAt_3b067_0 {G : z_G} {d : Nat} {S : z_Shp} {v : z_Dat} {Q : Option Value → z_Shp → z_Dat → Prop} {x0 : Nat} {x1 : Int32} (hx0 : z_k S x0 = 22)
    (h : z_J G d mJ0_checkIndex_df160 (0, [.int x1, .int (Int32.ofNat (z_l S x0))], [], S, v) (fun r S1 v1 => r = none ∧ S1 = S ∧ ((vp_in x1 (z_l S x0)) ∧ (narrow .char (.int ((((v1 x0 x1.toNatClampNeg) &&& 255).toUInt32 % 65536).toInt32)) = .int ((((v1 x0 x1.toNatClampNeg) &&& 255).toUInt32 % 65536).toInt32) ∧ Q (some (.int ((((v1 x0 x1.toNatClampNeg) &&& 255).toUInt32 % 65536).toInt32))) S v1)))) :
    z_J G (d + 1) mJ1_charAt_3b067 (0, [.ref x0, .int x1], [], S, v) Q := by
  refine zj_iload_n dJ1_charAt_3b067_0 rfl rfl ?_
  refine zj_aload_n dJ1_charAt_3b067_1 rfl rfl ?_
  refine zj_alen (t := 1) dJ1_charAt_3b067_2 hx0 (by decide) ?_
  refine zj_callS (M' := mJ0_checkIndex_df160) (avs := [.int x1, .int (Int32.ofNat (z_l S x0))]) (st := []) dJ1_charAt_3b067_3 wm_J0_checkIndex_df160 wl_J1_9 wt_J0_checkIndex_df160 rfl (by decide) rfl (Nat.le_of_ble_eq_true rfl) (Nat.le_of_ble_eq_true rfl) ⟨Or.inl (z_k0 hx0), trivial⟩ trivial (z_J.mono h (fun r S1 v1 hq => ?_))
  obtain ⟨rfl, rfl, h⟩ := hq
  refine zj_aload_n dJ1_charAt_3b067_6 rfl rfl ?_
  refine zj_iload_n dJ1_charAt_3b067_7 rfl rfl ?_
  refine zj_baload dJ1_charAt_3b067_8 hx0 h.1 ?_
  replace h := h.2
  refine zj_sipush (x := 255) dJ1_charAt_3b067_9 rfl ?_
  refine zj_iand dJ1_charAt_3b067_12 ?_
  refine zj_i2c dJ1_charAt_3b067_13 ?_
  exact zj_iret dJ1_charAt_3b067_14 rfl h.1 h.2
theorem sg_J2_charAt_3b067_0 {G : z_G} {d : Nat} {S : z_Shp} {v : z_Dat} {Q : Option Value → z_Shp → z_Dat → Prop} {x0 : Nat} {x1 : Int32} (hx0 : z_k S x0 = 22)
    (h : z_J G d mJ2_checkIndex_2214a (0, [.int x1, .ref x0], [], S, v) (fun r S1 v1 => r = none ∧ S1 = S ∧ (z_J G d mJ2_getChar_3b067 (0, [.ref x0, .int x1], [], S, v1) (fun r S1 v2 => ∃ y1 : Int32, r = some (.int y1) ∧ S1 = S ∧ (narrow .char (.int y1) = .int y1 ∧ Q (some (.int y1)) S v2))))) :
    z_J G (d + 1) mJ2_charAt_3b067 (0, [.ref x0, .int x1], [], S, v) Q := by
  refine zj_iload_n dJ2_charAt_3b067_0 rfl rfl ?_
  refine zj_aload_n dJ2_charAt_3b067_1 rfl rfl ?_
  refine zj_callS (M' := mJ2_checkIndex_2214a) (avs := [.int x1, .ref x0]) (st := []) dJ2_charAt_3b067_2 wm_J2_checkIndex_2214a wl_J2_67 wt_J2_checkIndex_2214a rfl (by decide) rfl (Nat.le_of_ble_eq_true rfl) (Nat.le_of_ble_eq_true rfl) ⟨Or.inl (z_k0 hx0), trivial⟩ trivial (z_J.mono h (fun r S1 v1 hq => ?_))
  obtain ⟨rfl, rfl, h⟩ := hq
  refine zj_aload_n dJ2_charAt_3b067_5 rfl rfl ?_
  refine zj_iload_n dJ2_charAt_3b067_6 rfl rfl ?_
  refine zj_callS (M' := mJ2_getChar_3b067) (avs := [.ref x0, .int x1]) (st := []) dJ2_charAt_3b067_7 wm_J2_getChar_3b067 wl_J2_71 wt_J2_getChar_3b067 rfl (by decide) rfl (Nat.le_of_ble_eq_true rfl) (Nat.le_of_ble_eq_true rfl) ⟨Or.inl (z_k0 hx0), trivial⟩ trivial (z_J.mono h (fun r S1 v2 hq => ?_))
  obtain ⟨y1, rfl, rfl, h⟩ := hq
  exact zj_iret dJ2_charAt_3b067_10 rfl h.1 h.2
theorem sg_J2_checkIndex_2214a_0 {G : z_G} {d : Nat} {S : z_Shp} {v : z_Dat} {Q : Option Value → z_Shp → z_Dat → Prop} {x0 : Int32} {x1 : Nat} (hx1 : z_k S x1 = 22)
    (h : z_J G d mJ2_length_9d52b (0, [.ref x1], [], S, v) (fun r S1 v1 => ∃ y1 : Int32, r = some (.int y1) ∧ S1 = S ∧ (z_J G d mJ0_checkIndex_df160 (0, [.int x0, .int y1], [], S, v1) (fun r S1 v2 => r = none ∧ S1 = S ∧ (Q none S v2))))) :
    z_J G (d + 1) mJ2_checkIndex_2214a (0, [.int x0, .ref x1], [], S, v) Q := by
  refine zj_iload_n dJ2_checkIndex_2214a_0 rfl rfl ?_
  refine zj_aload_n dJ2_checkIndex_2214a_1 rfl rfl ?_
  refine zj_callS (M' := mJ2_length_9d52b) (avs := [.ref x1]) (st := [.int x0]) dJ2_checkIndex_2214a_2 wm_J2_length_9d52b wl_J2_48 wt_J2_length_9d52b rfl (by decide) rfl (Nat.le_of_ble_eq_true rfl) (Nat.le_of_ble_eq_true rfl) ⟨Or.inl (z_k0 hx1), trivial⟩ trivial (z_J.mono h (fun r S1 v1 hq => ?_))
  obtain ⟨y1, rfl, rfl, h⟩ := hq
  refine zj_callS (M' := mJ0_checkIndex_df160) (avs := [.int x0, .int y1]) (st := []) dJ2_checkIndex_2214a_5 wm_J0_checkIndex_df160 wl_J2_414 wt_J0_checkIndex_df160 rfl (by decide) rfl (Nat.le_of_ble_eq_true rfl) (Nat.le_of_ble_eq_true rfl) ⟨Or.inl (z_k0 hx1), trivial⟩ trivial (z_J.mono h (fun r S1 v2 hq => ?_))
  obtain ⟨rfl, rfl, h⟩ := hq
  exact zj_vret dJ2_checkIndex_2214a_8 rfl h
theorem sg_J2_length_9d52b_0 {G : z_G} {d : Nat} {S : z_Shp} {v : z_Dat} {Q : Option Value → z_Shp → z_Dat → Prop} {x0 : Nat} (hx0 : z_k S x0 = 22)
    (h : Q (some (.int ((Int32.ofNat (z_l S x0)) >>> ((1 : Int32) &&& 31)))) S v) :
    z_J G d mJ2_length_9d52b (0, [.ref x0], [], S, v) Q := by
  refine zj_aload_n dJ2_length_9d52b_0 rfl rfl ?_
  refine zj_alen (t := 1) dJ2_length_9d52b_1 hx0 (by decide) ?_
  refine zj_iconst (x := 1) dJ2_length_9d52b_2 rfl ?_
  refine zj_ishr dJ2_length_9d52b_3 ?_
  exact zj_iret dJ2_length_9d52b_4 rfl rfl h
theorem sg_J7_fill_53178_0 {G : z_G} {d : Nat} {S : z_Shp} {v : z_Dat} {Q : Option Value → z_Shp → z_Dat → Prop} {x0 : Nat} {x1 : Int32} (hx0 : z_k S x0 = 21)
    (h : z_J G d mJ7_fill_53178 (5, [.ref x0, .int x1, .int 0, .int (Int32.ofNat (z_l S x0))], [], S, v) Q) :
    z_J G d mJ7_fill_53178 (0, [.ref x0, .int x1, .null, .null], [], S, v) Q := by
  refine zj_iconst (x := 0) dJ7_fill_53178_0 rfl ?_
  refine zj_istore_n (ls2 := [.ref x0, .int x1, .int 0, .null]) dJ7_fill_53178_1 rfl (by decide) rfl rfl ?_
  refine zj_aload_n dJ7_fill_53178_2 rfl rfl ?_
  refine zj_alen (t := 0) dJ7_fill_53178_3 hx0 (by decide) ?_
  refine zj_istore_n (ls2 := [.ref x0, .int x1, .int 0, .int (Int32.ofNat (z_l S x0))]) dJ7_fill_53178_4 rfl (by decide) rfl rfl ?_
  exact h
theorem sg_J7_fill_53178_5 {G : z_G} {d : Nat} {S : z_Shp} {v : z_Dat} {Q : Option Value → z_Shp → z_Dat → Prop} {x1 : Int32} {x2 : Int32} {x3 : Int32} {x0 : Nat} (hx0 : z_k S x0 = 21)
    (h : (x3 ≤ x2 → (Q none S v)) ∧ (¬ x3 ≤ x2 → (vp_in x2 (z_l S x0) ∧ (∀ v1, v1 = z_u v x0 x2.toNatClampNeg x1 → (z_J G d mJ7_fill_53178 (5, [.ref x0, .int x1, .int (x2 + 1), .int x3], [], S, v1) Q))))) :
    z_J G d mJ7_fill_53178 (5, [.ref x0, .int x1, .int x2, .int x3], [], S, v) Q := by
  refine zj_iload_n dJ7_fill_53178_5 rfl rfl ?_
  refine zj_iload_n dJ7_fill_53178_6 rfl rfl ?_
  refine zj_icmp_ge (tgt := 20) dJ7_fill_53178_7 (by decide) (fun c => ?_) (fun c => ?_)
  · replace h := h.1 c
    exact zj_vret dJ7_fill_53178_20 rfl h
  · replace h := h.2 c
    refine zj_aload_n dJ7_fill_53178_10 rfl rfl ?_
    refine zj_iload_n dJ7_fill_53178_11 rfl rfl ?_
    refine zj_iload_n dJ7_fill_53178_12 rfl rfl ?_
    refine zj_iastore dJ7_fill_53178_13 hx0 h.1 (fun v1 ev1 => ?_)
    replace h := h.2 v1 ev1
    refine zj_iinc (y := x2 + 1) (ls2 := [.ref x0, .int x1, .int (x2 + 1), .int x3]) dJ7_fill_53178_14 rfl rfl (by decide) rfl rfl ?_
    refine zj_goto (tgt := 5) dJ7_fill_53178_17 (by decide) ?_
    exact h
theorem sg_X0_copyFrom_0 {G : z_G} {d : Nat} {S : z_Shp} {v : z_Dat} {Q : Option Value → z_Shp → z_Dat → Prop} {f : Nat} {x1 : Nat} {w_x1 : Nat} (hL : z_L S) (hf : z_isF f) (hx1 : z_isF x1) (rw_x1 : z_r S x1 0 = some w_x1) (hw_x1 : z_isW w_x1)
    (h : w_x1 < z_n S ∧ z_J G d mX0_copyFrom (8, [.ref f, .ref x1, .null], [], (z_sr S f 0 (some w_x1)), v) Q) :
    z_J G d mX0_copyFrom (0, [.ref f, .ref x1, .null], [], S, v) Q := by
  refine zj_aload_n dX0_copyFrom_0 rfl rfl ?_
  refine zj_aload_n dX0_copyFrom_1 rfl rfl ?_
  refine zj_getR (ci := 0) (j := 0) dX0_copyFrom_2 wf_X0_33 (by decide) (by decide) (zFk0 hL hx1) rfl rw_x1 ?_
  refine zj_putR (ci := 0) (j := 0) dX0_copyFrom_5 wf_X0_33 (by decide) (by decide) (zFk0 hL hf) rfl rfl (fun _ => rfl) (fun _ => rfl) (Or.inl h.1) ?_
  replace h := h.2
  exact h
theorem sg_X0_copyFrom_8 {G : z_G} {d : Nat} {S : z_Shp} {v : z_Dat} {Q : Option Value → z_Shp → z_Dat → Prop} {f : Nat} {x1 : Nat} (hL : z_L S) (hf : z_isF f) (hx1 : z_isF x1)
    (h : ∀ v1, v1 = z_u v f 1 (v x1 1) → (z_cpOk 0 0 25 25 25 ∧ (∀ v2, v2 = z_ua v1 (f + 6) (va_cpy (v1 (x1 + 6)) (v1 (f + 6)) 0 0 25) → (z_J G (d + 1) mX0_copyFrom (33, [.ref f, .ref x1, .int 0], [], S, v2) Q)))) :
    z_J G (d + 1) mX0_copyFrom (8, [.ref f, .ref x1, .null], [], S, v) Q := by
  refine zj_aload_n dX0_copyFrom_8 rfl rfl ?_
  refine zj_aload_n dX0_copyFrom_9 rfl rfl ?_
  refine zj_getI (ci := 0) (j := 1) dX0_copyFrom_10 wf_X0_37 (by decide) (by decide) (zFk0 hL hx1) rfl ?_
  refine zj_putI (ci := 0) (j := 1) dX0_copyFrom_13 wf_X0_37 (by decide) (by decide) (zFk0 hL hf) rfl rfl rfl rfl (fun v1 ev1 => ?_)
  replace h := h v1 ev1
  refine zj_aload_n dX0_copyFrom_16 rfl rfl ?_
  refine zj_getR (ci := 0) (j := 5) dX0_copyFrom_17 wf_X0_23 (by decide) (by decide) (zFk0 hL hx1) rfl (zFr0_5 hL hx1) ?_
  refine zj_iconst (x := 0) dX0_copyFrom_20 rfl ?_
  refine zj_aload_n dX0_copyFrom_21 rfl rfl ?_
  refine zj_getR (ci := 0) (j := 5) dX0_copyFrom_22 wf_X0_23 (by decide) (by decide) (zFk0 hL hf) rfl (zFr0_5 hL hf) ?_
  refine zj_iconst (x := 0) dX0_copyFrom_25 rfl ?_
  refine zj_bipush (x := 25) dX0_copyFrom_26 rfl ?_
  refine zj_copy dX0_copyFrom_28 wl_X0_47 (Nat.le_of_ble_eq_true rfl) (zFk6 hL hx1) (zFk6 hL hf) (by rw [(zFl6 hL hx1), (zFl6 hL hf)]; exact h.1) (fun v2 ev2 => ?_)
  replace h := h.2 v2 ev2
  refine zj_iconst (x := 0) dX0_copyFrom_31 rfl ?_
  refine zj_istore_n (ls2 := [.ref f, .ref x1, .int 0]) dX0_copyFrom_32 rfl (by decide) rfl rfl ?_
  exact h
theorem sg_X0_copyFrom_33 {G : z_G} {d : Nat} {S : z_Shp} {v : z_Dat} {Q : Option Value → z_Shp → z_Dat → Prop} {x2 : Int32} {f : Nat} {x1 : Nat} (hL : z_L S) (hf : z_isF f) (hx1 : z_isF x1)
    (h : (2 ≤ x2 → (Q none S v)) ∧ (¬ 2 ≤ x2 → ((vp_in x2 2) ∧ (vp_in x2 2 ∧ (∀ v1, v1 = z_u v (f + 1) x2.toNatClampNeg (v (x1 + 1) x2.toNatClampNeg) → ((vp_in x2 2) ∧ (vp_in x2 2 ∧ (∀ v2, v2 = z_u v1 (f + 2) x2.toNatClampNeg (v1 (x1 + 2) x2.toNatClampNeg) → ((vp_in x2 2) ∧ ((vp_in x2 2) ∧ (z_cpOk 0 0 8 8 8 ∧ (∀ v3, v3 = z_ua v2 (f + 4 + x2.toNatClampNeg) (va_cpy (v2 (x1 + 4 + x2.toNatClampNeg)) (v2 (f + 4 + x2.toNatClampNeg)) 0 0 8) → ((vp_in x2 2) ∧ ((vp_in x2 2) ∧ (z_cpOk 0 0 12 12 12 ∧ (∀ v4, v4 = z_ua v3 (f + 8 + x2.toNatClampNeg) (va_cpy (v3 (x1 + 8 + x2.toNatClampNeg)) (v3 (f + 8 + x2.toNatClampNeg)) 0 0 12) → (z_J G (d + 1) mX0_copyFrom (33, [.ref f, .ref x1, .int (x2 + 1)], [], S, v4) Q))))))))))))))))) :
    z_J G (d + 1) mX0_copyFrom (33, [.ref f, .ref x1, .int x2], [], S, v) Q := by
  refine zj_iload_n dX0_copyFrom_33 rfl rfl ?_
  refine zj_iconst (x := 2) dX0_copyFrom_34 rfl ?_
  refine zj_icmp_ge (tgt := 106) dX0_copyFrom_35 (by decide) (fun c => ?_) (fun c => ?_)
  · replace h := h.1 c
    exact zj_vret dX0_copyFrom_106 rfl h
  · replace h := h.2 c
    refine zj_aload_n dX0_copyFrom_38 rfl rfl ?_
    refine zj_getR (ci := 0) (j := 2) dX0_copyFrom_39 wf_X0_9 (by decide) (by decide) (zFk0 hL hf) rfl (zFr0_2 hL hf) ?_
    refine zj_iload_n dX0_copyFrom_42 rfl rfl ?_
    refine zj_aload_n dX0_copyFrom_43 rfl rfl ?_
    refine zj_getR (ci := 0) (j := 2) dX0_copyFrom_44 wf_X0_9 (by decide) (by decide) (zFk0 hL hx1) rfl (zFr0_2 hL hx1) ?_
    refine zj_iload_n dX0_copyFrom_47 rfl rfl ?_
    refine zj_iaload dX0_copyFrom_48 (zFk1 hL hx1) (by rw [(zFl1 hL hx1)]; exact h.1) ?_
    replace h := h.2
    refine zj_iastore dX0_copyFrom_49 (zFk1 hL hf) (by rw [(zFl1 hL hf)]; exact h.1) (fun v1 ev1 => ?_)
    replace h := h.2 v1 ev1
    refine zj_aload_n dX0_copyFrom_50 rfl rfl ?_
    refine zj_getR (ci := 0) (j := 3) dX0_copyFrom_51 wf_X0_15 (by decide) (by decide) (zFk0 hL hf) rfl (zFr0_3 hL hf) ?_
    refine zj_iload_n dX0_copyFrom_54 rfl rfl ?_
    refine zj_aload_n dX0_copyFrom_55 rfl rfl ?_
    refine zj_getR (ci := 0) (j := 3) dX0_copyFrom_56 wf_X0_15 (by decide) (by decide) (zFk0 hL hx1) rfl (zFr0_3 hL hx1) ?_
    refine zj_iload_n dX0_copyFrom_59 rfl rfl ?_
    refine zj_iaload dX0_copyFrom_60 (zFk2 hL hx1) (by rw [(zFl2 hL hx1)]; exact h.1) ?_
    replace h := h.2
    refine zj_iastore dX0_copyFrom_61 (zFk2 hL hf) (by rw [(zFl2 hL hf)]; exact h.1) (fun v2 ev2 => ?_)
    replace h := h.2 v2 ev2
    refine zj_aload_n dX0_copyFrom_62 rfl rfl ?_
    refine zj_getR (ci := 0) (j := 4) dX0_copyFrom_63 wf_X0_20 (by decide) (by decide) (zFk0 hL hx1) rfl (zFr0_4 hL hx1) ?_
    refine zj_iload_n dX0_copyFrom_66 rfl rfl ?_
    obtain ⟨hi1, h⟩ := h
    refine zj_aaload0 dX0_copyFrom_67 (zFk3 hL hx1) (by rw [(zFl3 hL hx1)]; exact hi1) (zFg3r hL hx1 hi1) ?_
    refine zj_iconst (x := 0) dX0_copyFrom_68 rfl ?_
    refine zj_aload_n dX0_copyFrom_69 rfl rfl ?_
    refine zj_getR (ci := 0) (j := 4) dX0_copyFrom_70 wf_X0_20 (by decide) (by decide) (zFk0 hL hf) rfl (zFr0_4 hL hf) ?_
    refine zj_iload_n dX0_copyFrom_73 rfl rfl ?_
    obtain ⟨hi2, h⟩ := h
    refine zj_aaload0 dX0_copyFrom_74 (zFk3 hL hf) (by rw [(zFl3 hL hf)]; exact hi2) (zFg3r hL hf hi2) ?_
    refine zj_iconst (x := 0) dX0_copyFrom_75 rfl ?_
    refine zj_bipush (x := 8) dX0_copyFrom_76 rfl ?_
    refine zj_copy dX0_copyFrom_78 wl_X0_47 (Nat.le_of_ble_eq_true rfl) (zFg3k hL hx1 hi1) (zFg3k hL hf hi2) (by rw [(zFg3l hL hx1 hi1), (zFg3l hL hf hi2)]; exact h.1) (fun v3 ev3 => ?_)
    replace h := h.2 v3 ev3
    refine zj_aload_n dX0_copyFrom_81 rfl rfl ?_
    refine zj_getR (ci := 0) (j := 6) dX0_copyFrom_82 wf_X0_26 (by decide) (by decide) (zFk0 hL hx1) rfl (zFr0_6 hL hx1) ?_
    refine zj_iload_n dX0_copyFrom_85 rfl rfl ?_
    obtain ⟨hi3, h⟩ := h
    refine zj_aaload0 dX0_copyFrom_86 (zFk7 hL hx1) (by rw [(zFl7 hL hx1)]; exact hi3) (zFg7r hL hx1 hi3) ?_
    refine zj_iconst (x := 0) dX0_copyFrom_87 rfl ?_
    refine zj_aload_n dX0_copyFrom_88 rfl rfl ?_
    refine zj_getR (ci := 0) (j := 6) dX0_copyFrom_89 wf_X0_26 (by decide) (by decide) (zFk0 hL hf) rfl (zFr0_6 hL hf) ?_
    refine zj_iload_n dX0_copyFrom_92 rfl rfl ?_
    obtain ⟨hi4, h⟩ := h
    refine zj_aaload0 dX0_copyFrom_93 (zFk7 hL hf) (by rw [(zFl7 hL hf)]; exact hi4) (zFg7r hL hf hi4) ?_
    refine zj_iconst (x := 0) dX0_copyFrom_94 rfl ?_
    refine zj_bipush (x := 12) dX0_copyFrom_95 rfl ?_
    refine zj_copy dX0_copyFrom_97 wl_X0_47 (Nat.le_of_ble_eq_true rfl) (zFg7k hL hx1 hi3) (zFg7k hL hf hi4) (by rw [(zFg7l hL hx1 hi3), (zFg7l hL hf hi4)]; exact h.1) (fun v4 ev4 => ?_)
    replace h := h.2 v4 ev4
    refine zj_iinc (y := x2 + 1) (ls2 := [.ref f, .ref x1, .int (x2 + 1)]) dX0_copyFrom_100 rfl rfl (by decide) rfl rfl ?_
    refine zj_goto (tgt := 33) dX0_copyFrom_103 (by decide) ?_
    exact h
theorem sg_X0_drawRounds_0 {G : z_G} {d : Nat} {S : z_Shp} {v : z_Dat} {Q : Option Value → z_Shp → z_Dat → Prop} {f : Nat} {x1 : Int32} {x2 : Int32} {x3 : Int32} (hf : z_isF f)
    (h : z_J G d mX0_drawRounds (9, [.ref f, .int x1, .int x2, .int x3, .int x3, .int 0, .int 0, .null, .null], [], S, v) Q) :
    z_J G d mX0_drawRounds (0, [.ref f, .int x1, .int x2, .int x3, .null, .null, .null, .null, .null], [], S, v) Q := by
  refine zj_iload_n dX0_drawRounds_0 rfl rfl ?_
  refine zj_istore (ls2 := [.ref f, .int x1, .int x2, .int x3, .int x3, .null, .null, .null, .null]) dX0_drawRounds_1 (by decide) rfl rfl ?_
  refine zj_iconst (x := 0) dX0_drawRounds_3 rfl ?_
  refine zj_istore (ls2 := [.ref f, .int x1, .int x2, .int x3, .int x3, .int 0, .null, .null, .null]) dX0_drawRounds_4 (by decide) rfl rfl ?_
  refine zj_iconst (x := 0) dX0_drawRounds_6 rfl ?_
  refine zj_istore (ls2 := [.ref f, .int x1, .int x2, .int x3, .int x3, .int 0, .int 0, .null, .null]) dX0_drawRounds_7 (by decide) rfl rfl ?_
  exact h
theorem sg_X0_drawRounds_9 {G : z_G} {d : Nat} {S : z_Shp} {v : z_Dat} {Q : Option Value → z_Shp → z_Dat → Prop} {x1 : Int32} {x2 : Int32} {x3 : Int32} {x4 : Int32} {x5 : Int32} {x6 : Int32} {f : Nat} (hf : z_isF f)
    (h : (x1 ≤ x6 → (Q (some (.int x5)) S v)) ∧ (¬ x1 ≤ x6 → (z_J G d mX0_drawRounds (18, [.ref f, .int x1, .int x2, .int x3, .int x4, .int x5, .int x6, .int 0, .null], [], S, v) Q))) :
    z_J G d mX0_drawRounds (9, [.ref f, .int x1, .int x2, .int x3, .int x4, .int x5, .int x6, .null, .null], [], S, v) Q := by
  refine zj_iload dX0_drawRounds_9 rfl ?_
  refine zj_iload_n dX0_drawRounds_11 rfl rfl ?_
  refine zj_icmp_ge (tgt := 141) dX0_drawRounds_12 (by decide) (fun c => ?_) (fun c => ?_)
  · replace h := h.1 c
    refine zj_iload dX0_drawRounds_141 rfl ?_
    exact zj_iret dX0_drawRounds_143 rfl rfl h
  · replace h := h.2 c
    refine zj_iconst (x := 0) dX0_drawRounds_15 rfl ?_
    refine zj_istore (ls2 := [.ref f, .int x1, .int x2, .int x3, .int x4, .int x5, .int x6, .int 0, .null]) dX0_drawRounds_16 (by decide) rfl rfl ?_
    exact h
theorem sg_X0_drawRounds_18 {G : z_G} {d : Nat} {S : z_Shp} {v : z_Dat} {Q : Option Value → z_Shp → z_Dat → Prop} {x1 : Int32} {x2 : Int32} {x3 : Int32} {x4 : Int32} {x5 : Int32} {x6 : Int32} {x7 : Int32} {f : Nat} {w_f : Nat} (hL : z_L S) (hf : z_isF f) (rw_f : z_r S f 0 = some w_f) (hw_f : z_isW w_f)
    (h : ((v w_f 1) ≤ x7 → (z_J G (d + 1) mX0_drawRounds (63, [.ref f, .int x1, .int x2, .int x3, .int x4, .int x5, .int x6, .int 0, .null], [], S, v) Q)) ∧ (¬ (v w_f 1) ≤ x7 → (z_J G d mX0_slipByDraw (0, [.ref f, .int (z_dr ((x4 * 1103515245) + 12345)), .int x2, .int x7, .null], [], S, v) (fun r S1 v1 => ∃ y1 : Int32, r = some (.int y1) ∧ S1 = S ∧ (z_J G (d + 1) mX0_drawRounds (18, [.ref f, .int x1, .int x2, .int x3, .int ((x4 * 1103515245) + 12345), .int (x5 + y1), .int x6, .int (x7 + 1), .null], [], S, v1) Q))))) :
    z_J G (d + 1) mX0_drawRounds (18, [.ref f, .int x1, .int x2, .int x3, .int x4, .int x5, .int x6, .int x7, .null], [], S, v) Q := by
  refine zj_iload dX0_drawRounds_18 rfl ?_
  refine zj_aload_n dX0_drawRounds_20 rfl rfl ?_
  refine zj_getR (ci := 0) (j := 0) dX0_drawRounds_21 wf_X0_33 (by decide) (by decide) (zFk0 hL hf) rfl rw_f ?_
  refine zj_getI (ci := 9) (j := 1) dX0_drawRounds_24 wf_X0_70 (by decide) (by decide) (zWk0 hL hw_f) rfl ?_
  refine zj_icmp_ge (tgt := 60) dX0_drawRounds_27 (by decide) (fun c => ?_) (fun c => ?_)
  · replace h := h.1 c
    refine zj_iconst (x := 0) dX0_drawRounds_60 rfl ?_
    refine zj_istore (ls2 := [.ref f, .int x1, .int x2, .int x3, .int x4, .int x5, .int x6, .int 0, .null]) dX0_drawRounds_61 (by decide) rfl rfl ?_
    exact h
  · replace h := h.2 c
    refine zj_iload dX0_drawRounds_30 rfl ?_
    refine zj_callS (M' := mX0_drawBehind) (avs := [.int x4]) (st := []) dX0_drawRounds_32 wm_X0_drawBehind wl_X0_73 wt_X0_drawBehind rfl (by decide) rfl (Nat.le_of_ble_eq_true rfl) (Nat.le_of_ble_eq_true rfl) ⟨Or.inl (z_k0 (zFk0 hL hf)), trivial⟩ trivial (hp_X0_drawBehind ?_)
    refine zj_istore (ls2 := [.ref f, .int x1, .int x2, .int x3, .int ((x4 * 1103515245) + 12345), .int x5, .int x6, .int x7, .null]) dX0_drawRounds_35 (by decide) rfl rfl ?_
    refine zj_iload dX0_drawRounds_37 rfl ?_
    refine zj_aload_n dX0_drawRounds_39 rfl rfl ?_
    refine zj_iload dX0_drawRounds_40 rfl ?_
    refine zj_callS (M' := mX0_drawOf) (avs := [.int ((x4 * 1103515245) + 12345)]) (st := [.ref f, .int x5]) dX0_drawRounds_42 wm_X0_drawOf wl_X0_76 wt_X0_drawOf rfl (by decide) rfl (Nat.le_of_ble_eq_true rfl) (Nat.le_of_ble_eq_true rfl) ⟨Or.inl (z_k0 (zFk0 hL hf)), trivial⟩ ⟨Or.inl (z_k0 (zFk0 hL hf)), trivial⟩ (hp_X0_drawOf ?_)
    refine zj_iload_n dX0_drawRounds_45 rfl rfl ?_
    refine zj_iload dX0_drawRounds_46 rfl ?_
    refine zj_callV (M' := mX0_slipByDraw) (avs := [.int (z_dr ((x4 * 1103515245) + 12345)), .int x2, .int x7]) (st := [.int x5]) (ci := 0) dX0_drawRounds_48 wm_X0_slipByDraw wl_X0_79 wi_X0_slipByDraw ws_X0_slipByDraw (by decide) (zFk0 hL hf) rfl rfl (by decide) rfl (Nat.le_of_ble_eq_true rfl) (Nat.le_of_ble_eq_true rfl) ⟨Or.inl (z_k0 (zFk0 hL hf)), trivial⟩ trivial (z_J.mono h (fun r S1 v1 hq => ?_))
    obtain ⟨y1, rfl, rfl, h⟩ := hq
    refine zj_iadd dX0_drawRounds_51 ?_
    refine zj_istore (ls2 := [.ref f, .int x1, .int x2, .int x3, .int ((x4 * 1103515245) + 12345), .int (x5 + y1), .int x6, .int x7, .null]) dX0_drawRounds_52 (by decide) rfl rfl ?_
    refine zj_iinc (y := x7 + 1) (ls2 := [.ref f, .int x1, .int x2, .int x3, .int ((x4 * 1103515245) + 12345), .int (x5 + y1), .int x6, .int (x7 + 1), .null]) dX0_drawRounds_54 rfl rfl (by decide) rfl rfl ?_
    refine zj_goto (tgt := 18) dX0_drawRounds_57 (by decide) ?_
    exact h
theorem sg_X0_drawRounds_63 {G : z_G} {d : Nat} {S : z_Shp} {v : z_Dat} {Q : Option Value → z_Shp → z_Dat → Prop} {x1 : Int32} {x2 : Int32} {x3 : Int32} {x4 : Int32} {x5 : Int32} {x6 : Int32} {x7 : Int32} {f : Nat} (hL : z_L S) (hf : z_isF f)
    (h : (2 ≤ x7 → (z_J G d mX0_readAll (0, [.ref f, .null], [], S, v) (fun r S1 v1 => ∃ y1 : Int32, r = some (.int y1) ∧ S1 = S ∧ (z_J G (d + 1) mX0_drawRounds (9, [.ref f, .int x1, .int x2, .int x3, .int x4, .int x5, .int (x6 + 1), .null, .null], [], S, v1) Q)))) ∧ (¬ 2 ≤ x7 → (z_J G (d + 1) mX0_drawRounds (72, [.ref f, .int x1, .int x2, .int x3, .int x4, .int x5, .int x6, .int x7, .int 0], [], S, v) Q))) :
    z_J G (d + 1) mX0_drawRounds (63, [.ref f, .int x1, .int x2, .int x3, .int x4, .int x5, .int x6, .int x7, .null], [], S, v) Q := by
  refine zj_iload dX0_drawRounds_63 rfl ?_
  refine zj_iconst (x := 2) dX0_drawRounds_65 rfl ?_
  refine zj_icmp_ge (tgt := 130) dX0_drawRounds_66 (by decide) (fun c => ?_) (fun c => ?_)
  · replace h := h.1 c
    refine zj_aload_n dX0_drawRounds_130 rfl rfl ?_
    refine zj_callV (M' := mX0_readAll) (avs := []) (st := []) (ci := 0) dX0_drawRounds_131 wm_X0_readAll wl_X0_83 wi_X0_readAll ws_X0_readAll (by decide) (zFk0 hL hf) rfl rfl (by decide) rfl (Nat.le_of_ble_eq_true rfl) (Nat.le_of_ble_eq_true rfl) ⟨Or.inl (z_k0 (zFk0 hL hf)), trivial⟩ trivial (z_J.mono h (fun r S1 v1 hq => ?_))
    obtain ⟨y1, rfl, rfl, h⟩ := hq
    refine zj_pop dX0_drawRounds_134 rfl ?_
    refine zj_iinc (y := x6 + 1) (ls2 := [.ref f, .int x1, .int x2, .int x3, .int x4, .int x5, .int (x6 + 1), .int x7, .null]) dX0_drawRounds_135 rfl rfl (by decide) rfl rfl ?_
    refine zj_goto (tgt := 9) dX0_drawRounds_138 (by decide) ?_
    refine zj_forget (ls2 := [.ref f, .int x1, .int x2, .int x3, .int x4, .int x5, .int (x6 + 1), .null, .null]) ⟨Or.inr rfl, Or.inr rfl, Or.inr rfl, Or.inr rfl, Or.inr rfl, Or.inr rfl, Or.inr rfl, Or.inl rfl, Or.inr rfl, trivial⟩ ?_
    exact h
  · replace h := h.2 c
    refine zj_iconst (x := 0) dX0_drawRounds_69 rfl ?_
    refine zj_istore (ls2 := [.ref f, .int x1, .int x2, .int x3, .int x4, .int x5, .int x6, .int x7, .int 0]) dX0_drawRounds_70 (by decide) rfl rfl ?_
    exact h
theorem sg_X0_drawRounds_72 {G : z_G} {d : Nat} {S : z_Shp} {v : z_Dat} {Q : Option Value → z_Shp → z_Dat → Prop} {x1 : Int32} {x2 : Int32} {x3 : Int32} {x4 : Int32} {x5 : Int32} {x6 : Int32} {x7 : Int32} {x8 : Int32} {f : Nat} {w_f : Nat} (hL : z_L S) (hf : z_isF f) (rw_f : z_r S f 0 = some w_f) (hw_f : z_isW w_f)
    (h : ((v w_f 2) ≤ x8 → (z_J G (d + 1) mX0_drawRounds (63, [.ref f, .int x1, .int x2, .int x3, .int x4, .int x5, .int x6, .int (x7 + 1), .null], [], S, v) Q)) ∧ (¬ (v w_f 2) ≤ x8 → ((vp_in x7 2) ∧ ((x2 ≤ (z_dr ((x4 * 1103515245) + 12345)) → (vp_in x7 2 ∧ (∀ v1, v1 = z_u v (f + 2) x7.toNatClampNeg ((v (f + 2) x7.toNatClampNeg) ^^^ 0) → (z_J G (d + 1) mX0_drawRounds (72, [.ref f, .int x1, .int x2, .int x3, .int ((x4 * 1103515245) + 12345), .int x5, .int x6, .int x7, .int (x8 + 1)], [], S, v1) Q)))) ∧ (¬ x2 ≤ (z_dr ((x4 * 1103515245) + 12345)) → (vp_in x7 2 ∧ (∀ v2, v2 = z_u v (f + 2) x7.toNatClampNeg ((v (f + 2) x7.toNatClampNeg) ^^^ ((1 : Int32) <<< (x8 &&& 31))) → (z_J G (d + 1) mX0_drawRounds (72, [.ref f, .int x1, .int x2, .int x3, .int ((x4 * 1103515245) + 12345), .int x5, .int x6, .int x7, .int (x8 + 1)], [], S, v2) Q)))))))) :
    z_J G (d + 1) mX0_drawRounds (72, [.ref f, .int x1, .int x2, .int x3, .int x4, .int x5, .int x6, .int x7, .int x8], [], S, v) Q := by
  refine zj_iload dX0_drawRounds_72 rfl ?_
  refine zj_aload_n dX0_drawRounds_74 rfl rfl ?_
  refine zj_getR (ci := 0) (j := 0) dX0_drawRounds_75 wf_X0_33 (by decide) (by decide) (zFk0 hL hf) rfl rw_f ?_
  refine zj_getI (ci := 9) (j := 2) dX0_drawRounds_78 wf_X0_53 (by decide) (by decide) (zWk0 hL hw_f) rfl ?_
  refine zj_icmp_ge (tgt := 124) dX0_drawRounds_81 (by decide) (fun c => ?_) (fun c => ?_)
  · replace h := h.1 c
    refine zj_iinc (y := x7 + 1) (ls2 := [.ref f, .int x1, .int x2, .int x3, .int x4, .int x5, .int x6, .int (x7 + 1), .int x8]) dX0_drawRounds_124 rfl rfl (by decide) rfl rfl ?_
    refine zj_goto (tgt := 63) dX0_drawRounds_127 (by decide) ?_
    refine zj_forget (ls2 := [.ref f, .int x1, .int x2, .int x3, .int x4, .int x5, .int x6, .int (x7 + 1), .null]) ⟨Or.inr rfl, Or.inr rfl, Or.inr rfl, Or.inr rfl, Or.inr rfl, Or.inr rfl, Or.inr rfl, Or.inr rfl, Or.inl rfl, trivial⟩ ?_
    exact h
  · replace h := h.2 c
    refine zj_iload dX0_drawRounds_84 rfl ?_
    refine zj_callS (M' := mX0_drawBehind) (avs := [.int x4]) (st := []) dX0_drawRounds_86 wm_X0_drawBehind wl_X0_73 wt_X0_drawBehind rfl (by decide) rfl (Nat.le_of_ble_eq_true rfl) (Nat.le_of_ble_eq_true rfl) ⟨Or.inl (z_k0 (zFk0 hL hf)), trivial⟩ trivial (hp_X0_drawBehind ?_)
    refine zj_istore (ls2 := [.ref f, .int x1, .int x2, .int x3, .int ((x4 * 1103515245) + 12345), .int x5, .int x6, .int x7, .int x8]) dX0_drawRounds_89 (by decide) rfl rfl ?_
    refine zj_aload_n dX0_drawRounds_91 rfl rfl ?_
    refine zj_getR (ci := 0) (j := 3) dX0_drawRounds_92 wf_X0_15 (by decide) (by decide) (zFk0 hL hf) rfl (zFr0_3 hL hf) ?_
    refine zj_iload dX0_drawRounds_95 rfl ?_
    refine zj_dup2 dX0_drawRounds_97 rfl rfl ?_
    refine zj_iaload dX0_drawRounds_98 (zFk2 hL hf) (by rw [(zFl2 hL hf)]; exact h.1) ?_
    replace h := h.2
    refine zj_iload dX0_drawRounds_99 rfl ?_
    refine zj_callS (M' := mX0_drawOf) (avs := [.int ((x4 * 1103515245) + 12345)]) (st := [.int (v (f + 2) x7.toNatClampNeg), .int x7, .ref (f + 2)]) dX0_drawRounds_101 wm_X0_drawOf wl_X0_76 wt_X0_drawOf rfl (by decide) rfl (Nat.le_of_ble_eq_true rfl) (Nat.le_of_ble_eq_true rfl) ⟨Or.inl (z_k0 (zFk0 hL hf)), trivial⟩ ⟨Or.inl (z_k0 (zFk2 hL hf)), trivial⟩ (hp_X0_drawOf ?_)
    refine zj_iload_n dX0_drawRounds_104 rfl rfl ?_
    refine zj_icmp_ge (tgt := 115) dX0_drawRounds_105 (by decide) (fun c => ?_) (fun c => ?_)
    · replace h := h.1 c
      refine zj_iconst (x := 0) dX0_drawRounds_115 rfl ?_
      refine zj_ixor dX0_drawRounds_116 ?_
      refine zj_iastore dX0_drawRounds_117 (zFk2 hL hf) (by rw [(zFl2 hL hf)]; exact h.1) (fun v1 ev1 => ?_)
      replace h := h.2 v1 ev1
      refine zj_iinc (y := x8 + 1) (ls2 := [.ref f, .int x1, .int x2, .int x3, .int ((x4 * 1103515245) + 12345), .int x5, .int x6, .int x7, .int (x8 + 1)]) dX0_drawRounds_118 rfl rfl (by decide) rfl rfl ?_
      refine zj_goto (tgt := 72) dX0_drawRounds_121 (by decide) ?_
      exact h
    · replace h := h.2 c
      refine zj_iconst (x := 1) dX0_drawRounds_108 rfl ?_
      refine zj_iload dX0_drawRounds_109 rfl ?_
      refine zj_ishl dX0_drawRounds_111 ?_
      refine zj_goto (tgt := 116) dX0_drawRounds_112 (by decide) ?_
      refine zj_ixor dX0_drawRounds_116 ?_
      refine zj_iastore dX0_drawRounds_117 (zFk2 hL hf) (by rw [(zFl2 hL hf)]; exact h.1) (fun v2 ev2 => ?_)
      replace h := h.2 v2 ev2
      refine zj_iinc (y := x8 + 1) (ls2 := [.ref f, .int x1, .int x2, .int x3, .int ((x4 * 1103515245) + 12345), .int x5, .int x6, .int x7, .int (x8 + 1)]) dX0_drawRounds_118 rfl rfl (by decide) rfl rfl ?_
      refine zj_goto (tgt := 72) dX0_drawRounds_121 (by decide) ?_
      exact h
theorem sg_X0_loudOnes_0 {G : z_G} {d : Nat} {S : z_Shp} {v : z_Dat} {Q : Option Value → z_Shp → z_Dat → Prop} {f : Nat} {x1 : Int32} (hf : z_isF f)
    (h : z_J G d mX0_loudOnes (4, [.ref f, .int x1, .int 0, .int 0], [], S, v) Q) :
    z_J G d mX0_loudOnes (0, [.ref f, .int x1, .null, .null], [], S, v) Q := by
  refine zj_iconst (x := 0) dX0_loudOnes_0 rfl ?_
  refine zj_istore_n (ls2 := [.ref f, .int x1, .int 0, .null]) dX0_loudOnes_1 rfl (by decide) rfl rfl ?_
  refine zj_iconst (x := 0) dX0_loudOnes_2 rfl ?_
  refine zj_istore_n (ls2 := [.ref f, .int x1, .int 0, .int 0]) dX0_loudOnes_3 rfl (by decide) rfl rfl ?_
  exact h
theorem sg_X0_loudOnes_4 {G : z_G} {d : Nat} {S : z_Shp} {v : z_Dat} {Q : Option Value → z_Shp → z_Dat → Prop} {x1 : Int32} {x2 : Int32} {x3 : Int32} {f : Nat} {w_f : Nat} (hL : z_L S) (hf : z_isF f) (rw_f : z_r S f 0 = some w_f) (hw_f : z_isW w_f)
    (h : ((v w_f 2) ≤ x3 → (Q (some (.int x2)) S v)) ∧ (¬ (v w_f 2) ≤ x3 → ((vp_in x1 2) ∧ ((vp_in x1 2) ∧ ((vp_in x3 12) ∧ (z_J G (d + 1) mX0_loudOnes (4, [.ref f, .int x1, .int (x2 ||| (((z_pc ((v (f + 1) x1.toNatClampNeg) &&& (v (w_f + 8 + x1.toNatClampNeg) x3.toNatClampNeg))) &&& 1) <<< (x3 &&& 31))), .int (x3 + 1)], [], S, v) Q)))))) :
    z_J G (d + 1) mX0_loudOnes (4, [.ref f, .int x1, .int x2, .int x3], [], S, v) Q := by
  refine zj_iload_n dX0_loudOnes_4 rfl rfl ?_
  refine zj_aload_n dX0_loudOnes_5 rfl rfl ?_
  refine zj_getR (ci := 0) (j := 0) dX0_loudOnes_6 wf_X0_33 (by decide) (by decide) (zFk0 hL hf) rfl rw_f ?_
  refine zj_getI (ci := 9) (j := 2) dX0_loudOnes_9 wf_X0_53 (by decide) (by decide) (zWk0 hL hw_f) rfl ?_
  refine zj_icmp_ge (tgt := 49) dX0_loudOnes_12 (by decide) (fun c => ?_) (fun c => ?_)
  · replace h := h.1 c
    refine zj_iload_n dX0_loudOnes_49 rfl rfl ?_
    exact zj_iret dX0_loudOnes_50 rfl rfl h
  · replace h := h.2 c
    refine zj_iload_n dX0_loudOnes_15 rfl rfl ?_
    refine zj_aload_n dX0_loudOnes_16 rfl rfl ?_
    refine zj_getR (ci := 0) (j := 2) dX0_loudOnes_17 wf_X0_9 (by decide) (by decide) (zFk0 hL hf) rfl (zFr0_2 hL hf) ?_
    refine zj_iload_n dX0_loudOnes_20 rfl rfl ?_
    refine zj_iaload dX0_loudOnes_21 (zFk1 hL hf) (by rw [(zFl1 hL hf)]; exact h.1) ?_
    replace h := h.2
    refine zj_aload_n dX0_loudOnes_22 rfl rfl ?_
    refine zj_getR (ci := 0) (j := 0) dX0_loudOnes_23 wf_X0_33 (by decide) (by decide) (zFk0 hL hf) rfl rw_f ?_
    refine zj_getR (ci := 9) (j := 5) dX0_loudOnes_26 wf_X0_58 (by decide) (by decide) (zWk0 hL hw_f) rfl (zWr0_5 hL hw_f) ?_
    refine zj_iload_n dX0_loudOnes_29 rfl rfl ?_
    obtain ⟨hi1, h⟩ := h
    refine zj_aaload0 dX0_loudOnes_30 (zWk7 hL hw_f) (by rw [(zWl7 hL hw_f)]; exact hi1) (zWg7r hL hw_f hi1) ?_
    refine zj_iload_n dX0_loudOnes_31 rfl rfl ?_
    refine zj_iaload dX0_loudOnes_32 (zWg7k hL hw_f hi1) (by rw [(zWg7l hL hw_f hi1)]; exact h.1) ?_
    replace h := h.2
    refine zj_iand dX0_loudOnes_33 ?_
    refine zj_callS (M' := mJ6_bitCount_0f7a4) (avs := [.int ((v (f + 1) x1.toNatClampNeg) &&& (v (w_f + 8 + x1.toNatClampNeg) x3.toNatClampNeg))]) (st := [.int x2]) dX0_loudOnes_34 wm_J6_bitCount_0f7a4 wl_X0_61 wt_J6_bitCount_0f7a4 rfl (by decide) rfl (Nat.le_of_ble_eq_true rfl) (Nat.le_of_ble_eq_true rfl) ⟨Or.inl (z_k0 (zFk0 hL hf)), trivial⟩ trivial (hp_J6_bitCount_0f7a4 ?_)
    refine zj_iconst (x := 1) dX0_loudOnes_37 rfl ?_
    refine zj_iand dX0_loudOnes_38 ?_
    refine zj_iload_n dX0_loudOnes_39 rfl rfl ?_
    refine zj_ishl dX0_loudOnes_40 ?_
    refine zj_ior dX0_loudOnes_41 ?_
    refine zj_istore_n (ls2 := [.ref f, .int x1, .int (x2 ||| (((z_pc ((v (f + 1) x1.toNatClampNeg) &&& (v (w_f + 8 + x1.toNatClampNeg) x3.toNatClampNeg))) &&& 1) <<< (x3 &&& 31))), .int x3]) dX0_loudOnes_42 rfl (by decide) rfl rfl ?_
    refine zj_iinc (y := x3 + 1) (ls2 := [.ref f, .int x1, .int (x2 ||| (((z_pc ((v (f + 1) x1.toNatClampNeg) &&& (v (w_f + 8 + x1.toNatClampNeg) x3.toNatClampNeg))) &&& 1) <<< (x3 &&& 31))), .int (x3 + 1)]) dX0_loudOnes_43 rfl rfl (by decide) rfl rfl ?_
    refine zj_goto (tgt := 4) dX0_loudOnes_46 (by decide) ?_
    exact h
theorem sg_X0_readAll_0 {G : z_G} {d : Nat} {S : z_Shp} {v : z_Dat} {Q : Option Value → z_Shp → z_Dat → Prop} {f : Nat} (hL : z_L S) (hf : z_isF f)
    (h : ((v f 1) < 8 → (z_J G d mX0_readAll (13, [.ref f, .int 0], [], S, v) Q)) ∧ (¬ (v f 1) < 8 → (Q (some (.int 0)) S v))) :
    z_J G d mX0_readAll (0, [.ref f, .null], [], S, v) Q := by
  refine zj_aload_n dX0_readAll_0 rfl rfl ?_
  refine zj_getI (ci := 0) (j := 1) dX0_readAll_1 wf_X0_37 (by decide) (by decide) (zFk0 hL hf) rfl ?_
  refine zj_bipush (x := 8) dX0_readAll_4 rfl ?_
  refine zj_icmp_lt (tgt := 11) dX0_readAll_6 (by decide) (fun c => ?_) (fun c => ?_)
  · replace h := h.1 c
    refine zj_iconst (x := 0) dX0_readAll_11 rfl ?_
    refine zj_istore_n (ls2 := [.ref f, .int 0]) dX0_readAll_12 rfl (by decide) rfl rfl ?_
    exact h
  · replace h := h.2 c
    refine zj_iconst (x := 0) dX0_readAll_9 rfl ?_
    exact zj_iret dX0_readAll_10 rfl (by decide) h
theorem sg_X0_readAll_13 {G : z_G} {d : Nat} {S : z_Shp} {v : z_Dat} {Q : Option Value → z_Shp → z_Dat → Prop} {x1 : Int32} {f : Nat} (hL : z_L S) (hf : z_isF f)
    (h : (2 ≤ x1 → (∀ v1, v1 = z_u v f 1 ((v f 1) + 1) → (Q (some (.int 1)) S v1))) ∧ (¬ 2 ≤ x1 → ((vp_in x1 2) ∧ (z_J G d mX0_loudOnes (0, [.ref f, .int x1, .null, .null], [], S, v) (fun r S1 v2 => ∃ y1 : Int32, r = some (.int y1) ∧ S1 = S ∧ ((vp_in x1 2) ∧ (vp_in (v f 1) 8 ∧ (∀ v3, v3 = z_u v2 (f + 4 + x1.toNatClampNeg) (v f 1).toNatClampNeg (y1 ^^^ (v2 (f + 2) x1.toNatClampNeg)) → (vp_in x1 2 ∧ (∀ v4, v4 = z_u v3 (f + 2) x1.toNatClampNeg 0 → (z_J G (d + 1) mX0_readAll (13, [.ref f, .int (x1 + 1)], [], S, v4) Q))))))))))) :
    z_J G (d + 1) mX0_readAll (13, [.ref f, .int x1], [], S, v) Q := by
  refine zj_iload_n dX0_readAll_13 rfl rfl ?_
  refine zj_iconst (x := 2) dX0_readAll_14 rfl ?_
  refine zj_icmp_ge (tgt := 54) dX0_readAll_15 (by decide) (fun c => ?_) (fun c => ?_)
  · replace h := h.1 c
    refine zj_aload_n dX0_readAll_54 rfl rfl ?_
    refine zj_dup dX0_readAll_55 rfl ?_
    refine zj_getI (ci := 0) (j := 1) dX0_readAll_56 wf_X0_37 (by decide) (by decide) (zFk0 hL hf) rfl ?_
    refine zj_iconst (x := 1) dX0_readAll_59 rfl ?_
    refine zj_iadd dX0_readAll_60 ?_
    refine zj_putI (ci := 0) (j := 1) dX0_readAll_61 wf_X0_37 (by decide) (by decide) (zFk0 hL hf) rfl rfl rfl rfl (fun v1 ev1 => ?_)
    replace h := h v1 ev1
    refine zj_iconst (x := 1) dX0_readAll_64 rfl ?_
    exact zj_iret dX0_readAll_65 rfl (by decide) h
  · replace h := h.2 c
    refine zj_aload_n dX0_readAll_18 rfl rfl ?_
    refine zj_getR (ci := 0) (j := 4) dX0_readAll_19 wf_X0_20 (by decide) (by decide) (zFk0 hL hf) rfl (zFr0_4 hL hf) ?_
    refine zj_iload_n dX0_readAll_22 rfl rfl ?_
    obtain ⟨hi1, h⟩ := h
    refine zj_aaload0 dX0_readAll_23 (zFk3 hL hf) (by rw [(zFl3 hL hf)]; exact hi1) (zFg3r hL hf hi1) ?_
    refine zj_aload_n dX0_readAll_24 rfl rfl ?_
    refine zj_getI (ci := 0) (j := 1) dX0_readAll_25 wf_X0_37 (by decide) (by decide) (zFk0 hL hf) rfl ?_
    refine zj_aload_n dX0_readAll_28 rfl rfl ?_
    refine zj_iload_n dX0_readAll_29 rfl rfl ?_
    refine zj_callV (M' := mX0_loudOnes) (avs := [.int x1]) (st := [.int (v f 1), .ref (f + 4 + x1.toNatClampNeg)]) (ci := 0) dX0_readAll_30 wm_X0_loudOnes wl_X0_67 wi_X0_loudOnes ws_X0_loudOnes (by decide) (zFk0 hL hf) rfl rfl (by decide) rfl (Nat.le_of_ble_eq_true rfl) (Nat.le_of_ble_eq_true rfl) ⟨Or.inl (z_k0 (zFk0 hL hf)), trivial⟩ ⟨Or.inl (z_k0 (zFg3k hL hf hi1)), trivial⟩ (z_J.mono h (fun r S1 v2 hq => ?_))
    obtain ⟨y1, rfl, rfl, h⟩ := hq
    refine zj_aload_n dX0_readAll_33 rfl rfl ?_
    refine zj_getR (ci := 0) (j := 3) dX0_readAll_34 wf_X0_15 (by decide) (by decide) (zFk0 hL hf) rfl (zFr0_3 hL hf) ?_
    refine zj_iload_n dX0_readAll_37 rfl rfl ?_
    refine zj_iaload dX0_readAll_38 (zFk2 hL hf) (by rw [(zFl2 hL hf)]; exact h.1) ?_
    replace h := h.2
    refine zj_ixor dX0_readAll_39 ?_
    refine zj_iastore dX0_readAll_40 (zFg3k hL hf hi1) (by rw [(zFg3l hL hf hi1)]; exact h.1) (fun v3 ev3 => ?_)
    replace h := h.2 v3 ev3
    refine zj_aload_n dX0_readAll_41 rfl rfl ?_
    refine zj_getR (ci := 0) (j := 3) dX0_readAll_42 wf_X0_15 (by decide) (by decide) (zFk0 hL hf) rfl (zFr0_3 hL hf) ?_
    refine zj_iload_n dX0_readAll_45 rfl rfl ?_
    refine zj_iconst (x := 0) dX0_readAll_46 rfl ?_
    refine zj_iastore dX0_readAll_47 (zFk2 hL hf) (by rw [(zFl2 hL hf)]; exact h.1) (fun v4 ev4 => ?_)
    replace h := h.2 v4 ev4
    refine zj_iinc (y := x1 + 1) (ls2 := [.ref f, .int (x1 + 1)]) dX0_readAll_48 rfl rfl (by decide) rfl rfl ?_
    refine zj_goto (tgt := 13) dX0_readAll_51 (by decide) ?_
    exact h
theorem sg_X0_slipByDraw_0 {G : z_G} {d : Nat} {S : z_Shp} {v : z_Dat} {Q : Option Value → z_Shp → z_Dat → Prop} {f : Nat} {x1 : Int32} {x2 : Int32} {x3 : Int32} (hL : z_L S) (hf : z_isF f)
    (h : (x1 < ((3 : Int32) * x2) → ((x1 < ((2 : Int32) * x2) → ((x2 ≤ x1 → ((x1 < x2 → (Q (some (.int 1)) S v)) ∧ (¬ x1 < x2 → (∀ v1, v1 = z_u v (f + 1) 1 ((v (f + 1) 1) ^^^ ((1 : Int32) <<< (x3 &&& 31))) → (Q (some (.int 1)) S v1))))) ∧ (¬ x2 ≤ x1 → (∀ v2, v2 = z_u v (f + 1) 0 ((v (f + 1) 0) ^^^ ((1 : Int32) <<< (x3 &&& 31))) → ((x1 < x2 → (Q (some (.int 1)) S v2)) ∧ (¬ x1 < x2 → (∀ v3, v3 = z_u v2 (f + 1) 1 ((v2 (f + 1) 1) ^^^ ((1 : Int32) <<< (x3 &&& 31))) → (Q (some (.int 1)) S v3)))))))) ∧ (¬ x1 < ((2 : Int32) * x2) → (∀ v4, v4 = z_u v (f + 1) 0 ((v (f + 1) 0) ^^^ ((1 : Int32) <<< (x3 &&& 31))) → (∀ v5, v5 = z_u v4 (f + 1) 1 ((v4 (f + 1) 1) ^^^ ((1 : Int32) <<< (x3 &&& 31))) → (Q (some (.int 2)) S v5)))))) ∧ (¬ x1 < ((3 : Int32) * x2) → (Q (some (.int 0)) S v))) :
    z_J G d mX0_slipByDraw (0, [.ref f, .int x1, .int x2, .int x3, .null], [], S, v) Q := by
  refine zj_iload_n dX0_slipByDraw_0 rfl rfl ?_
  refine zj_iconst (x := 3) dX0_slipByDraw_1 rfl ?_
  refine zj_iload_n dX0_slipByDraw_2 rfl rfl ?_
  refine zj_imul dX0_slipByDraw_3 ?_
  refine zj_icmp_lt (tgt := 9) dX0_slipByDraw_4 (by decide) (fun c => ?_) (fun c => ?_)
  · replace h := h.1 c
    refine zj_iload_n dX0_slipByDraw_9 rfl rfl ?_
    refine zj_iconst (x := 2) dX0_slipByDraw_10 rfl ?_
    refine zj_iload_n dX0_slipByDraw_11 rfl rfl ?_
    refine zj_imul dX0_slipByDraw_12 ?_
    refine zj_icmp_lt (tgt := 20) dX0_slipByDraw_13 (by decide) (fun c => ?_) (fun c => ?_)
    · replace h := h.1 c
      refine zj_iconst (x := 0) dX0_slipByDraw_20 rfl ?_
      refine zj_istore (ls2 := [.ref f, .int x1, .int x2, .int x3, .int 0]) dX0_slipByDraw_21 (by decide) rfl rfl ?_
      refine zj_iload dX0_slipByDraw_23 rfl ?_
      refine zj_if_ne (tgt := 33) dX0_slipByDraw_25 (by decide) (fun q => absurd (by decide) q) (fun _ => ?_)
      refine zj_iload_n dX0_slipByDraw_28 rfl rfl ?_
      refine zj_iload_n dX0_slipByDraw_29 rfl rfl ?_
      refine zj_icmp_ge (tgt := 45) dX0_slipByDraw_30 (by decide) (fun c => ?_) (fun c => ?_)
      · replace h := h.1 c
        refine zj_iload dX0_slipByDraw_45 rfl ?_
        refine zj_if_ne (tgt := 55) dX0_slipByDraw_47 (by decide) (fun q => absurd (by decide) q) (fun _ => ?_)
        refine zj_iload_n dX0_slipByDraw_50 rfl rfl ?_
        refine zj_iload_n dX0_slipByDraw_51 rfl rfl ?_
        refine zj_icmp_lt (tgt := 67) dX0_slipByDraw_52 (by decide) (fun c => ?_) (fun c => ?_)
        · replace h := h.1 c
          refine zj_iload dX0_slipByDraw_67 rfl ?_
          refine zj_if_eq (tgt := 76) dX0_slipByDraw_69 (by decide) (fun _ => ?_) (fun q => absurd (by decide) q)
          refine zj_iconst (x := 1) dX0_slipByDraw_76 rfl ?_
          exact zj_iret dX0_slipByDraw_77 rfl rfl h
        · replace h := h.2 c
          refine zj_aload_n dX0_slipByDraw_55 rfl rfl ?_
          refine zj_getR (ci := 0) (j := 2) dX0_slipByDraw_56 wf_X0_9 (by decide) (by decide) (zFk0 hL hf) rfl (zFr0_2 hL hf) ?_
          refine zj_iconst (x := 1) dX0_slipByDraw_59 rfl ?_
          refine zj_dup2 dX0_slipByDraw_60 rfl rfl ?_
          refine zj_iaload dX0_slipByDraw_61 (zFk1 hL hf) (by rw [(zFl1 hL hf)]; exact z_vin (by decide)) ?_
          refine zj_iconst (x := 1) dX0_slipByDraw_62 rfl ?_
          refine zj_iload_n dX0_slipByDraw_63 rfl rfl ?_
          refine zj_ishl dX0_slipByDraw_64 ?_
          refine zj_ixor dX0_slipByDraw_65 ?_
          refine zj_iastore dX0_slipByDraw_66 (zFk1 hL hf) (by rw [(zFl1 hL hf)]; exact z_vin (by decide)) (fun v1 ev1 => ?_)
          replace h := h v1 ev1
          refine zj_iload dX0_slipByDraw_67 rfl ?_
          refine zj_if_eq (tgt := 76) dX0_slipByDraw_69 (by decide) (fun _ => ?_) (fun q => absurd (by decide) q)
          refine zj_iconst (x := 1) dX0_slipByDraw_76 rfl ?_
          exact zj_iret dX0_slipByDraw_77 rfl rfl h
      · replace h := h.2 c
        refine zj_aload_n dX0_slipByDraw_33 rfl rfl ?_
        refine zj_getR (ci := 0) (j := 2) dX0_slipByDraw_34 wf_X0_9 (by decide) (by decide) (zFk0 hL hf) rfl (zFr0_2 hL hf) ?_
        refine zj_iconst (x := 0) dX0_slipByDraw_37 rfl ?_
        refine zj_dup2 dX0_slipByDraw_38 rfl rfl ?_
        refine zj_iaload dX0_slipByDraw_39 (zFk1 hL hf) (by rw [(zFl1 hL hf)]; exact z_vin (by decide)) ?_
        refine zj_iconst (x := 1) dX0_slipByDraw_40 rfl ?_
        refine zj_iload_n dX0_slipByDraw_41 rfl rfl ?_
        refine zj_ishl dX0_slipByDraw_42 ?_
        refine zj_ixor dX0_slipByDraw_43 ?_
        refine zj_iastore dX0_slipByDraw_44 (zFk1 hL hf) (by rw [(zFl1 hL hf)]; exact z_vin (by decide)) (fun v2 ev2 => ?_)
        replace h := h v2 ev2
        refine zj_iload dX0_slipByDraw_45 rfl ?_
        refine zj_if_ne (tgt := 55) dX0_slipByDraw_47 (by decide) (fun q => absurd (by decide) q) (fun _ => ?_)
        refine zj_iload_n dX0_slipByDraw_50 rfl rfl ?_
        refine zj_iload_n dX0_slipByDraw_51 rfl rfl ?_
        refine zj_icmp_lt (tgt := 67) dX0_slipByDraw_52 (by decide) (fun c => ?_) (fun c => ?_)
        · replace h := h.1 c
          refine zj_iload dX0_slipByDraw_67 rfl ?_
          refine zj_if_eq (tgt := 76) dX0_slipByDraw_69 (by decide) (fun _ => ?_) (fun q => absurd (by decide) q)
          refine zj_iconst (x := 1) dX0_slipByDraw_76 rfl ?_
          exact zj_iret dX0_slipByDraw_77 rfl rfl h
        · replace h := h.2 c
          refine zj_aload_n dX0_slipByDraw_55 rfl rfl ?_
          refine zj_getR (ci := 0) (j := 2) dX0_slipByDraw_56 wf_X0_9 (by decide) (by decide) (zFk0 hL hf) rfl (zFr0_2 hL hf) ?_
          refine zj_iconst (x := 1) dX0_slipByDraw_59 rfl ?_
          refine zj_dup2 dX0_slipByDraw_60 rfl rfl ?_
          refine zj_iaload dX0_slipByDraw_61 (zFk1 hL hf) (by rw [(zFl1 hL hf)]; exact z_vin (by decide)) ?_
          refine zj_iconst (x := 1) dX0_slipByDraw_62 rfl ?_
          refine zj_iload_n dX0_slipByDraw_63 rfl rfl ?_
          refine zj_ishl dX0_slipByDraw_64 ?_
          refine zj_ixor dX0_slipByDraw_65 ?_
          refine zj_iastore dX0_slipByDraw_66 (zFk1 hL hf) (by rw [(zFl1 hL hf)]; exact z_vin (by decide)) (fun v3 ev3 => ?_)
          replace h := h v3 ev3
          refine zj_iload dX0_slipByDraw_67 rfl ?_
          refine zj_if_eq (tgt := 76) dX0_slipByDraw_69 (by decide) (fun _ => ?_) (fun q => absurd (by decide) q)
          refine zj_iconst (x := 1) dX0_slipByDraw_76 rfl ?_
          exact zj_iret dX0_slipByDraw_77 rfl rfl h
    · replace h := h.2 c
      refine zj_iconst (x := 1) dX0_slipByDraw_16 rfl ?_
      refine zj_goto (tgt := 21) dX0_slipByDraw_17 (by decide) ?_
      refine zj_istore (ls2 := [.ref f, .int x1, .int x2, .int x3, .int 1]) dX0_slipByDraw_21 (by decide) rfl rfl ?_
      refine zj_iload dX0_slipByDraw_23 rfl ?_
      refine zj_if_ne (tgt := 33) dX0_slipByDraw_25 (by decide) (fun _ => ?_) (fun q => absurd q (by decide))
      refine zj_aload_n dX0_slipByDraw_33 rfl rfl ?_
      refine zj_getR (ci := 0) (j := 2) dX0_slipByDraw_34 wf_X0_9 (by decide) (by decide) (zFk0 hL hf) rfl (zFr0_2 hL hf) ?_
      refine zj_iconst (x := 0) dX0_slipByDraw_37 rfl ?_
      refine zj_dup2 dX0_slipByDraw_38 rfl rfl ?_
      refine zj_iaload dX0_slipByDraw_39 (zFk1 hL hf) (by rw [(zFl1 hL hf)]; exact z_vin (by decide)) ?_
      refine zj_iconst (x := 1) dX0_slipByDraw_40 rfl ?_
      refine zj_iload_n dX0_slipByDraw_41 rfl rfl ?_
      refine zj_ishl dX0_slipByDraw_42 ?_
      refine zj_ixor dX0_slipByDraw_43 ?_
      refine zj_iastore dX0_slipByDraw_44 (zFk1 hL hf) (by rw [(zFl1 hL hf)]; exact z_vin (by decide)) (fun v4 ev4 => ?_)
      replace h := h v4 ev4
      refine zj_iload dX0_slipByDraw_45 rfl ?_
      refine zj_if_ne (tgt := 55) dX0_slipByDraw_47 (by decide) (fun _ => ?_) (fun q => absurd q (by decide))
      refine zj_aload_n dX0_slipByDraw_55 rfl rfl ?_
      refine zj_getR (ci := 0) (j := 2) dX0_slipByDraw_56 wf_X0_9 (by decide) (by decide) (zFk0 hL hf) rfl (zFr0_2 hL hf) ?_
      refine zj_iconst (x := 1) dX0_slipByDraw_59 rfl ?_
      refine zj_dup2 dX0_slipByDraw_60 rfl rfl ?_
      refine zj_iaload dX0_slipByDraw_61 (zFk1 hL hf) (by rw [(zFl1 hL hf)]; exact z_vin (by decide)) ?_
      refine zj_iconst (x := 1) dX0_slipByDraw_62 rfl ?_
      refine zj_iload_n dX0_slipByDraw_63 rfl rfl ?_
      refine zj_ishl dX0_slipByDraw_64 ?_
      refine zj_ixor dX0_slipByDraw_65 ?_
      refine zj_iastore dX0_slipByDraw_66 (zFk1 hL hf) (by rw [(zFl1 hL hf)]; exact z_vin (by decide)) (fun v5 ev5 => ?_)
      replace h := h v5 ev5
      refine zj_iload dX0_slipByDraw_67 rfl ?_
      refine zj_if_eq (tgt := 76) dX0_slipByDraw_69 (by decide) (fun q => absurd q (by decide)) (fun _ => ?_)
      refine zj_iconst (x := 2) dX0_slipByDraw_72 rfl ?_
      refine zj_goto (tgt := 77) dX0_slipByDraw_73 (by decide) ?_
      exact zj_iret dX0_slipByDraw_77 rfl rfl h
  · replace h := h.2 c
    refine zj_iconst (x := 0) dX0_slipByDraw_7 rfl ?_
    exact zj_iret dX0_slipByDraw_8 rfl rfl h
theorem sg_X0_startAnew_0 {G : z_G} {d : Nat} {S : z_Shp} {v : z_Dat} {Q : Option Value → z_Shp → z_Dat → Prop} {f : Nat} {x1 : Nat} (hL : z_L S) (hf : z_isF f) (hx1 : z_isW x1)
    (h : x1 < z_n S ∧ z_J G d mX0_startAnew (5, [.ref f, .ref x1, .null], [], (z_sr S f 0 (some x1)), v) Q) :
    z_J G d mX0_startAnew (0, [.ref f, .ref x1, .null], [], S, v) Q := by
  refine zj_aload_n dX0_startAnew_0 rfl rfl ?_
  refine zj_aload_n dX0_startAnew_1 rfl rfl ?_
  refine zj_putR (ci := 0) (j := 0) dX0_startAnew_2 wf_X0_33 (by decide) (by decide) (zFk0 hL hf) rfl rfl (fun _ => rfl) (fun _ => rfl) (Or.inl h.1) ?_
  replace h := h.2
  exact h
theorem sg_X0_startAnew_5 {G : z_G} {d : Nat} {S : z_Shp} {v : z_Dat} {Q : Option Value → z_Shp → z_Dat → Prop} {f : Nat} {x1 : Nat} (hL : z_L S) (hf : z_isF f) (hx1 : z_isW x1)
    (h : ∀ v1, v1 = z_u v f 1 0 → (z_J G d mJ7_fill_53178 (0, [.ref (f + 6), .int 1, .null, .null], [], S, v1) (fun r S1 v2 => r = none ∧ S1 = S ∧ (z_J G (d + 1) mX0_startAnew (20, [.ref f, .ref x1, .int 0], [], S, v2) Q)))) :
    z_J G (d + 1) mX0_startAnew (5, [.ref f, .ref x1, .null], [], S, v) Q := by
  refine zj_aload_n dX0_startAnew_5 rfl rfl ?_
  refine zj_iconst (x := 0) dX0_startAnew_6 rfl ?_
  refine zj_putI (ci := 0) (j := 1) dX0_startAnew_7 wf_X0_37 (by decide) (by decide) (zFk0 hL hf) rfl rfl rfl rfl (fun v1 ev1 => ?_)
  replace h := h v1 ev1
  refine zj_aload_n dX0_startAnew_10 rfl rfl ?_
  refine zj_getR (ci := 0) (j := 5) dX0_startAnew_11 wf_X0_23 (by decide) (by decide) (zFk0 hL hf) rfl (zFr0_5 hL hf) ?_
  refine zj_iconst (x := 1) dX0_startAnew_14 rfl ?_
  refine zj_callS (M' := mJ7_fill_53178) (avs := [.ref (f + 6), .int 1]) (st := []) dX0_startAnew_15 wm_J7_fill_53178 wl_X0_41 wt_J7_fill_53178 rfl (by decide) rfl (Nat.le_of_ble_eq_true rfl) (Nat.le_of_ble_eq_true rfl) ⟨Or.inl (z_k0 (zFk0 hL hf)), Or.inl (z_k0 (zWk0 hL hx1)), trivial⟩ trivial (z_J.mono h (fun r S1 v2 hq => ?_))
  obtain ⟨rfl, rfl, h⟩ := hq
  refine zj_iconst (x := 0) dX0_startAnew_18 rfl ?_
  refine zj_istore_n (ls2 := [.ref f, .ref x1, .int 0]) dX0_startAnew_19 rfl (by decide) rfl rfl ?_
  exact h
theorem sg_X0_startAnew_20 {G : z_G} {d : Nat} {S : z_Shp} {v : z_Dat} {Q : Option Value → z_Shp → z_Dat → Prop} {x2 : Int32} {f : Nat} {x1 : Nat} (hL : z_L S) (hf : z_isF f) (hx1 : z_isW x1)
    (h : (2 ≤ x2 → (Q none S v)) ∧ (¬ 2 ≤ x2 → (vp_in x2 2 ∧ (∀ v1, v1 = z_u v (f + 1) x2.toNatClampNeg 0 → (vp_in x2 2 ∧ (∀ v2, v2 = z_u v1 (f + 2) x2.toNatClampNeg 0 → ((vp_in x2 2) ∧ (z_J G d mJ7_fill_53178 (0, [.ref (f + 4 + x2.toNatClampNeg), .int 0, .null, .null], [], S, v2) (fun r S1 v3 => r = none ∧ S1 = S ∧ ((vp_in x2 2) ∧ (z_J G d mJ7_fill_53178 (0, [.ref (f + 8 + x2.toNatClampNeg), .int 1, .null, .null], [], S, v3) (fun r S1 v4 => r = none ∧ S1 = S ∧ (z_J G (d + 1) mX0_startAnew (20, [.ref f, .ref x1, .int (x2 + 1)], [], S, v4) Q))))))))))))) :
    z_J G (d + 1) mX0_startAnew (20, [.ref f, .ref x1, .int x2], [], S, v) Q := by
  refine zj_iload_n dX0_startAnew_20 rfl rfl ?_
  refine zj_iconst (x := 2) dX0_startAnew_21 rfl ?_
  refine zj_icmp_ge (tgt := 65) dX0_startAnew_22 (by decide) (fun c => ?_) (fun c => ?_)
  · replace h := h.1 c
    exact zj_vret dX0_startAnew_65 rfl h
  · replace h := h.2 c
    refine zj_aload_n dX0_startAnew_25 rfl rfl ?_
    refine zj_getR (ci := 0) (j := 2) dX0_startAnew_26 wf_X0_9 (by decide) (by decide) (zFk0 hL hf) rfl (zFr0_2 hL hf) ?_
    refine zj_iload_n dX0_startAnew_29 rfl rfl ?_
    refine zj_iconst (x := 0) dX0_startAnew_30 rfl ?_
    refine zj_iastore dX0_startAnew_31 (zFk1 hL hf) (by rw [(zFl1 hL hf)]; exact h.1) (fun v1 ev1 => ?_)
    replace h := h.2 v1 ev1
    refine zj_aload_n dX0_startAnew_32 rfl rfl ?_
    refine zj_getR (ci := 0) (j := 3) dX0_startAnew_33 wf_X0_15 (by decide) (by decide) (zFk0 hL hf) rfl (zFr0_3 hL hf) ?_
    refine zj_iload_n dX0_startAnew_36 rfl rfl ?_
    refine zj_iconst (x := 0) dX0_startAnew_37 rfl ?_
    refine zj_iastore dX0_startAnew_38 (zFk2 hL hf) (by rw [(zFl2 hL hf)]; exact h.1) (fun v2 ev2 => ?_)
    replace h := h.2 v2 ev2
    refine zj_aload_n dX0_startAnew_39 rfl rfl ?_
    refine zj_getR (ci := 0) (j := 4) dX0_startAnew_40 wf_X0_20 (by decide) (by decide) (zFk0 hL hf) rfl (zFr0_4 hL hf) ?_
    refine zj_iload_n dX0_startAnew_43 rfl rfl ?_
    obtain ⟨hi1, h⟩ := h
    refine zj_aaload0 dX0_startAnew_44 (zFk3 hL hf) (by rw [(zFl3 hL hf)]; exact hi1) (zFg3r hL hf hi1) ?_
    refine zj_iconst (x := 0) dX0_startAnew_45 rfl ?_
    refine zj_callS (M' := mJ7_fill_53178) (avs := [.ref (f + 4 + x2.toNatClampNeg), .int 0]) (st := []) dX0_startAnew_46 wm_J7_fill_53178 wl_X0_41 wt_J7_fill_53178 rfl (by decide) rfl (Nat.le_of_ble_eq_true rfl) (Nat.le_of_ble_eq_true rfl) ⟨Or.inl (z_k0 (zFk0 hL hf)), Or.inl (z_k0 (zWk0 hL hx1)), trivial⟩ trivial (z_J.mono h (fun r S1 v3 hq => ?_))
    obtain ⟨rfl, rfl, h⟩ := hq
    refine zj_aload_n dX0_startAnew_49 rfl rfl ?_
    refine zj_getR (ci := 0) (j := 6) dX0_startAnew_50 wf_X0_26 (by decide) (by decide) (zFk0 hL hf) rfl (zFr0_6 hL hf) ?_
    refine zj_iload_n dX0_startAnew_53 rfl rfl ?_
    obtain ⟨hi2, h⟩ := h
    refine zj_aaload0 dX0_startAnew_54 (zFk7 hL hf) (by rw [(zFl7 hL hf)]; exact hi2) (zFg7r hL hf hi2) ?_
    refine zj_iconst (x := 1) dX0_startAnew_55 rfl ?_
    refine zj_callS (M' := mJ7_fill_53178) (avs := [.ref (f + 8 + x2.toNatClampNeg), .int 1]) (st := []) dX0_startAnew_56 wm_J7_fill_53178 wl_X0_41 wt_J7_fill_53178 rfl (by decide) rfl (Nat.le_of_ble_eq_true rfl) (Nat.le_of_ble_eq_true rfl) ⟨Or.inl (z_k0 (zFk0 hL hf)), Or.inl (z_k0 (zWk0 hL hx1)), trivial⟩ trivial (z_J.mono h (fun r S1 v4 hq => ?_))
    obtain ⟨rfl, rfl, h⟩ := hq
    refine zj_iinc (y := x2 + 1) (ls2 := [.ref f, .ref x1, .int (x2 + 1)]) dX0_startAnew_59 rfl rfl (by decide) rfl rfl ?_
    refine zj_goto (tgt := 20) dX0_startAnew_62 (by decide) ?_
    exact h
theorem sg_X10_blame_0 {G : z_G} {d : Nat} {S : z_Shp} {v : z_Dat} {Q : Option Value → z_Shp → z_Dat → Prop} {x1 : Int32} {x2 : Int32} {x3 : Int32} (hL : z_L S)
    (h : ((x1 = 0 ∨ x1 = 1) → (z_J G d mX10_isRound (0, [.ref 0, .int x3], [], S, v) (fun r S1 v1 => ∃ y1 : Int32, r = some (.int y1) ∧ S1 = S ∧ ((¬ y1 = 0 → ((¬ x2 = 0 → ((¬ x2 = 1 → (Q (some (.int (-1))) S v1)) ∧ (x2 = 1 → (z_J G d mX10_growAndPeel (0, [.ref 0, .ref 37, .int x1], [], S, v1) (fun r S1 v2 => r = none ∧ S1 = S ∧ (z_J G d mX4_risesOf (0, [.ref 149, .ref 187, .int x3, .null, .null], [], S, v2) (fun r S1 v3 => ∃ y2 : Int32, r = some (.int y2) ∧ S1 = S ∧ (Q (some (.int y2)) S v3)))))))) ∧ (x2 = 0 → (z_J G d mX10_paired (0, [.ref 0, .ref 37, .int x1], [], S, v1) (fun r S1 v4 => ∃ y3 : Int32, r = some (.int y3) ∧ z_J G (d + 1) mX10_blame (30, [.ref 0, .int x1, .int x2, .int x3], [.int y3], S1, v4) Q))))) ∧ (y1 = 0 → (Q (some (.int (-1))) S v1)))))) ∧ (¬ (x1 = 0 ∨ x1 = 1) → (Q (some (.int (-1))) S v))) :
    z_J G (d + 1) mX10_blame (0, [.ref 0, .int x1, .int x2, .int x3], [], S, v) Q := by
  refine zj_iload_n dX10_blame_0 rfl rfl ?_
  refine zj_callS (M' := mX10_isKind) (avs := [.int x1]) (st := []) dX10_blame_1 wm_X10_isKind wl_X10_181 wt_X10_isKind rfl (by decide) rfl (Nat.le_of_ble_eq_true rfl) (Nat.le_of_ble_eq_true rfl) ⟨Or.inl (z_k0 (zk_0 hL)), trivial⟩ trivial (hp_X10_isKind (fun c => ?_) (fun c => ?_))
  · replace h := h.1 c
    refine zj_if_eq (tgt := 15) dX10_blame_4 (by decide) (fun q => absurd q (by decide)) (fun _ => ?_)
    refine zj_aload_n dX10_blame_7 rfl rfl ?_
    refine zj_iload_n dX10_blame_8 rfl rfl ?_
    refine zj_callV (M' := mX10_isRound) (avs := [.int x3]) (st := []) (ci := 10) dX10_blame_9 wm_X10_isRound wl_X10_185 wi_X10_isRound ws_X10_isRound (by decide) (zk_0 hL) rfl rfl (by decide) rfl (Nat.le_of_ble_eq_true rfl) (Nat.le_of_ble_eq_true rfl) ⟨Or.inl (z_k0 (zk_0 hL)), trivial⟩ trivial (z_J.mono h (fun r S1 v1 hq => ?_))
    obtain ⟨y1, rfl, rfl, h⟩ := hq
    refine zj_if_ne (tgt := 17) dX10_blame_12 (by decide) (fun c => ?_) (fun c => ?_)
    · replace h := h.1 c
      refine zj_iload_n dX10_blame_17 rfl rfl ?_
      refine zj_if_ne (tgt := 64) dX10_blame_18 (by decide) (fun c => ?_) (fun c => ?_)
      · replace h := h.1 c
        refine zj_iload_n dX10_blame_64 rfl rfl ?_
        refine zj_iconst (x := 1) dX10_blame_65 rfl ?_
        refine zj_icmp_ne (tgt := 94) dX10_blame_66 (by decide) (fun c => ?_) (fun c => ?_)
        · replace h := h.1 c
          refine zj_iconst (x := (-1)) dX10_blame_94 rfl ?_
          exact zj_iret dX10_blame_95 rfl rfl h
        · replace h := h.2 c
          refine zj_aload_n dX10_blame_69 rfl rfl ?_
          refine zj_aload_n dX10_blame_70 rfl rfl ?_
          refine zj_getR (ci := 10) (j := 2) dX10_blame_71 wf_X10_26 (by decide) (by decide) (zk_0 hL) rfl (zr_0_2 hL) ?_
          refine zj_iload_n dX10_blame_74 rfl rfl ?_
          refine zj_callV (M' := mX10_growAndPeel) (avs := [.ref 37, .int x1]) (st := []) (ci := 10) dX10_blame_75 wm_X10_growAndPeel wl_X10_235 wi_X10_growAndPeel ws_X10_growAndPeel (by decide) (zk_0 hL) rfl rfl (by decide) rfl (Nat.le_of_ble_eq_true rfl) (Nat.le_of_ble_eq_true rfl) ⟨Or.inl (z_k0 (zk_0 hL)), trivial⟩ trivial (z_J.mono h (fun r S1 v2 hq => ?_))
          obtain ⟨rfl, rfl, h⟩ := hq
          refine zj_aload_n dX10_blame_78 rfl rfl ?_
          refine zj_getR (ci := 10) (j := 8) dX10_blame_79 wf_X10_58 (by decide) (by decide) (zk_0 hL) rfl (zr_0_8 hL) ?_
          refine zj_aload_n dX10_blame_82 rfl rfl ?_
          refine zj_getR (ci := 10) (j := 11) dX10_blame_83 wf_X10_79 (by decide) (by decide) (zk_0 hL) rfl (zr_0_11 hL) ?_
          refine zj_getR (ci := 1) (j := 5) dX10_blame_86 wf_X10_266 (by decide) (by decide) (zk_186 hL) rfl (zr_186_5 hL) ?_
          refine zj_iload_n dX10_blame_89 rfl rfl ?_
          refine zj_callV (M' := mX4_risesOf) (avs := [.ref 187, .int x3]) (st := []) (ci := 4) dX10_blame_90 wm_X4_risesOf wl_X10_262 wi_X4_risesOf ws_X4_risesOf (by decide) (zk_149 hL) rfl rfl (by decide) rfl (Nat.le_of_ble_eq_true rfl) (Nat.le_of_ble_eq_true rfl) ⟨Or.inl (z_k0 (zk_0 hL)), trivial⟩ trivial (z_J.mono h (fun r S1 v3 hq => ?_))
          obtain ⟨y2, rfl, rfl, h⟩ := hq
          exact zj_iret dX10_blame_93 rfl rfl h
      · replace h := h.2 c
        refine zj_aload_n dX10_blame_21 rfl rfl ?_
        refine zj_aload_n dX10_blame_22 rfl rfl ?_
        refine zj_getR (ci := 10) (j := 2) dX10_blame_23 wf_X10_26 (by decide) (by decide) (zk_0 hL) rfl (zr_0_2 hL) ?_
        refine zj_iload_n dX10_blame_26 rfl rfl ?_
        refine zj_callV (M' := mX10_paired) (avs := [.ref 37, .int x1]) (st := []) (ci := 10) dX10_blame_27 wm_X10_paired wl_X10_218 wi_X10_paired ws_X10_paired (by decide) (zk_0 hL) rfl rfl (by decide) rfl (Nat.le_of_ble_eq_true rfl) (Nat.le_of_ble_eq_true rfl) ⟨Or.inl (z_k0 (zk_0 hL)), trivial⟩ trivial (z_J.mono h (fun r S1 v4 hq => ?_))
        obtain ⟨y3, rfl, h⟩ := hq
        exact h
    · replace h := h.2 c
      refine zj_iconst (x := (-1)) dX10_blame_15 rfl ?_
      exact zj_iret dX10_blame_16 rfl rfl h
  · replace h := h.2 c
    refine zj_if_eq (tgt := 15) dX10_blame_4 (by decide) (fun _ => ?_) (fun q => absurd (by decide) q)
    refine zj_iconst (x := (-1)) dX10_blame_15 rfl ?_
    exact zj_iret dX10_blame_16 rfl rfl h
theorem sg_X10_blame_30 {G : z_G} {d : Nat} {S : z_Shp} {v : z_Dat} {Q : Option Value → z_Shp → z_Dat → Prop} {x1 : Int32} {x2 : Int32} {x3 : Int32} {k0 : Int32} (hL : z_L S)
    (h : (k0 = 0 → ((¬ x2 = 1 → (Q (some (.int (-1))) S v)) ∧ (x2 = 1 → (z_J G d mX10_growAndPeel (0, [.ref 0, .ref 37, .int x1], [], S, v) (fun r S1 v1 => r = none ∧ S1 = S ∧ (z_J G d mX4_risesOf (0, [.ref 149, .ref 187, .int x3, .null, .null], [], S, v1) (fun r S1 v2 => ∃ y1 : Int32, r = some (.int y1) ∧ S1 = S ∧ (Q (some (.int y1)) S v2)))))))) ∧ (¬ k0 = 0 → (z_J G d mX5_trace (0, [.ref 164, .ref 149, .ref 158, .null], [], S, v) (fun r S1 v3 => r = none ∧ S1 = S ∧ (z_J G d mX4_risesOf (0, [.ref 149, .ref 166, .int x3, .null, .null], [], S, v3) (fun r S1 v4 => ∃ y2 : Int32, r = some (.int y2) ∧ S1 = S ∧ (Q (some (.int y2)) S v4))))))) :
    z_J G (d + 1) mX10_blame (30, [.ref 0, .int x1, .int x2, .int x3], [.int k0], S, v) Q := by
  refine zj_if_eq (tgt := 64) dX10_blame_30 (by decide) (fun c => ?_) (fun c => ?_)
  · replace h := h.1 c
    refine zj_iload_n dX10_blame_64 rfl rfl ?_
    refine zj_iconst (x := 1) dX10_blame_65 rfl ?_
    refine zj_icmp_ne (tgt := 94) dX10_blame_66 (by decide) (fun c => ?_) (fun c => ?_)
    · replace h := h.1 c
      refine zj_iconst (x := (-1)) dX10_blame_94 rfl ?_
      exact zj_iret dX10_blame_95 rfl rfl h
    · replace h := h.2 c
      refine zj_aload_n dX10_blame_69 rfl rfl ?_
      refine zj_aload_n dX10_blame_70 rfl rfl ?_
      refine zj_getR (ci := 10) (j := 2) dX10_blame_71 wf_X10_26 (by decide) (by decide) (zk_0 hL) rfl (zr_0_2 hL) ?_
      refine zj_iload_n dX10_blame_74 rfl rfl ?_
      refine zj_callV (M' := mX10_growAndPeel) (avs := [.ref 37, .int x1]) (st := []) (ci := 10) dX10_blame_75 wm_X10_growAndPeel wl_X10_235 wi_X10_growAndPeel ws_X10_growAndPeel (by decide) (zk_0 hL) rfl rfl (by decide) rfl (Nat.le_of_ble_eq_true rfl) (Nat.le_of_ble_eq_true rfl) ⟨Or.inl (z_k0 (zk_0 hL)), trivial⟩ trivial (z_J.mono h (fun r S1 v1 hq => ?_))
      obtain ⟨rfl, rfl, h⟩ := hq
      refine zj_aload_n dX10_blame_78 rfl rfl ?_
      refine zj_getR (ci := 10) (j := 8) dX10_blame_79 wf_X10_58 (by decide) (by decide) (zk_0 hL) rfl (zr_0_8 hL) ?_
      refine zj_aload_n dX10_blame_82 rfl rfl ?_
      refine zj_getR (ci := 10) (j := 11) dX10_blame_83 wf_X10_79 (by decide) (by decide) (zk_0 hL) rfl (zr_0_11 hL) ?_
      refine zj_getR (ci := 1) (j := 5) dX10_blame_86 wf_X10_266 (by decide) (by decide) (zk_186 hL) rfl (zr_186_5 hL) ?_
      refine zj_iload_n dX10_blame_89 rfl rfl ?_
      refine zj_callV (M' := mX4_risesOf) (avs := [.ref 187, .int x3]) (st := []) (ci := 4) dX10_blame_90 wm_X4_risesOf wl_X10_262 wi_X4_risesOf ws_X4_risesOf (by decide) (zk_149 hL) rfl rfl (by decide) rfl (Nat.le_of_ble_eq_true rfl) (Nat.le_of_ble_eq_true rfl) ⟨Or.inl (z_k0 (zk_0 hL)), trivial⟩ trivial (z_J.mono h (fun r S1 v2 hq => ?_))
      obtain ⟨y1, rfl, rfl, h⟩ := hq
      exact zj_iret dX10_blame_93 rfl rfl h
  · replace h := h.2 c
    refine zj_aload_n dX10_blame_33 rfl rfl ?_
    refine zj_getR (ci := 10) (j := 10) dX10_blame_34 wf_X10_72 (by decide) (by decide) (zk_0 hL) rfl (zr_0_10 hL) ?_
    refine zj_aload_n dX10_blame_37 rfl rfl ?_
    refine zj_getR (ci := 10) (j := 8) dX10_blame_38 wf_X10_58 (by decide) (by decide) (zk_0 hL) rfl (zr_0_8 hL) ?_
    refine zj_aload_n dX10_blame_41 rfl rfl ?_
    refine zj_getR (ci := 10) (j := 9) dX10_blame_42 wf_X10_65 (by decide) (by decide) (zk_0 hL) rfl (zr_0_9 hL) ?_
    refine zj_callV (M' := mX5_trace) (avs := [.ref 149, .ref 158]) (st := []) (ci := 5) dX10_blame_45 wm_X5_trace wl_X10_255 wi_X5_trace ws_X5_trace (by decide) (zk_164 hL) rfl rfl (by decide) rfl (Nat.le_of_ble_eq_true rfl) (Nat.le_of_ble_eq_true rfl) ⟨Or.inl (z_k0 (zk_0 hL)), trivial⟩ trivial (z_J.mono h (fun r S1 v3 hq => ?_))
    obtain ⟨rfl, rfl, h⟩ := hq
    refine zj_aload_n dX10_blame_48 rfl rfl ?_
    refine zj_getR (ci := 10) (j := 8) dX10_blame_49 wf_X10_58 (by decide) (by decide) (zk_0 hL) rfl (zr_0_8 hL) ?_
    refine zj_aload_n dX10_blame_52 rfl rfl ?_
    refine zj_getR (ci := 10) (j := 10) dX10_blame_53 wf_X10_72 (by decide) (by decide) (zk_0 hL) rfl (zr_0_10 hL) ?_
    refine zj_getR (ci := 5) (j := 4) dX10_blame_56 wf_X10_259 (by decide) (by decide) (zk_164 hL) rfl (zr_164_4 hL) ?_
    refine zj_iload_n dX10_blame_59 rfl rfl ?_
    refine zj_callV (M' := mX4_risesOf) (avs := [.ref 166, .int x3]) (st := []) (ci := 4) dX10_blame_60 wm_X4_risesOf wl_X10_262 wi_X4_risesOf ws_X4_risesOf (by decide) (zk_149 hL) rfl rfl (by decide) rfl (Nat.le_of_ble_eq_true rfl) (Nat.le_of_ble_eq_true rfl) ⟨Or.inl (z_k0 (zk_0 hL)), trivial⟩ trivial (z_J.mono h (fun r S1 v4 hq => ?_))
    obtain ⟨y2, rfl, rfl, h⟩ := hq
    exact zj_iret dX10_blame_63 rfl rfl h
theorem sg_X10_byteAt_0 {G : z_G} {d : Nat} {S : z_Shp} {v : z_Dat} {Q : Option Value → z_Shp → z_Dat → Prop} {x1 : Int32} (hL : z_L S)
    (h : (x1 < 0 → (Q (some (.int (-1))) S v)) ∧ (¬ x1 < 0 → ((x1 < (v 198 6) → ((vp_in x1 11) ∧ (Q (some (.int (v 202 x1.toNatClampNeg))) S v))) ∧ (¬ x1 < (v 198 6) → (Q (some (.int (-1))) S v))))) :
    z_J G d mX10_byteAt (0, [.ref 0, .int x1], [], S, v) Q := by
  refine zj_iload_n dX10_byteAt_0 rfl rfl ?_
  refine zj_if_lt (tgt := 15) dX10_byteAt_1 (by decide) (fun c => ?_) (fun c => ?_)
  · replace h := h.1 c
    refine zj_iconst (x := (-1)) dX10_byteAt_15 rfl ?_
    exact zj_iret dX10_byteAt_16 rfl rfl h
  · replace h := h.2 c
    refine zj_iload_n dX10_byteAt_4 rfl rfl ?_
    refine zj_aload_n dX10_byteAt_5 rfl rfl ?_
    refine zj_getR (ci := 10) (j := 13) dX10_byteAt_6 wf_X10_93 (by decide) (by decide) (zk_0 hL) rfl (zr_0_13 hL) ?_
    refine zj_getI (ci := 7) (j := 6) dX10_byteAt_9 wf_X10_325 (by decide) (by decide) (zk_198 hL) rfl ?_
    refine zj_icmp_lt (tgt := 17) dX10_byteAt_12 (by decide) (fun c => ?_) (fun c => ?_)
    · replace h := h.1 c
      refine zj_aload_n dX10_byteAt_17 rfl rfl ?_
      refine zj_getR (ci := 10) (j := 13) dX10_byteAt_18 wf_X10_93 (by decide) (by decide) (zk_0 hL) rfl (zr_0_13 hL) ?_
      refine zj_getR (ci := 7) (j := 7) dX10_byteAt_21 wf_X10_328 (by decide) (by decide) (zk_198 hL) rfl (zr_198_7 hL) ?_
      refine zj_iload_n dX10_byteAt_24 rfl rfl ?_
      refine zj_iaload dX10_byteAt_25 (zk_202 hL) (by rw [(zl_202 hL)]; exact h.1) ?_
      replace h := h.2
      exact zj_iret dX10_byteAt_26 rfl rfl h
    · replace h := h.2 c
      refine zj_iconst (x := (-1)) dX10_byteAt_15 rfl ?_
      exact zj_iret dX10_byteAt_16 rfl rfl h
theorem sg_X10_canBeDrawn_0 {G : z_G} {d : Nat} {S : z_Shp} {v : z_Dat} {Q : Option Value → z_Shp → z_Dat → Prop} {x1 : Int32} {x2 : Int32} (hL : z_L S)
    (h : (x1 < 1 → (Q (some (.int 0)) S v)) ∧ (¬ x1 < 1 → ((x1 ≤ ((8 : Int32) - (v 37 1)) → ((x2 < 0 → (Q (some (.int 0)) S v)) ∧ (¬ x2 < 0 → ((21 < x2 → (Q (some (.int 0)) S v)) ∧ (¬ 21 < x2 → (Q (some (.int 1)) S v)))))) ∧ (¬ x1 ≤ ((8 : Int32) - (v 37 1)) → (Q (some (.int 0)) S v))))) :
    z_J G d mX10_canBeDrawn (0, [.ref 0, .int x1, .int x2], [], S, v) Q := by
  refine zj_iload_n dX10_canBeDrawn_0 rfl rfl ?_
  refine zj_iconst (x := 1) dX10_canBeDrawn_1 rfl ?_
  refine zj_icmp_lt (tgt := 19) dX10_canBeDrawn_2 (by decide) (fun c => ?_) (fun c => ?_)
  · replace h := h.1 c
    refine zj_iconst (x := 0) dX10_canBeDrawn_19 rfl ?_
    exact zj_iret dX10_canBeDrawn_20 rfl (by decide) h
  · replace h := h.2 c
    refine zj_iload_n dX10_canBeDrawn_5 rfl rfl ?_
    refine zj_bipush (x := 8) dX10_canBeDrawn_6 rfl ?_
    refine zj_aload_n dX10_canBeDrawn_8 rfl rfl ?_
    refine zj_getR (ci := 10) (j := 2) dX10_canBeDrawn_9 wf_X10_26 (by decide) (by decide) (zk_0 hL) rfl (zr_0_2 hL) ?_
    refine zj_getI (ci := 0) (j := 1) dX10_canBeDrawn_12 wf_X10_137 (by decide) (by decide) (zk_37 hL) rfl ?_
    refine zj_isub dX10_canBeDrawn_15 ?_
    refine zj_icmp_le (tgt := 21) dX10_canBeDrawn_16 (by decide) (fun c => ?_) (fun c => ?_)
    · replace h := h.1 c
      refine zj_iload_n dX10_canBeDrawn_21 rfl rfl ?_
      refine zj_if_lt (tgt := 35) dX10_canBeDrawn_22 (by decide) (fun c => ?_) (fun c => ?_)
      · replace h := h.1 c
        refine zj_iconst (x := 0) dX10_canBeDrawn_35 rfl ?_
        exact zj_iret dX10_canBeDrawn_36 rfl (by decide) h
      · replace h := h.2 c
        refine zj_iload_n dX10_canBeDrawn_25 rfl rfl ?_
        refine zj_bipush (x := 21) dX10_canBeDrawn_26 rfl ?_
        refine zj_icmp_gt (tgt := 35) dX10_canBeDrawn_28 (by decide) (fun c => ?_) (fun c => ?_)
        · replace h := h.1 c
          refine zj_iconst (x := 0) dX10_canBeDrawn_35 rfl ?_
          exact zj_iret dX10_canBeDrawn_36 rfl (by decide) h
        · replace h := h.2 c
          refine zj_iconst (x := 1) dX10_canBeDrawn_31 rfl ?_
          refine zj_goto (tgt := 36) dX10_canBeDrawn_32 (by decide) ?_
          exact zj_iret dX10_canBeDrawn_36 rfl (by decide) h
    · replace h := h.2 c
      refine zj_iconst (x := 0) dX10_canBeDrawn_19 rfl ?_
      exact zj_iret dX10_canBeDrawn_20 rfl (by decide) h
theorem sg_X10_chain_0 {G : z_G} {d : Nat} {S : z_Shp} {v : z_Dat} {Q : Option Value → z_Shp → z_Dat → Prop} {x1 : Int32} (hL : z_L S)
    (h : ((x1 = 0 ∨ x1 = 1) → (z_J G d mX2_keep (0, [.ref 59, .ref 37], [], S, v) (fun r S1 v1 => r = none ∧ z_J G (d + 1) mX10_chain (20, [.ref 0, .int x1], [], S1, v1) Q))) ∧ (¬ (x1 = 0 ∨ x1 = 1) → (Q (some (.int (-1))) S v))) :
    z_J G (d + 1) mX10_chain (0, [.ref 0, .int x1], [], S, v) Q := by
  refine zj_iload_n dX10_chain_0 rfl rfl ?_
  refine zj_callS (M' := mX10_isKind) (avs := [.int x1]) (st := []) dX10_chain_1 wm_X10_isKind wl_X10_181 wt_X10_isKind rfl (by decide) rfl (Nat.le_of_ble_eq_true rfl) (Nat.le_of_ble_eq_true rfl) ⟨Or.inl (z_k0 (zk_0 hL)), trivial⟩ trivial (hp_X10_isKind (fun c => ?_) (fun c => ?_))
  · replace h := h.1 c
    refine zj_if_ne (tgt := 9) dX10_chain_4 (by decide) (fun _ => ?_) (fun q => absurd q (by decide))
    refine zj_aload_n dX10_chain_9 rfl rfl ?_
    refine zj_getR (ci := 10) (j := 6) dX10_chain_10 wf_X10_44 (by decide) (by decide) (zk_0 hL) rfl (zr_0_6 hL) ?_
    refine zj_aload_n dX10_chain_13 rfl rfl ?_
    refine zj_getR (ci := 10) (j := 2) dX10_chain_14 wf_X10_26 (by decide) (by decide) (zk_0 hL) rfl (zr_0_2 hL) ?_
    refine zj_callV (M' := mX2_keep) (avs := [.ref 37]) (st := []) (ci := 2) dX10_chain_17 wm_X2_keep wl_X10_126 wi_X2_keep ws_X2_keep (by decide) (zk_59 hL) rfl rfl (by decide) rfl (Nat.le_of_ble_eq_true rfl) (Nat.le_of_ble_eq_true rfl) ⟨Or.inl (z_k0 (zk_0 hL)), trivial⟩ trivial (z_J.mono h (fun r S1 v1 hq => ?_))
    obtain ⟨rfl, h⟩ := hq
    exact h
  · replace h := h.2 c
    refine zj_if_ne (tgt := 9) dX10_chain_4 (by decide) (fun q => absurd (by decide) q) (fun _ => ?_)
    refine zj_iconst (x := (-1)) dX10_chain_7 rfl ?_
    exact zj_iret dX10_chain_8 rfl rfl h
theorem sg_X10_chain_20 {G : z_G} {d : Nat} {S : z_Shp} {v : z_Dat} {Q : Option Value → z_Shp → z_Dat → Prop} {x1 : Int32} {w_37 : Nat} (hL : z_L S) (rw_37 : z_r S 37 0 = some w_37) (hw_37 : z_isW w_37)
    (h : (vp_in x1 2) ∧ ((vp_in x1 2) ∧ (vp_in x1 2 ∧ (∀ v1, v1 = z_u v 38 x1.toNatClampNeg ((v 38 x1.toNatClampNeg) ^^^ (v (w_37 + 17) x1.toNatClampNeg)) → ((vp_in x1 2) ∧ (z_J G d mX9_logicalOf (0, [.ref w_37, .int x1, .int (v1 38 x1.toNatClampNeg)], [], S, v1) (fun r S1 v2 => ∃ y1 : Int32, r = some (.int y1) ∧ S1 = S ∧ (Q (some (.int y1)) S v2)))))))) :
    z_J G (d + 1) mX10_chain (20, [.ref 0, .int x1], [], S, v) Q := by
  refine zj_aload_n dX10_chain_20 rfl rfl ?_
  refine zj_getR (ci := 10) (j := 2) dX10_chain_21 wf_X10_26 (by decide) (by decide) (zk_0 hL) rfl (zr_0_2 hL) ?_
  refine zj_getR (ci := 0) (j := 2) dX10_chain_24 wf_X10_143 (by decide) (by decide) (zk_37 hL) rfl (zr_37_2 hL) ?_
  refine zj_iload_n dX10_chain_27 rfl rfl ?_
  refine zj_dup2 dX10_chain_28 rfl rfl ?_
  refine zj_iaload dX10_chain_29 (zk_38 hL) (by rw [(zl_38 hL)]; exact h.1) ?_
  replace h := h.2
  refine zj_aload_n dX10_chain_30 rfl rfl ?_
  refine zj_getR (ci := 10) (j := 2) dX10_chain_31 wf_X10_26 (by decide) (by decide) (zk_0 hL) rfl (zr_0_2 hL) ?_
  refine zj_getR (ci := 0) (j := 0) dX10_chain_34 wf_X10_113 (by decide) (by decide) (zk_37 hL) rfl rw_37 ?_
  refine zj_getR (ci := 9) (j := 9) dX10_chain_37 wf_X10_319 (by decide) (by decide) (zWk0 hL hw_37) rfl (zWr0_9 hL hw_37) ?_
  refine zj_iload_n dX10_chain_40 rfl rfl ?_
  refine zj_iaload dX10_chain_41 (zWk17 hL hw_37) (by rw [(zWl17 hL hw_37)]; exact h.1) ?_
  replace h := h.2
  refine zj_ixor dX10_chain_42 ?_
  refine zj_iastore dX10_chain_43 (zk_38 hL) (by rw [(zl_38 hL)]; exact h.1) (fun v1 ev1 => ?_)
  replace h := h.2 v1 ev1
  refine zj_aload_n dX10_chain_44 rfl rfl ?_
  refine zj_getR (ci := 10) (j := 2) dX10_chain_45 wf_X10_26 (by decide) (by decide) (zk_0 hL) rfl (zr_0_2 hL) ?_
  refine zj_getR (ci := 0) (j := 0) dX10_chain_48 wf_X10_113 (by decide) (by decide) (zk_37 hL) rfl rw_37 ?_
  refine zj_iload_n dX10_chain_51 rfl rfl ?_
  refine zj_aload_n dX10_chain_52 rfl rfl ?_
  refine zj_getR (ci := 10) (j := 2) dX10_chain_53 wf_X10_26 (by decide) (by decide) (zk_0 hL) rfl (zr_0_2 hL) ?_
  refine zj_getR (ci := 0) (j := 2) dX10_chain_56 wf_X10_143 (by decide) (by decide) (zk_37 hL) rfl (zr_37_2 hL) ?_
  refine zj_iload_n dX10_chain_59 rfl rfl ?_
  refine zj_iaload dX10_chain_60 (zk_38 hL) (by rw [(zl_38 hL)]; exact h.1) ?_
  replace h := h.2
  refine zj_callV (M' := mX9_logicalOf) (avs := [.int x1, .int (v1 38 x1.toNatClampNeg)]) (st := []) (ci := 9) dX10_chain_61 wm_X9_logicalOf wl_X10_316 wi_X9_logicalOf ws_X9_logicalOf (by decide) (zWk0 hL hw_37) rfl rfl (by decide) rfl (Nat.le_of_ble_eq_true rfl) (Nat.le_of_ble_eq_true rfl) ⟨Or.inl (z_k0 (zk_0 hL)), trivial⟩ trivial (z_J.mono h (fun r S1 v2 hq => ?_))
  obtain ⟨y1, rfl, rfl, h⟩ := hq
  exact zj_iret dX10_chain_64 rfl rfl h
theorem sg_X10_correct_0 {G : z_G} {d : Nat} {S : z_Shp} {v : z_Dat} {Q : Option Value → z_Shp → z_Dat → Prop} {x1 : Int32} {x2 : Int32} (hL : z_L S)
    (h : ((x1 = 0 ∨ x1 = 1) → (z_J G d mX10_correctionOf (0, [.ref 0, .ref 37, .int x1, .int x2], [], S, v) (fun r S1 v1 => ∃ y1 : Int32, r = some (.int y1) ∧ z_J G (d + 1) mX10_correct (17, [.ref 0, .int x1, .int x2, .null], [.int y1], S1, v1) Q))) ∧ (¬ (x1 = 0 ∨ x1 = 1) → (Q (some (.int (-1))) S v))) :
    z_J G (d + 1) mX10_correct (0, [.ref 0, .int x1, .int x2, .null], [], S, v) Q := by
  refine zj_iload_n dX10_correct_0 rfl rfl ?_
  refine zj_callS (M' := mX10_isKind) (avs := [.int x1]) (st := []) dX10_correct_1 wm_X10_isKind wl_X10_181 wt_X10_isKind rfl (by decide) rfl (Nat.le_of_ble_eq_true rfl) (Nat.le_of_ble_eq_true rfl) ⟨Or.inl (z_k0 (zk_0 hL)), trivial⟩ trivial (hp_X10_isKind (fun c => ?_) (fun c => ?_))
  · replace h := h.1 c
    refine zj_if_eq (tgt := 20) dX10_correct_4 (by decide) (fun q => absurd q (by decide)) (fun _ => ?_)
    refine zj_aload_n dX10_correct_7 rfl rfl ?_
    refine zj_aload_n dX10_correct_8 rfl rfl ?_
    refine zj_getR (ci := 10) (j := 2) dX10_correct_9 wf_X10_26 (by decide) (by decide) (zk_0 hL) rfl (zr_0_2 hL) ?_
    refine zj_iload_n dX10_correct_12 rfl rfl ?_
    refine zj_iload_n dX10_correct_13 rfl rfl ?_
    refine zj_callV (M' := mX10_correctionOf) (avs := [.ref 37, .int x1, .int x2]) (st := []) (ci := 10) dX10_correct_14 wm_X10_correctionOf wl_X10_281 wi_X10_correctionOf ws_X10_correctionOf (by decide) (zk_0 hL) rfl rfl (by decide) rfl (Nat.le_of_ble_eq_true rfl) (Nat.le_of_ble_eq_true rfl) ⟨Or.inl (z_k0 (zk_0 hL)), trivial⟩ trivial (z_J.mono h (fun r S1 v1 hq => ?_))
    obtain ⟨y1, rfl, h⟩ := hq
    exact h
  · replace h := h.2 c
    refine zj_if_eq (tgt := 20) dX10_correct_4 (by decide) (fun _ => ?_) (fun q => absurd (by decide) q)
    refine zj_iconst (x := (-1)) dX10_correct_20 rfl ?_
    refine zj_istore_n (ls2 := [.ref 0, .int x1, .int x2, .int (-1)]) dX10_correct_21 rfl (by decide) rfl rfl ?_
    refine zj_iload_n dX10_correct_22 rfl rfl ?_
    refine zj_iconst (x := (-1)) dX10_correct_23 rfl ?_
    refine zj_icmp_ne (tgt := 29) dX10_correct_24 (by decide) (fun q => absurd (by decide) q) (fun _ => ?_)
    refine zj_iconst (x := (-1)) dX10_correct_27 rfl ?_
    exact zj_iret dX10_correct_28 rfl rfl h
theorem sg_X10_correct_17 {G : z_G} {d : Nat} {S : z_Shp} {v : z_Dat} {Q : Option Value → z_Shp → z_Dat → Prop} {x1 : Int32} {x2 : Int32} {k0 : Int32} (hL : z_L S)
    (h : (¬ k0 = (-1) → (z_J G d mX2_keep (0, [.ref 59, .ref 37], [], S, v) (fun r S1 v1 => r = none ∧ z_J G (d + 1) mX10_correct (40, [.ref 0, .int x1, .int x2, .int k0], [], S1, v1) Q))) ∧ (k0 = (-1) → (Q (some (.int (-1))) S v))) :
    z_J G (d + 1) mX10_correct (17, [.ref 0, .int x1, .int x2, .null], [.int k0], S, v) Q := by
  refine zj_goto (tgt := 21) dX10_correct_17 (by decide) ?_
  refine zj_istore_n (ls2 := [.ref 0, .int x1, .int x2, .int k0]) dX10_correct_21 rfl (by decide) rfl rfl ?_
  refine zj_iload_n dX10_correct_22 rfl rfl ?_
  refine zj_iconst (x := (-1)) dX10_correct_23 rfl ?_
  refine zj_icmp_ne (tgt := 29) dX10_correct_24 (by decide) (fun c => ?_) (fun c => ?_)
  · replace h := h.1 c
    refine zj_aload_n dX10_correct_29 rfl rfl ?_
    refine zj_getR (ci := 10) (j := 6) dX10_correct_30 wf_X10_44 (by decide) (by decide) (zk_0 hL) rfl (zr_0_6 hL) ?_
    refine zj_aload_n dX10_correct_33 rfl rfl ?_
    refine zj_getR (ci := 10) (j := 2) dX10_correct_34 wf_X10_26 (by decide) (by decide) (zk_0 hL) rfl (zr_0_2 hL) ?_
    refine zj_callV (M' := mX2_keep) (avs := [.ref 37]) (st := []) (ci := 2) dX10_correct_37 wm_X2_keep wl_X10_126 wi_X2_keep ws_X2_keep (by decide) (zk_59 hL) rfl rfl (by decide) rfl (Nat.le_of_ble_eq_true rfl) (Nat.le_of_ble_eq_true rfl) ⟨Or.inl (z_k0 (zk_0 hL)), trivial⟩ trivial (z_J.mono h (fun r S1 v1 hq => ?_))
    obtain ⟨rfl, h⟩ := hq
    exact h
  · replace h := h.2 c
    refine zj_iconst (x := (-1)) dX10_correct_27 rfl ?_
    exact zj_iret dX10_correct_28 rfl rfl h
theorem sg_X10_correct_40 {G : z_G} {d : Nat} {S : z_Shp} {v : z_Dat} {Q : Option Value → z_Shp → z_Dat → Prop} {x1 : Int32} {x2 : Int32} {x3 : Int32} (hL : z_L S)
    (h : (vp_in x1 2) ∧ (vp_in x1 2 ∧ (∀ v1, v1 = z_u v 38 x1.toNatClampNeg ((v 38 x1.toNatClampNeg) ^^^ x3) → (Q (some (.int (z_pc x3))) S v1)))) :
    z_J G (d + 1) mX10_correct (40, [.ref 0, .int x1, .int x2, .int x3], [], S, v) Q := by
  refine zj_aload_n dX10_correct_40 rfl rfl ?_
  refine zj_getR (ci := 10) (j := 2) dX10_correct_41 wf_X10_26 (by decide) (by decide) (zk_0 hL) rfl (zr_0_2 hL) ?_
  refine zj_getR (ci := 0) (j := 2) dX10_correct_44 wf_X10_143 (by decide) (by decide) (zk_37 hL) rfl (zr_37_2 hL) ?_
  refine zj_iload_n dX10_correct_47 rfl rfl ?_
  refine zj_dup2 dX10_correct_48 rfl rfl ?_
  refine zj_iaload dX10_correct_49 (zk_38 hL) (by rw [(zl_38 hL)]; exact h.1) ?_
  replace h := h.2
  refine zj_iload_n dX10_correct_50 rfl rfl ?_
  refine zj_ixor dX10_correct_51 ?_
  refine zj_iastore dX10_correct_52 (zk_38 hL) (by rw [(zl_38 hL)]; exact h.1) (fun v1 ev1 => ?_)
  replace h := h.2 v1 ev1
  refine zj_iload_n dX10_correct_53 rfl rfl ?_
  refine zj_callS (M' := mJ6_bitCount_0f7a4) (avs := [.int x3]) (st := []) dX10_correct_54 wm_J6_bitCount_0f7a4 wl_X10_288 wt_J6_bitCount_0f7a4 rfl (by decide) rfl (Nat.le_of_ble_eq_true rfl) (Nat.le_of_ble_eq_true rfl) ⟨Or.inl (z_k0 (zk_0 hL)), trivial⟩ trivial (hp_J6_bitCount_0f7a4 ?_)
  exact zj_iret dX10_correct_57 rfl rfl h
theorem sg_X10_correction_0 {G : z_G} {d : Nat} {S : z_Shp} {v : z_Dat} {Q : Option Value → z_Shp → z_Dat → Prop} {x1 : Int32} {x2 : Int32} (hL : z_L S)
    (h : ((x1 = 0 ∨ x1 = 1) → (z_J G d mX10_correctionOf (0, [.ref 0, .ref 37, .int x1, .int x2], [], S, v) (fun r S1 v1 => ∃ y1 : Int32, r = some (.int y1) ∧ z_J G (d + 1) mX10_correction (19, [.ref 0, .int x1, .int x2], [.int y1], S1, v1) Q))) ∧ (¬ (x1 = 0 ∨ x1 = 1) → (Q (some (.int (-1))) S v))) :
    z_J G (d + 1) mX10_correction (0, [.ref 0, .int x1, .int x2], [], S, v) Q := by
  refine zj_iload_n dX10_correction_0 rfl rfl ?_
  refine zj_callS (M' := mX10_isKind) (avs := [.int x1]) (st := []) dX10_correction_1 wm_X10_isKind wl_X10_181 wt_X10_isKind rfl (by decide) rfl (Nat.le_of_ble_eq_true rfl) (Nat.le_of_ble_eq_true rfl) ⟨Or.inl (z_k0 (zk_0 hL)), trivial⟩ trivial (hp_X10_isKind (fun c => ?_) (fun c => ?_))
  · replace h := h.1 c
    refine zj_if_ne (tgt := 9) dX10_correction_4 (by decide) (fun _ => ?_) (fun q => absurd q (by decide))
    refine zj_aload_n dX10_correction_9 rfl rfl ?_
    refine zj_aload_n dX10_correction_10 rfl rfl ?_
    refine zj_getR (ci := 10) (j := 2) dX10_correction_11 wf_X10_26 (by decide) (by decide) (zk_0 hL) rfl (zr_0_2 hL) ?_
    refine zj_iload_n dX10_correction_14 rfl rfl ?_
    refine zj_iload_n dX10_correction_15 rfl rfl ?_
    refine zj_callV (M' := mX10_correctionOf) (avs := [.ref 37, .int x1, .int x2]) (st := []) (ci := 10) dX10_correction_16 wm_X10_correctionOf wl_X10_281 wi_X10_correctionOf ws_X10_correctionOf (by decide) (zk_0 hL) rfl rfl (by decide) rfl (Nat.le_of_ble_eq_true rfl) (Nat.le_of_ble_eq_true rfl) ⟨Or.inl (z_k0 (zk_0 hL)), trivial⟩ trivial (z_J.mono h (fun r S1 v1 hq => ?_))
    obtain ⟨y1, rfl, h⟩ := hq
    exact h
  · replace h := h.2 c
    refine zj_if_ne (tgt := 9) dX10_correction_4 (by decide) (fun q => absurd (by decide) q) (fun _ => ?_)
    refine zj_iconst (x := (-1)) dX10_correction_7 rfl ?_
    exact zj_iret dX10_correction_8 rfl rfl h
theorem sg_X10_correction_19 {G : z_G} {d : Nat} {S : z_Shp} {v : z_Dat} {Q : Option Value → z_Shp → z_Dat → Prop} {x1 : Int32} {x2 : Int32} {k0 : Int32}
    (h : Q (some (.int k0)) S v) :
    z_J G d mX10_correction (19, [.ref 0, .int x1, .int x2], [.int k0], S, v) Q := by
  exact zj_iret dX10_correction_19 rfl rfl h
theorem sg_X10_correctionOf_0 {G : z_G} {d : Nat} {S : z_Shp} {v : z_Dat} {Q : Option Value → z_Shp → z_Dat → Prop} {x1 : Nat} {x2 : Int32} {x3 : Int32} (hL : z_L S) (hx1 : z_isF x1)
    (h : (¬ x3 = 0 → ((¬ x3 = 1 → ((¬ x3 = 2 → (Q (some (.int (-1))) S v)) ∧ (x3 = 2 → (z_J G d mX3_lightestSet (0, [.ref 195, .ref x1, .int x2, .null], [], S, v) (fun r S1 v1 => ∃ y1 : Int32, r = some (.int y1) ∧ S1 = S ∧ (Q (some (.int y1)) S v1)))))) ∧ (x3 = 1 → (z_J G d mX10_growAndPeel (0, [.ref 0, .ref x1, .int x2], [], S, v) (fun r S1 v2 => r = none ∧ S1 = S ∧ (z_J G d mX4_qubitsOf (0, [.ref 149, .ref 187, .null, .null, .null], [], S, v2) (fun r S1 v3 => ∃ y2 : Int32, r = some (.int y2) ∧ S1 = S ∧ (Q (some (.int y2)) S v3)))))))) ∧ (x3 = 0 → (z_J G d mX10_paired (0, [.ref 0, .ref x1, .int x2], [], S, v) (fun r S1 v4 => ∃ y3 : Int32, r = some (.int y3) ∧ z_J G (d + 1) mX10_correctionOf (10, [.ref 0, .ref x1, .int x2, .int x3], [.int y3], S1, v4) Q)))) :
    z_J G (d + 1) mX10_correctionOf (0, [.ref 0, .ref x1, .int x2, .int x3], [], S, v) Q := by
  refine zj_iload_n dX10_correctionOf_0 rfl rfl ?_
  refine zj_if_ne (tgt := 43) dX10_correctionOf_1 (by decide) (fun c => ?_) (fun c => ?_)
  · replace h := h.1 c
    refine zj_iload_n dX10_correctionOf_43 rfl rfl ?_
    refine zj_iconst (x := 1) dX10_correctionOf_44 rfl ?_
    refine zj_icmp_ne (tgt := 69) dX10_correctionOf_45 (by decide) (fun c => ?_) (fun c => ?_)
    · replace h := h.1 c
      refine zj_iload_n dX10_correctionOf_69 rfl rfl ?_
      refine zj_iconst (x := 2) dX10_correctionOf_70 rfl ?_
      refine zj_icmp_ne (tgt := 84) dX10_correctionOf_71 (by decide) (fun c => ?_) (fun c => ?_)
      · replace h := h.1 c
        refine zj_iconst (x := (-1)) dX10_correctionOf_84 rfl ?_
        exact zj_iret dX10_correctionOf_85 rfl rfl h
      · replace h := h.2 c
        refine zj_aload_n dX10_correctionOf_74 rfl rfl ?_
        refine zj_getR (ci := 10) (j := 12) dX10_correctionOf_75 wf_X10_86 (by decide) (by decide) (zk_0 hL) rfl (zr_0_12 hL) ?_
        refine zj_aload_n dX10_correctionOf_78 rfl rfl ?_
        refine zj_iload_n dX10_correctionOf_79 rfl rfl ?_
        refine zj_callV (M' := mX3_lightestSet) (avs := [.ref x1, .int x2]) (st := []) (ci := 3) dX10_correctionOf_80 wm_X3_lightestSet wl_X10_371 wi_X3_lightestSet ws_X3_lightestSet (by decide) (zk_195 hL) rfl rfl (by decide) rfl (Nat.le_of_ble_eq_true rfl) (Nat.le_of_ble_eq_true rfl) ⟨Or.inl (z_k0 (zk_0 hL)), Or.inl (z_k0 (zFk0 hL hx1)), trivial⟩ trivial (z_J.mono h (fun r S1 v1 hq => ?_))
        obtain ⟨y1, rfl, rfl, h⟩ := hq
        exact zj_iret dX10_correctionOf_83 rfl rfl h
    · replace h := h.2 c
      refine zj_aload_n dX10_correctionOf_48 rfl rfl ?_
      refine zj_aload_n dX10_correctionOf_49 rfl rfl ?_
      refine zj_iload_n dX10_correctionOf_50 rfl rfl ?_
      refine zj_callV (M' := mX10_growAndPeel) (avs := [.ref x1, .int x2]) (st := []) (ci := 10) dX10_correctionOf_51 wm_X10_growAndPeel wl_X10_235 wi_X10_growAndPeel ws_X10_growAndPeel (by decide) (zk_0 hL) rfl rfl (by decide) rfl (Nat.le_of_ble_eq_true rfl) (Nat.le_of_ble_eq_true rfl) ⟨Or.inl (z_k0 (zk_0 hL)), Or.inl (z_k0 (zFk0 hL hx1)), trivial⟩ trivial (z_J.mono h (fun r S1 v2 hq => ?_))
      obtain ⟨rfl, rfl, h⟩ := hq
      refine zj_aload_n dX10_correctionOf_54 rfl rfl ?_
      refine zj_getR (ci := 10) (j := 8) dX10_correctionOf_55 wf_X10_58 (by decide) (by decide) (zk_0 hL) rfl (zr_0_8 hL) ?_
      refine zj_aload_n dX10_correctionOf_58 rfl rfl ?_
      refine zj_getR (ci := 10) (j := 11) dX10_correctionOf_59 wf_X10_79 (by decide) (by decide) (zk_0 hL) rfl (zr_0_11 hL) ?_
      refine zj_getR (ci := 1) (j := 5) dX10_correctionOf_62 wf_X10_266 (by decide) (by decide) (zk_186 hL) rfl (zr_186_5 hL) ?_
      refine zj_callV (M' := mX4_qubitsOf) (avs := [.ref 187]) (st := []) (ci := 4) dX10_correctionOf_65 wm_X4_qubitsOf wl_X10_367 wi_X4_qubitsOf ws_X4_qubitsOf (by decide) (zk_149 hL) rfl rfl (by decide) rfl (Nat.le_of_ble_eq_true rfl) (Nat.le_of_ble_eq_true rfl) ⟨Or.inl (z_k0 (zk_0 hL)), Or.inl (z_k0 (zFk0 hL hx1)), trivial⟩ trivial (z_J.mono h (fun r S1 v3 hq => ?_))
      obtain ⟨y2, rfl, rfl, h⟩ := hq
      exact zj_iret dX10_correctionOf_68 rfl rfl h
  · replace h := h.2 c
    refine zj_aload_n dX10_correctionOf_4 rfl rfl ?_
    refine zj_aload_n dX10_correctionOf_5 rfl rfl ?_
    refine zj_iload_n dX10_correctionOf_6 rfl rfl ?_
    refine zj_callV (M' := mX10_paired) (avs := [.ref x1, .int x2]) (st := []) (ci := 10) dX10_correctionOf_7 wm_X10_paired wl_X10_218 wi_X10_paired ws_X10_paired (by decide) (zk_0 hL) rfl rfl (by decide) rfl (Nat.le_of_ble_eq_true rfl) (Nat.le_of_ble_eq_true rfl) ⟨Or.inl (z_k0 (zk_0 hL)), Or.inl (z_k0 (zFk0 hL hx1)), trivial⟩ trivial (z_J.mono h (fun r S1 v4 hq => ?_))
    obtain ⟨y3, rfl, h⟩ := hq
    exact h
theorem sg_X10_correctionOf_10 {G : z_G} {d : Nat} {S : z_Shp} {v : z_Dat} {Q : Option Value → z_Shp → z_Dat → Prop} {x2 : Int32} {x3 : Int32} {k0 : Int32} {x1 : Nat} (hL : z_L S) (hx1 : z_isF x1)
    (h : (k0 = 0 → ((¬ x3 = 1 → ((¬ x3 = 2 → (Q (some (.int (-1))) S v)) ∧ (x3 = 2 → (z_J G d mX3_lightestSet (0, [.ref 195, .ref x1, .int x2, .null], [], S, v) (fun r S1 v1 => ∃ y1 : Int32, r = some (.int y1) ∧ S1 = S ∧ (Q (some (.int y1)) S v1)))))) ∧ (x3 = 1 → (z_J G d mX10_growAndPeel (0, [.ref 0, .ref x1, .int x2], [], S, v) (fun r S1 v2 => r = none ∧ S1 = S ∧ (z_J G d mX4_qubitsOf (0, [.ref 149, .ref 187, .null, .null, .null], [], S, v2) (fun r S1 v3 => ∃ y2 : Int32, r = some (.int y2) ∧ S1 = S ∧ (Q (some (.int y2)) S v3)))))))) ∧ (¬ k0 = 0 → (z_J G d mX5_trace (0, [.ref 164, .ref 149, .ref 158, .null], [], S, v) (fun r S1 v4 => r = none ∧ S1 = S ∧ (z_J G d mX4_qubitsOf (0, [.ref 149, .ref 166, .null, .null, .null], [], S, v4) (fun r S1 v5 => ∃ y3 : Int32, r = some (.int y3) ∧ S1 = S ∧ (Q (some (.int y3)) S v5))))))) :
    z_J G (d + 1) mX10_correctionOf (10, [.ref 0, .ref x1, .int x2, .int x3], [.int k0], S, v) Q := by
  refine zj_if_eq (tgt := 43) dX10_correctionOf_10 (by decide) (fun c => ?_) (fun c => ?_)
  · replace h := h.1 c
    refine zj_iload_n dX10_correctionOf_43 rfl rfl ?_
    refine zj_iconst (x := 1) dX10_correctionOf_44 rfl ?_
    refine zj_icmp_ne (tgt := 69) dX10_correctionOf_45 (by decide) (fun c => ?_) (fun c => ?_)
    · replace h := h.1 c
      refine zj_iload_n dX10_correctionOf_69 rfl rfl ?_
      refine zj_iconst (x := 2) dX10_correctionOf_70 rfl ?_
      refine zj_icmp_ne (tgt := 84) dX10_correctionOf_71 (by decide) (fun c => ?_) (fun c => ?_)
      · replace h := h.1 c
        refine zj_iconst (x := (-1)) dX10_correctionOf_84 rfl ?_
        exact zj_iret dX10_correctionOf_85 rfl rfl h
      · replace h := h.2 c
        refine zj_aload_n dX10_correctionOf_74 rfl rfl ?_
        refine zj_getR (ci := 10) (j := 12) dX10_correctionOf_75 wf_X10_86 (by decide) (by decide) (zk_0 hL) rfl (zr_0_12 hL) ?_
        refine zj_aload_n dX10_correctionOf_78 rfl rfl ?_
        refine zj_iload_n dX10_correctionOf_79 rfl rfl ?_
        refine zj_callV (M' := mX3_lightestSet) (avs := [.ref x1, .int x2]) (st := []) (ci := 3) dX10_correctionOf_80 wm_X3_lightestSet wl_X10_371 wi_X3_lightestSet ws_X3_lightestSet (by decide) (zk_195 hL) rfl rfl (by decide) rfl (Nat.le_of_ble_eq_true rfl) (Nat.le_of_ble_eq_true rfl) ⟨Or.inl (z_k0 (zk_0 hL)), Or.inl (z_k0 (zFk0 hL hx1)), trivial⟩ trivial (z_J.mono h (fun r S1 v1 hq => ?_))
        obtain ⟨y1, rfl, rfl, h⟩ := hq
        exact zj_iret dX10_correctionOf_83 rfl rfl h
    · replace h := h.2 c
      refine zj_aload_n dX10_correctionOf_48 rfl rfl ?_
      refine zj_aload_n dX10_correctionOf_49 rfl rfl ?_
      refine zj_iload_n dX10_correctionOf_50 rfl rfl ?_
      refine zj_callV (M' := mX10_growAndPeel) (avs := [.ref x1, .int x2]) (st := []) (ci := 10) dX10_correctionOf_51 wm_X10_growAndPeel wl_X10_235 wi_X10_growAndPeel ws_X10_growAndPeel (by decide) (zk_0 hL) rfl rfl (by decide) rfl (Nat.le_of_ble_eq_true rfl) (Nat.le_of_ble_eq_true rfl) ⟨Or.inl (z_k0 (zk_0 hL)), Or.inl (z_k0 (zFk0 hL hx1)), trivial⟩ trivial (z_J.mono h (fun r S1 v2 hq => ?_))
      obtain ⟨rfl, rfl, h⟩ := hq
      refine zj_aload_n dX10_correctionOf_54 rfl rfl ?_
      refine zj_getR (ci := 10) (j := 8) dX10_correctionOf_55 wf_X10_58 (by decide) (by decide) (zk_0 hL) rfl (zr_0_8 hL) ?_
      refine zj_aload_n dX10_correctionOf_58 rfl rfl ?_
      refine zj_getR (ci := 10) (j := 11) dX10_correctionOf_59 wf_X10_79 (by decide) (by decide) (zk_0 hL) rfl (zr_0_11 hL) ?_
      refine zj_getR (ci := 1) (j := 5) dX10_correctionOf_62 wf_X10_266 (by decide) (by decide) (zk_186 hL) rfl (zr_186_5 hL) ?_
      refine zj_callV (M' := mX4_qubitsOf) (avs := [.ref 187]) (st := []) (ci := 4) dX10_correctionOf_65 wm_X4_qubitsOf wl_X10_367 wi_X4_qubitsOf ws_X4_qubitsOf (by decide) (zk_149 hL) rfl rfl (by decide) rfl (Nat.le_of_ble_eq_true rfl) (Nat.le_of_ble_eq_true rfl) ⟨Or.inl (z_k0 (zk_0 hL)), Or.inl (z_k0 (zFk0 hL hx1)), trivial⟩ trivial (z_J.mono h (fun r S1 v3 hq => ?_))
      obtain ⟨y2, rfl, rfl, h⟩ := hq
      exact zj_iret dX10_correctionOf_68 rfl rfl h
  · replace h := h.2 c
    refine zj_aload_n dX10_correctionOf_13 rfl rfl ?_
    refine zj_getR (ci := 10) (j := 10) dX10_correctionOf_14 wf_X10_72 (by decide) (by decide) (zk_0 hL) rfl (zr_0_10 hL) ?_
    refine zj_aload_n dX10_correctionOf_17 rfl rfl ?_
    refine zj_getR (ci := 10) (j := 8) dX10_correctionOf_18 wf_X10_58 (by decide) (by decide) (zk_0 hL) rfl (zr_0_8 hL) ?_
    refine zj_aload_n dX10_correctionOf_21 rfl rfl ?_
    refine zj_getR (ci := 10) (j := 9) dX10_correctionOf_22 wf_X10_65 (by decide) (by decide) (zk_0 hL) rfl (zr_0_9 hL) ?_
    refine zj_callV (M' := mX5_trace) (avs := [.ref 149, .ref 158]) (st := []) (ci := 5) dX10_correctionOf_25 wm_X5_trace wl_X10_255 wi_X5_trace ws_X5_trace (by decide) (zk_164 hL) rfl rfl (by decide) rfl (Nat.le_of_ble_eq_true rfl) (Nat.le_of_ble_eq_true rfl) ⟨Or.inl (z_k0 (zk_0 hL)), Or.inl (z_k0 (zFk0 hL hx1)), trivial⟩ trivial (z_J.mono h (fun r S1 v4 hq => ?_))
    obtain ⟨rfl, rfl, h⟩ := hq
    refine zj_aload_n dX10_correctionOf_28 rfl rfl ?_
    refine zj_getR (ci := 10) (j := 8) dX10_correctionOf_29 wf_X10_58 (by decide) (by decide) (zk_0 hL) rfl (zr_0_8 hL) ?_
    refine zj_aload_n dX10_correctionOf_32 rfl rfl ?_
    refine zj_getR (ci := 10) (j := 10) dX10_correctionOf_33 wf_X10_72 (by decide) (by decide) (zk_0 hL) rfl (zr_0_10 hL) ?_
    refine zj_getR (ci := 5) (j := 4) dX10_correctionOf_36 wf_X10_259 (by decide) (by decide) (zk_164 hL) rfl (zr_164_4 hL) ?_
    refine zj_callV (M' := mX4_qubitsOf) (avs := [.ref 166]) (st := []) (ci := 4) dX10_correctionOf_39 wm_X4_qubitsOf wl_X10_367 wi_X4_qubitsOf ws_X4_qubitsOf (by decide) (zk_149 hL) rfl rfl (by decide) rfl (Nat.le_of_ble_eq_true rfl) (Nat.le_of_ble_eq_true rfl) ⟨Or.inl (z_k0 (zk_0 hL)), Or.inl (z_k0 (zFk0 hL hx1)), trivial⟩ trivial (z_J.mono h (fun r S1 v5 hq => ?_))
    obtain ⟨y3, rfl, rfl, h⟩ := hq
    exact zj_iret dX10_correctionOf_42 rfl rfl h
theorem sg_X10_distance_0 {G : z_G} {d : Nat} {S : z_Shp} {v : z_Dat} {Q : Option Value → z_Shp → z_Dat → Prop} {x1 : Int32} (hL : z_L S)
    (h : ((x1 = 0 ∨ x1 = 1) → (z_J G d mX3_leastChain (0, [.ref 195, .ref 37, .int x1], [], S, v) (fun r S1 v1 => ∃ y1 : Int32, r = some (.int y1) ∧ S1 = S ∧ (Q (some (.int y1)) S v1)))) ∧ (¬ (x1 = 0 ∨ x1 = 1) → (Q (some (.int (-1))) S v))) :
    z_J G (d + 1) mX10_distance (0, [.ref 0, .int x1], [], S, v) Q := by
  refine zj_iload_n dX10_distance_0 rfl rfl ?_
  refine zj_callS (M' := mX10_isKind) (avs := [.int x1]) (st := []) dX10_distance_1 wm_X10_isKind wl_X10_181 wt_X10_isKind rfl (by decide) rfl (Nat.le_of_ble_eq_true rfl) (Nat.le_of_ble_eq_true rfl) ⟨Or.inl (z_k0 (zk_0 hL)), trivial⟩ trivial (hp_X10_isKind (fun c => ?_) (fun c => ?_))
  · replace h := h.1 c
    refine zj_if_ne (tgt := 9) dX10_distance_4 (by decide) (fun _ => ?_) (fun q => absurd q (by decide))
    refine zj_aload_n dX10_distance_9 rfl rfl ?_
    refine zj_getR (ci := 10) (j := 12) dX10_distance_10 wf_X10_86 (by decide) (by decide) (zk_0 hL) rfl (zr_0_12 hL) ?_
    refine zj_aload_n dX10_distance_13 rfl rfl ?_
    refine zj_getR (ci := 10) (j := 2) dX10_distance_14 wf_X10_26 (by decide) (by decide) (zk_0 hL) rfl (zr_0_2 hL) ?_
    refine zj_iload_n dX10_distance_17 rfl rfl ?_
    refine zj_callV (M' := mX3_leastChain) (avs := [.ref 37, .int x1]) (st := []) (ci := 3) dX10_distance_18 wm_X3_leastChain wl_X10_293 wi_X3_leastChain ws_X3_leastChain (by decide) (zk_195 hL) rfl rfl (by decide) rfl (Nat.le_of_ble_eq_true rfl) (Nat.le_of_ble_eq_true rfl) ⟨Or.inl (z_k0 (zk_0 hL)), trivial⟩ trivial (z_J.mono h (fun r S1 v1 hq => ?_))
    obtain ⟨y1, rfl, rfl, h⟩ := hq
    exact zj_iret dX10_distance_21 rfl rfl h
  · replace h := h.2 c
    refine zj_if_ne (tgt := 9) dX10_distance_4 (by decide) (fun q => absurd (by decide) q) (fun _ => ?_)
    refine zj_iconst (x := (-1)) dX10_distance_7 rfl ?_
    exact zj_iret dX10_distance_8 rfl rfl h
theorem sg_X10_drawn_0 {G : z_G} {d : Nat} {S : z_Shp} {v : z_Dat} {Q : Option Value → z_Shp → z_Dat → Prop} {x1 : Int32} {x2 : Int32} {x3 : Int32} (hL : z_L S)
    (h : z_J G d mX10_canBeDrawn (0, [.ref 0, .int x1, .int x2], [], S, v) (fun r S1 v1 => ∃ y1 : Int32, r = some (.int y1) ∧ S1 = S ∧ ((¬ y1 = 0 → (z_J G d mX2_keep (0, [.ref 59, .ref 37], [], S, v1) (fun r S1 v2 => r = none ∧ z_J G (d + 1) mX10_drawn (22, [.ref 0, .int x1, .int x2, .int x3], [], S1, v2) Q))) ∧ (y1 = 0 → (Q (some (.int (-1))) S v1))))) :
    z_J G (d + 1) mX10_drawn (0, [.ref 0, .int x1, .int x2, .int x3], [], S, v) Q := by
  refine zj_aload_n dX10_drawn_0 rfl rfl ?_
  refine zj_iload_n dX10_drawn_1 rfl rfl ?_
  refine zj_iload_n dX10_drawn_2 rfl rfl ?_
  refine zj_callV (M' := mX10_canBeDrawn) (avs := [.int x1, .int x2]) (st := []) (ci := 10) dX10_drawn_3 wm_X10_canBeDrawn wl_X10_334 wi_X10_canBeDrawn ws_X10_canBeDrawn (by decide) (zk_0 hL) rfl rfl (by decide) rfl (Nat.le_of_ble_eq_true rfl) (Nat.le_of_ble_eq_true rfl) ⟨Or.inl (z_k0 (zk_0 hL)), trivial⟩ trivial (z_J.mono h (fun r S1 v1 hq => ?_))
  obtain ⟨y1, rfl, rfl, h⟩ := hq
  refine zj_if_ne (tgt := 11) dX10_drawn_6 (by decide) (fun c => ?_) (fun c => ?_)
  · replace h := h.1 c
    refine zj_aload_n dX10_drawn_11 rfl rfl ?_
    refine zj_getR (ci := 10) (j := 6) dX10_drawn_12 wf_X10_44 (by decide) (by decide) (zk_0 hL) rfl (zr_0_6 hL) ?_
    refine zj_aload_n dX10_drawn_15 rfl rfl ?_
    refine zj_getR (ci := 10) (j := 2) dX10_drawn_16 wf_X10_26 (by decide) (by decide) (zk_0 hL) rfl (zr_0_2 hL) ?_
    refine zj_callV (M' := mX2_keep) (avs := [.ref 37]) (st := []) (ci := 2) dX10_drawn_19 wm_X2_keep wl_X10_126 wi_X2_keep ws_X2_keep (by decide) (zk_59 hL) rfl rfl (by decide) rfl (Nat.le_of_ble_eq_true rfl) (Nat.le_of_ble_eq_true rfl) ⟨Or.inl (z_k0 (zk_0 hL)), trivial⟩ trivial (z_J.mono h (fun r S1 v2 hq => ?_))
    obtain ⟨rfl, h⟩ := hq
    exact h
  · replace h := h.2 c
    refine zj_iconst (x := (-1)) dX10_drawn_9 rfl ?_
    exact zj_iret dX10_drawn_10 rfl rfl h
theorem sg_X10_drawn_22 {G : z_G} {d : Nat} {S : z_Shp} {v : z_Dat} {Q : Option Value → z_Shp → z_Dat → Prop} {x1 : Int32} {x2 : Int32} {x3 : Int32} (hL : z_L S)
    (h : z_J G d mX0_drawRounds (0, [.ref 37, .int x1, .int x2, .int x3, .null, .null, .null, .null, .null], [], S, v) (fun r S1 v1 => ∃ y1 : Int32, r = some (.int y1) ∧ S1 = S ∧ (Q (some (.int y1)) S v1))) :
    z_J G (d + 1) mX10_drawn (22, [.ref 0, .int x1, .int x2, .int x3], [], S, v) Q := by
  refine zj_aload_n dX10_drawn_22 rfl rfl ?_
  refine zj_getR (ci := 10) (j := 2) dX10_drawn_23 wf_X10_26 (by decide) (by decide) (zk_0 hL) rfl (zr_0_2 hL) ?_
  refine zj_iload_n dX10_drawn_26 rfl rfl ?_
  refine zj_iload_n dX10_drawn_27 rfl rfl ?_
  refine zj_iload_n dX10_drawn_28 rfl rfl ?_
  refine zj_callV (M' := mX0_drawRounds) (avs := [.int x1, .int x2, .int x3]) (st := []) (ci := 0) dX10_drawn_29 wm_X0_drawRounds wl_X10_337 wi_X0_drawRounds ws_X0_drawRounds (by decide) (zk_37 hL) rfl rfl (by decide) rfl (Nat.le_of_ble_eq_true rfl) (Nat.le_of_ble_eq_true rfl) ⟨Or.inl (z_k0 (zk_0 hL)), trivial⟩ trivial (z_J.mono h (fun r S1 v1 hq => ?_))
  obtain ⟨y1, rfl, rfl, h⟩ := hq
  exact zj_iret dX10_drawn_32 rfl rfl h
theorem sg_X10_edges_0 {G : z_G} {d : Nat} {S : z_Shp} {v : z_Dat} {Q : Option Value → z_Shp → z_Dat → Prop} {x1 : Int32} (hL : z_L S)
    (h : ((x1 = 0 ∨ x1 = 1) → (z_J G d mX4_spread (0, [.ref 149, .ref 37, .int x1, .null], [], S, v) (fun r S1 v1 => r = none ∧ S1 = S ∧ (Q (some (.int (v1 149 2))) S v1)))) ∧ (¬ (x1 = 0 ∨ x1 = 1) → (Q (some (.int (-1))) S v))) :
    z_J G (d + 1) mX10_edges (0, [.ref 0, .int x1], [], S, v) Q := by
  refine zj_iload_n dX10_edges_0 rfl rfl ?_
  refine zj_callS (M' := mX10_isKind) (avs := [.int x1]) (st := []) dX10_edges_1 wm_X10_isKind wl_X10_181 wt_X10_isKind rfl (by decide) rfl (Nat.le_of_ble_eq_true rfl) (Nat.le_of_ble_eq_true rfl) ⟨Or.inl (z_k0 (zk_0 hL)), trivial⟩ trivial (hp_X10_isKind (fun c => ?_) (fun c => ?_))
  · replace h := h.1 c
    refine zj_if_ne (tgt := 9) dX10_edges_4 (by decide) (fun _ => ?_) (fun q => absurd q (by decide))
    refine zj_aload_n dX10_edges_9 rfl rfl ?_
    refine zj_getR (ci := 10) (j := 8) dX10_edges_10 wf_X10_58 (by decide) (by decide) (zk_0 hL) rfl (zr_0_8 hL) ?_
    refine zj_aload_n dX10_edges_13 rfl rfl ?_
    refine zj_getR (ci := 10) (j := 2) dX10_edges_14 wf_X10_26 (by decide) (by decide) (zk_0 hL) rfl (zr_0_2 hL) ?_
    refine zj_iload_n dX10_edges_17 rfl rfl ?_
    refine zj_callV (M' := mX4_spread) (avs := [.ref 37, .int x1]) (st := []) (ci := 4) dX10_edges_18 wm_X4_spread wl_X10_191 wi_X4_spread ws_X4_spread (by decide) (zk_149 hL) rfl rfl (by decide) rfl (Nat.le_of_ble_eq_true rfl) (Nat.le_of_ble_eq_true rfl) ⟨Or.inl (z_k0 (zk_0 hL)), trivial⟩ trivial (z_J.mono h (fun r S1 v1 hq => ?_))
    obtain ⟨rfl, rfl, h⟩ := hq
    refine zj_aload_n dX10_edges_21 rfl rfl ?_
    refine zj_getR (ci := 10) (j := 8) dX10_edges_22 wf_X10_58 (by decide) (by decide) (zk_0 hL) rfl (zr_0_8 hL) ?_
    refine zj_getI (ci := 4) (j := 2) dX10_edges_25 wf_X10_267 (by decide) (by decide) (zk_149 hL) rfl ?_
    exact zj_iret dX10_edges_28 rfl rfl h
  · replace h := h.2 c
    refine zj_if_ne (tgt := 9) dX10_edges_4 (by decide) (fun q => absurd (by decide) q) (fun _ => ?_)
    refine zj_iconst (x := (-1)) dX10_edges_7 rfl ?_
    exact zj_iret dX10_edges_8 rfl rfl h
theorem sg_X10_end_0 {G : z_G} {d : Nat} {S : z_Shp} {v : z_Dat} {Q : Option Value → z_Shp → z_Dat → Prop} {x1 : Int32} (hL : z_L S)
    (h : (x1 < 0 → (Q (some (.int 0)) S v)) ∧ (¬ x1 < 0 → ((x1 ≤ (v 141 0) → (∀ v1, v1 = z_u v 141 0 x1 → (Q (some (.int 1)) S v1))) ∧ (¬ x1 ≤ (v 141 0) → (Q (some (.int 0)) S v))))) :
    z_J G d mX10_end (0, [.ref 0, .int x1], [], S, v) Q := by
  refine zj_iload_n dX10_end_0 rfl rfl ?_
  refine zj_if_lt (tgt := 15) dX10_end_1 (by decide) (fun c => ?_) (fun c => ?_)
  · replace h := h.1 c
    refine zj_iconst (x := 0) dX10_end_15 rfl ?_
    exact zj_iret dX10_end_16 rfl (by decide) h
  · replace h := h.2 c
    refine zj_iload_n dX10_end_4 rfl rfl ?_
    refine zj_aload_n dX10_end_5 rfl rfl ?_
    refine zj_getR (ci := 10) (j := 7) dX10_end_6 wf_X10_51 (by decide) (by decide) (zk_0 hL) rfl (zr_0_7 hL) ?_
    refine zj_getI (ci := 6) (j := 0) dX10_end_9 wf_X10_97 (by decide) (by decide) (zk_141 hL) rfl ?_
    refine zj_icmp_le (tgt := 17) dX10_end_12 (by decide) (fun c => ?_) (fun c => ?_)
    · replace h := h.1 c
      refine zj_aload_n dX10_end_17 rfl rfl ?_
      refine zj_getR (ci := 10) (j := 7) dX10_end_18 wf_X10_51 (by decide) (by decide) (zk_0 hL) rfl (zr_0_7 hL) ?_
      refine zj_iload_n dX10_end_21 rfl rfl ?_
      refine zj_putI (ci := 6) (j := 0) dX10_end_22 wf_X10_97 (by decide) (by decide) (zk_141 hL) rfl rfl rfl rfl (fun v1 ev1 => ?_)
      replace h := h v1 ev1
      refine zj_iconst (x := 1) dX10_end_25 rfl ?_
      exact zj_iret dX10_end_26 rfl (by decide) h
    · replace h := h.2 c
      refine zj_iconst (x := 0) dX10_end_15 rfl ?_
      exact zj_iret dX10_end_16 rfl (by decide) h
theorem sg_X10_event_0 {G : z_G} {d : Nat} {S : z_Shp} {v : z_Dat} {Q : Option Value → z_Shp → z_Dat → Prop} {x1 : Int32} {x2 : Int32} {x3 : Int32} (hL : z_L S)
    (h : ((x1 = 0 ∨ x1 = 1) → (z_J G d mX4_spread (0, [.ref 149, .ref 37, .int x1, .null], [], S, v) (fun r S1 v1 => r = none ∧ S1 = S ∧ (((0 ≤ x2 ∧ x2 < v1 149 3) → ((x3 < 0 → (Q (some (.int (-1))) S v1)) ∧ (¬ x3 < 0 → ((x3 ≤ 1 → ((¬ x3 = 0 → ((vp_in x2 108) ∧ (Q (some (.int (v1 156 x2.toNatClampNeg))) S v1))) ∧ (x3 = 0 → ((vp_in x2 108) ∧ (Q (some (.int (v1 155 x2.toNatClampNeg))) S v1))))) ∧ (¬ x3 ≤ 1 → (Q (some (.int (-1))) S v1)))))) ∧ (¬ (0 ≤ x2 ∧ x2 < v1 149 3) → (Q (some (.int (-1))) S v1)))))) ∧ (¬ (x1 = 0 ∨ x1 = 1) → (Q (some (.int (-1))) S v))) :
    z_J G (d + 1) mX10_event (0, [.ref 0, .int x1, .int x2, .int x3], [], S, v) Q := by
  refine zj_iload_n dX10_event_0 rfl rfl ?_
  refine zj_callS (M' := mX10_isKind) (avs := [.int x1]) (st := []) dX10_event_1 wm_X10_isKind wl_X10_181 wt_X10_isKind rfl (by decide) rfl (Nat.le_of_ble_eq_true rfl) (Nat.le_of_ble_eq_true rfl) ⟨Or.inl (z_k0 (zk_0 hL)), trivial⟩ trivial (hp_X10_isKind (fun c => ?_) (fun c => ?_))
  · replace h := h.1 c
    refine zj_if_ne (tgt := 9) dX10_event_4 (by decide) (fun _ => ?_) (fun q => absurd q (by decide))
    refine zj_aload_n dX10_event_9 rfl rfl ?_
    refine zj_getR (ci := 10) (j := 8) dX10_event_10 wf_X10_58 (by decide) (by decide) (zk_0 hL) rfl (zr_0_8 hL) ?_
    refine zj_aload_n dX10_event_13 rfl rfl ?_
    refine zj_getR (ci := 10) (j := 2) dX10_event_14 wf_X10_26 (by decide) (by decide) (zk_0 hL) rfl (zr_0_2 hL) ?_
    refine zj_iload_n dX10_event_17 rfl rfl ?_
    refine zj_callV (M' := mX4_spread) (avs := [.ref 37, .int x1]) (st := []) (ci := 4) dX10_event_18 wm_X4_spread wl_X10_191 wi_X4_spread ws_X4_spread (by decide) (zk_149 hL) rfl rfl (by decide) rfl (Nat.le_of_ble_eq_true rfl) (Nat.le_of_ble_eq_true rfl) ⟨Or.inl (z_k0 (zk_0 hL)), trivial⟩ trivial (z_J.mono h (fun r S1 v1 hq => ?_))
    obtain ⟨rfl, rfl, h⟩ := hq
    refine zj_aload_n dX10_event_21 rfl rfl ?_
    refine zj_getR (ci := 10) (j := 8) dX10_event_22 wf_X10_58 (by decide) (by decide) (zk_0 hL) rfl (zr_0_8 hL) ?_
    refine zj_iload_n dX10_event_25 rfl rfl ?_
    refine zj_callV (M' := mX4_hasEvent) (avs := [.int x2]) (st := []) (ci := 4) dX10_event_26 wm_X4_hasEvent wl_X10_198 wi_X4_hasEvent ws_X4_hasEvent (by decide) (zk_149 hL) rfl rfl (by decide) rfl (Nat.le_of_ble_eq_true rfl) (Nat.le_of_ble_eq_true rfl) ⟨Or.inl (z_k0 (zk_0 hL)), trivial⟩ trivial (hp_X4_hasEvent hL (fun c => ?_) (fun c => ?_))
    · replace h := h.1 c
      refine zj_if_eq (tgt := 41) dX10_event_29 (by decide) (fun q => absurd q (by decide)) (fun _ => ?_)
      refine zj_iload_n dX10_event_32 rfl rfl ?_
      refine zj_if_lt (tgt := 41) dX10_event_33 (by decide) (fun c => ?_) (fun c => ?_)
      · replace h := h.1 c
        refine zj_iconst (x := (-1)) dX10_event_41 rfl ?_
        exact zj_iret dX10_event_42 rfl rfl h
      · replace h := h.2 c
        refine zj_iload_n dX10_event_36 rfl rfl ?_
        refine zj_iconst (x := 1) dX10_event_37 rfl ?_
        refine zj_icmp_le (tgt := 43) dX10_event_38 (by decide) (fun c => ?_) (fun c => ?_)
        · replace h := h.1 c
          refine zj_iload_n dX10_event_43 rfl rfl ?_
          refine zj_if_ne (tgt := 59) dX10_event_44 (by decide) (fun c => ?_) (fun c => ?_)
          · replace h := h.1 c
            refine zj_aload_n dX10_event_59 rfl rfl ?_
            refine zj_getR (ci := 10) (j := 8) dX10_event_60 wf_X10_58 (by decide) (by decide) (zk_0 hL) rfl (zr_0_8 hL) ?_
            refine zj_getR (ci := 4) (j := 10) dX10_event_63 wf_X10_204 (by decide) (by decide) (zk_149 hL) rfl (zr_149_10 hL) ?_
            refine zj_iload_n dX10_event_66 rfl rfl ?_
            refine zj_iaload dX10_event_67 (zk_156 hL) (by rw [(zl_156 hL)]; exact h.1) ?_
            replace h := h.2
            exact zj_iret dX10_event_68 rfl rfl h
          · replace h := h.2 c
            refine zj_aload_n dX10_event_47 rfl rfl ?_
            refine zj_getR (ci := 10) (j := 8) dX10_event_48 wf_X10_58 (by decide) (by decide) (zk_0 hL) rfl (zr_0_8 hL) ?_
            refine zj_getR (ci := 4) (j := 9) dX10_event_51 wf_X10_201 (by decide) (by decide) (zk_149 hL) rfl (zr_149_9 hL) ?_
            refine zj_iload_n dX10_event_54 rfl rfl ?_
            refine zj_iaload dX10_event_55 (zk_155 hL) (by rw [(zl_155 hL)]; exact h.1) ?_
            replace h := h.2
            refine zj_goto (tgt := 68) dX10_event_56 (by decide) ?_
            exact zj_iret dX10_event_68 rfl rfl h
        · replace h := h.2 c
          refine zj_iconst (x := (-1)) dX10_event_41 rfl ?_
          exact zj_iret dX10_event_42 rfl rfl h
    · replace h := h.2 c
      refine zj_if_eq (tgt := 41) dX10_event_29 (by decide) (fun _ => ?_) (fun q => absurd (by decide) q)
      refine zj_iconst (x := (-1)) dX10_event_41 rfl ?_
      exact zj_iret dX10_event_42 rfl rfl h
  · replace h := h.2 c
    refine zj_if_ne (tgt := 9) dX10_event_4 (by decide) (fun q => absurd (by decide) q) (fun _ => ?_)
    refine zj_iconst (x := (-1)) dX10_event_7 rfl ?_
    exact zj_iret dX10_event_8 rfl rfl h
theorem sg_X10_events_0 {G : z_G} {d : Nat} {S : z_Shp} {v : z_Dat} {Q : Option Value → z_Shp → z_Dat → Prop} {x1 : Int32} (hL : z_L S)
    (h : ((x1 = 0 ∨ x1 = 1) → (z_J G d mX4_spread (0, [.ref 149, .ref 37, .int x1, .null], [], S, v) (fun r S1 v1 => r = none ∧ S1 = S ∧ (Q (some (.int (v1 149 3))) S v1)))) ∧ (¬ (x1 = 0 ∨ x1 = 1) → (Q (some (.int (-1))) S v))) :
    z_J G (d + 1) mX10_events (0, [.ref 0, .int x1], [], S, v) Q := by
  refine zj_iload_n dX10_events_0 rfl rfl ?_
  refine zj_callS (M' := mX10_isKind) (avs := [.int x1]) (st := []) dX10_events_1 wm_X10_isKind wl_X10_181 wt_X10_isKind rfl (by decide) rfl (Nat.le_of_ble_eq_true rfl) (Nat.le_of_ble_eq_true rfl) ⟨Or.inl (z_k0 (zk_0 hL)), trivial⟩ trivial (hp_X10_isKind (fun c => ?_) (fun c => ?_))
  · replace h := h.1 c
    refine zj_if_ne (tgt := 9) dX10_events_4 (by decide) (fun _ => ?_) (fun q => absurd q (by decide))
    refine zj_aload_n dX10_events_9 rfl rfl ?_
    refine zj_getR (ci := 10) (j := 8) dX10_events_10 wf_X10_58 (by decide) (by decide) (zk_0 hL) rfl (zr_0_8 hL) ?_
    refine zj_aload_n dX10_events_13 rfl rfl ?_
    refine zj_getR (ci := 10) (j := 2) dX10_events_14 wf_X10_26 (by decide) (by decide) (zk_0 hL) rfl (zr_0_2 hL) ?_
    refine zj_iload_n dX10_events_17 rfl rfl ?_
    refine zj_callV (M' := mX4_spread) (avs := [.ref 37, .int x1]) (st := []) (ci := 4) dX10_events_18 wm_X4_spread wl_X10_191 wi_X4_spread ws_X4_spread (by decide) (zk_149 hL) rfl rfl (by decide) rfl (Nat.le_of_ble_eq_true rfl) (Nat.le_of_ble_eq_true rfl) ⟨Or.inl (z_k0 (zk_0 hL)), trivial⟩ trivial (z_J.mono h (fun r S1 v1 hq => ?_))
    obtain ⟨rfl, rfl, h⟩ := hq
    refine zj_aload_n dX10_events_21 rfl rfl ?_
    refine zj_getR (ci := 10) (j := 8) dX10_events_22 wf_X10_58 (by decide) (by decide) (zk_0 hL) rfl (zr_0_8 hL) ?_
    refine zj_getI (ci := 4) (j := 3) dX10_events_25 wf_X10_195 (by decide) (by decide) (zk_149 hL) rfl ?_
    exact zj_iret dX10_events_28 rfl rfl h
  · replace h := h.2 c
    refine zj_if_ne (tgt := 9) dX10_events_4 (by decide) (fun q => absurd (by decide) q) (fun _ => ?_)
    refine zj_iconst (x := (-1)) dX10_events_7 rfl ?_
    exact zj_iret dX10_events_8 rfl rfl h
theorem sg_X10_far_0 {G : z_G} {d : Nat} {S : z_Shp} {v : z_Dat} {Q : Option Value → z_Shp → z_Dat → Prop} {x1 : Int32} {x2 : Int32} {x3 : Int32} (hL : z_L S)
    (h : z_J G d mX10_findWay (0, [.ref 0, .int x1, .int x2, .int x3], [], S, v) (fun r S1 v1 => ∃ y1 : Int32, r = some (.int y1) ∧ S1 = S ∧ ((y1 = 0 → (Q (some (.int (-1))) S v1)) ∧ (¬ y1 = 0 → (Q (some (.int (v1 158 0))) S v1))))) :
    z_J G (d + 1) mX10_far (0, [.ref 0, .int x1, .int x2, .int x3], [], S, v) Q := by
  refine zj_aload_n dX10_far_0 rfl rfl ?_
  refine zj_iload_n dX10_far_1 rfl rfl ?_
  refine zj_iload_n dX10_far_2 rfl rfl ?_
  refine zj_iload_n dX10_far_3 rfl rfl ?_
  refine zj_callV (M' := mX10_findWay) (avs := [.int x1, .int x2, .int x3]) (st := []) (ci := 10) dX10_far_4 wm_X10_findWay wl_X10_207 wi_X10_findWay ws_X10_findWay (by decide) (zk_0 hL) rfl rfl (by decide) rfl (Nat.le_of_ble_eq_true rfl) (Nat.le_of_ble_eq_true rfl) ⟨Or.inl (z_k0 (zk_0 hL)), trivial⟩ trivial (z_J.mono h (fun r S1 v1 hq => ?_))
  obtain ⟨y1, rfl, rfl, h⟩ := hq
  refine zj_if_eq (tgt := 20) dX10_far_7 (by decide) (fun c => ?_) (fun c => ?_)
  · replace h := h.1 c
    refine zj_iconst (x := (-1)) dX10_far_20 rfl ?_
    exact zj_iret dX10_far_21 rfl rfl h
  · replace h := h.2 c
    refine zj_aload_n dX10_far_10 rfl rfl ?_
    refine zj_getR (ci := 10) (j := 9) dX10_far_11 wf_X10_65 (by decide) (by decide) (zk_0 hL) rfl (zr_0_9 hL) ?_
    refine zj_getI (ci := 8) (j := 0) dX10_far_14 wf_X10_211 (by decide) (by decide) (zk_158 hL) rfl ?_
    refine zj_goto (tgt := 21) dX10_far_17 (by decide) ?_
    exact zj_iret dX10_far_21 rfl rfl h
theorem sg_X10_fault_0 {G : z_G} {d : Nat} {S : z_Shp} {v : z_Dat} {Q : Option Value → z_Shp → z_Dat → Prop} (hL : z_L S)
    (h : Q (some (.int (v 141 1))) S v) :
    z_J G d mX10_fault (0, [.ref 0], [], S, v) Q := by
  refine zj_aload_n dX10_fault_0 rfl rfl ?_
  refine zj_getR (ci := 10) (j := 7) dX10_fault_1 wf_X10_51 (by decide) (by decide) (zk_0 hL) rfl (zr_0_7 hL) ?_
  refine zj_getI (ci := 6) (j := 1) dX10_fault_4 wf_X10_134 (by decide) (by decide) (zk_141 hL) rfl ?_
  exact zj_iret dX10_fault_7 rfl rfl h
theorem sg_X10_feed_0 {G : z_G} {d : Nat} {S : z_Shp} {v : z_Dat} {Q : Option Value → z_Shp → z_Dat → Prop} {x1 : Int32} {x2 : Int32} {x3 : Int32} {x4 : Int32} {x5 : Int32} (hL : z_L S)
    (h : ((v 141 0) ≤ 220 → (z_J G d mX6_put (0, [.ref 141, .int x1, .null], [], S, v) (fun r S1 v1 => r = none ∧ S1 = S ∧ (z_J G d mX6_put (0, [.ref 141, .int x2, .null], [], S, v1) (fun r S1 v2 => r = none ∧ S1 = S ∧ (z_J G d mX6_put (0, [.ref 141, .int x3, .null], [], S, v2) (fun r S1 v3 => r = none ∧ S1 = S ∧ (z_J G d mX6_put (0, [.ref 141, .int x4, .null], [], S, v3) (fun r S1 v4 => r = none ∧ S1 = S ∧ (z_J G d mX6_put (0, [.ref 141, .int x5, .null], [], S, v4) (fun r S1 v5 => r = none ∧ S1 = S ∧ (Q (some (.int (v5 141 0))) S v5)))))))))))) ∧ (¬ (v 141 0) ≤ 220 → (Q (some (.int (-1))) S v))) :
    z_J G (d + 1) mX10_feed (0, [.ref 0, .int x1, .int x2, .int x3, .int x4, .int x5], [], S, v) Q := by
  refine zj_aload_n dX10_feed_0 rfl rfl ?_
  refine zj_getR (ci := 10) (j := 7) dX10_feed_1 wf_X10_51 (by decide) (by decide) (zk_0 hL) rfl (zr_0_7 hL) ?_
  refine zj_getI (ci := 6) (j := 0) dX10_feed_4 wf_X10_97 (by decide) (by decide) (zk_141 hL) rfl ?_
  refine zj_sipush (x := 220) dX10_feed_7 rfl ?_
  refine zj_icmp_le (tgt := 15) dX10_feed_10 (by decide) (fun c => ?_) (fun c => ?_)
  · replace h := h.1 c
    refine zj_aload_n dX10_feed_15 rfl rfl ?_
    refine zj_getR (ci := 10) (j := 7) dX10_feed_16 wf_X10_51 (by decide) (by decide) (zk_0 hL) rfl (zr_0_7 hL) ?_
    refine zj_iload_n dX10_feed_19 rfl rfl ?_
    refine zj_callV (M' := mX6_put) (avs := [.int x1]) (st := []) (ci := 6) dX10_feed_20 wm_X6_put wl_X10_101 wi_X6_put ws_X6_put (by decide) (zk_141 hL) rfl rfl (by decide) rfl (Nat.le_of_ble_eq_true rfl) (Nat.le_of_ble_eq_true rfl) ⟨Or.inl (z_k0 (zk_0 hL)), trivial⟩ trivial (z_J.mono h (fun r S1 v1 hq => ?_))
    obtain ⟨rfl, rfl, h⟩ := hq
    refine zj_aload_n dX10_feed_23 rfl rfl ?_
    refine zj_getR (ci := 10) (j := 7) dX10_feed_24 wf_X10_51 (by decide) (by decide) (zk_0 hL) rfl (zr_0_7 hL) ?_
    refine zj_iload_n dX10_feed_27 rfl rfl ?_
    refine zj_callV (M' := mX6_put) (avs := [.int x2]) (st := []) (ci := 6) dX10_feed_28 wm_X6_put wl_X10_101 wi_X6_put ws_X6_put (by decide) (zk_141 hL) rfl rfl (by decide) rfl (Nat.le_of_ble_eq_true rfl) (Nat.le_of_ble_eq_true rfl) ⟨Or.inl (z_k0 (zk_0 hL)), trivial⟩ trivial (z_J.mono h (fun r S1 v2 hq => ?_))
    obtain ⟨rfl, rfl, h⟩ := hq
    refine zj_aload_n dX10_feed_31 rfl rfl ?_
    refine zj_getR (ci := 10) (j := 7) dX10_feed_32 wf_X10_51 (by decide) (by decide) (zk_0 hL) rfl (zr_0_7 hL) ?_
    refine zj_iload_n dX10_feed_35 rfl rfl ?_
    refine zj_callV (M' := mX6_put) (avs := [.int x3]) (st := []) (ci := 6) dX10_feed_36 wm_X6_put wl_X10_101 wi_X6_put ws_X6_put (by decide) (zk_141 hL) rfl rfl (by decide) rfl (Nat.le_of_ble_eq_true rfl) (Nat.le_of_ble_eq_true rfl) ⟨Or.inl (z_k0 (zk_0 hL)), trivial⟩ trivial (z_J.mono h (fun r S1 v3 hq => ?_))
    obtain ⟨rfl, rfl, h⟩ := hq
    refine zj_aload_n dX10_feed_39 rfl rfl ?_
    refine zj_getR (ci := 10) (j := 7) dX10_feed_40 wf_X10_51 (by decide) (by decide) (zk_0 hL) rfl (zr_0_7 hL) ?_
    refine zj_iload dX10_feed_43 rfl ?_
    refine zj_callV (M' := mX6_put) (avs := [.int x4]) (st := []) (ci := 6) dX10_feed_45 wm_X6_put wl_X10_101 wi_X6_put ws_X6_put (by decide) (zk_141 hL) rfl rfl (by decide) rfl (Nat.le_of_ble_eq_true rfl) (Nat.le_of_ble_eq_true rfl) ⟨Or.inl (z_k0 (zk_0 hL)), trivial⟩ trivial (z_J.mono h (fun r S1 v4 hq => ?_))
    obtain ⟨rfl, rfl, h⟩ := hq
    refine zj_aload_n dX10_feed_48 rfl rfl ?_
    refine zj_getR (ci := 10) (j := 7) dX10_feed_49 wf_X10_51 (by decide) (by decide) (zk_0 hL) rfl (zr_0_7 hL) ?_
    refine zj_iload dX10_feed_52 rfl ?_
    refine zj_callV (M' := mX6_put) (avs := [.int x5]) (st := []) (ci := 6) dX10_feed_54 wm_X6_put wl_X10_101 wi_X6_put ws_X6_put (by decide) (zk_141 hL) rfl rfl (by decide) rfl (Nat.le_of_ble_eq_true rfl) (Nat.le_of_ble_eq_true rfl) ⟨Or.inl (z_k0 (zk_0 hL)), trivial⟩ trivial (z_J.mono h (fun r S1 v5 hq => ?_))
    obtain ⟨rfl, rfl, h⟩ := hq
    refine zj_aload_n dX10_feed_57 rfl rfl ?_
    refine zj_getR (ci := 10) (j := 7) dX10_feed_58 wf_X10_51 (by decide) (by decide) (zk_0 hL) rfl (zr_0_7 hL) ?_
    refine zj_getI (ci := 6) (j := 0) dX10_feed_61 wf_X10_97 (by decide) (by decide) (zk_141 hL) rfl ?_
    exact zj_iret dX10_feed_64 rfl rfl h
  · replace h := h.2 c
    refine zj_iconst (x := (-1)) dX10_feed_13 rfl ?_
    exact zj_iret dX10_feed_14 rfl rfl h
theorem sg_X10_fewest_0 {G : z_G} {d : Nat} {S : z_Shp} {v : z_Dat} {Q : Option Value → z_Shp → z_Dat → Prop} {x1 : Int32} {x2 : Int32} {w_37 : Nat} (hL : z_L S) (rw_37 : z_r S 37 0 = some w_37) (hw_37 : z_isW w_37)
    (h : ((x1 = 0 ∨ x1 = 1) → (((x2 = 0 ∨ x2 = 1) → (z_J G d mX3_countSizes (0, [.ref 195, .ref 37, .int x1, .int x2, .null, .null, .null, .null], [], S, v) (fun r S1 v1 => r = none ∧ S1 = S ∧ (z_J G d mX3_leastSize (0, [.ref 195, .int (v1 w_37 1), .null], [], S, v1) (fun r S1 v2 => ∃ y1 : Int32, r = some (.int y1) ∧ S1 = S ∧ (Q (some (.int y1)) S v2)))))) ∧ (¬ (x2 = 0 ∨ x2 = 1) → (Q (some (.int (-1))) S v)))) ∧ (¬ (x1 = 0 ∨ x1 = 1) → (Q (some (.int (-1))) S v))) :
    z_J G (d + 1) mX10_fewest (0, [.ref 0, .int x1, .int x2], [], S, v) Q := by
  refine zj_iload_n dX10_fewest_0 rfl rfl ?_
  refine zj_callS (M' := mX10_isKind) (avs := [.int x1]) (st := []) dX10_fewest_1 wm_X10_isKind wl_X10_181 wt_X10_isKind rfl (by decide) rfl (Nat.le_of_ble_eq_true rfl) (Nat.le_of_ble_eq_true rfl) ⟨Or.inl (z_k0 (zk_0 hL)), trivial⟩ trivial (hp_X10_isKind (fun c => ?_) (fun c => ?_))
  · replace h := h.1 c
    refine zj_if_eq (tgt := 14) dX10_fewest_4 (by decide) (fun q => absurd q (by decide)) (fun _ => ?_)
    refine zj_iload_n dX10_fewest_7 rfl rfl ?_
    refine zj_callS (M' := mX10_isLogical) (avs := [.int x2]) (st := []) dX10_fewest_8 wm_X10_isLogical wl_X10_297 wt_X10_isLogical rfl (by decide) rfl (Nat.le_of_ble_eq_true rfl) (Nat.le_of_ble_eq_true rfl) ⟨Or.inl (z_k0 (zk_0 hL)), trivial⟩ trivial (hp_X10_isLogical (fun c => ?_) (fun c => ?_))
    · replace h := h.1 c
      refine zj_if_ne (tgt := 16) dX10_fewest_11 (by decide) (fun _ => ?_) (fun q => absurd q (by decide))
      refine zj_aload_n dX10_fewest_16 rfl rfl ?_
      refine zj_getR (ci := 10) (j := 12) dX10_fewest_17 wf_X10_86 (by decide) (by decide) (zk_0 hL) rfl (zr_0_12 hL) ?_
      refine zj_aload_n dX10_fewest_20 rfl rfl ?_
      refine zj_getR (ci := 10) (j := 2) dX10_fewest_21 wf_X10_26 (by decide) (by decide) (zk_0 hL) rfl (zr_0_2 hL) ?_
      refine zj_iload_n dX10_fewest_24 rfl rfl ?_
      refine zj_iload_n dX10_fewest_25 rfl rfl ?_
      refine zj_callV (M' := mX3_countSizes) (avs := [.ref 37, .int x1, .int x2]) (st := []) (ci := 3) dX10_fewest_26 wm_X3_countSizes wl_X10_300 wi_X3_countSizes ws_X3_countSizes (by decide) (zk_195 hL) rfl rfl (by decide) rfl (Nat.le_of_ble_eq_true rfl) (Nat.le_of_ble_eq_true rfl) ⟨Or.inl (z_k0 (zk_0 hL)), trivial⟩ trivial (z_J.mono h (fun r S1 v1 hq => ?_))
      obtain ⟨rfl, rfl, h⟩ := hq
      refine zj_aload_n dX10_fewest_29 rfl rfl ?_
      refine zj_getR (ci := 10) (j := 12) dX10_fewest_30 wf_X10_86 (by decide) (by decide) (zk_0 hL) rfl (zr_0_12 hL) ?_
      refine zj_aload_n dX10_fewest_33 rfl rfl ?_
      refine zj_getR (ci := 10) (j := 2) dX10_fewest_34 wf_X10_26 (by decide) (by decide) (zk_0 hL) rfl (zr_0_2 hL) ?_
      refine zj_getR (ci := 0) (j := 0) dX10_fewest_37 wf_X10_113 (by decide) (by decide) (zk_37 hL) rfl rw_37 ?_
      refine zj_getI (ci := 9) (j := 1) dX10_fewest_40 wf_X10_116 (by decide) (by decide) (zWk0 hL hw_37) rfl ?_
      refine zj_callV (M' := mX3_leastSize) (avs := [.int (v1 w_37 1)]) (st := []) (ci := 3) dX10_fewest_43 wm_X3_leastSize wl_X10_331 wi_X3_leastSize ws_X3_leastSize (by decide) (zk_195 hL) rfl rfl (by decide) rfl (Nat.le_of_ble_eq_true rfl) (Nat.le_of_ble_eq_true rfl) ⟨Or.inl (z_k0 (zk_0 hL)), trivial⟩ trivial (z_J.mono h (fun r S1 v2 hq => ?_))
      obtain ⟨y1, rfl, rfl, h⟩ := hq
      exact zj_iret dX10_fewest_46 rfl rfl h
    · replace h := h.2 c
      refine zj_if_ne (tgt := 16) dX10_fewest_11 (by decide) (fun q => absurd (by decide) q) (fun _ => ?_)
      refine zj_iconst (x := (-1)) dX10_fewest_14 rfl ?_
      exact zj_iret dX10_fewest_15 rfl rfl h
  · replace h := h.2 c
    refine zj_if_eq (tgt := 14) dX10_fewest_4 (by decide) (fun _ => ?_) (fun q => absurd (by decide) q)
    refine zj_iconst (x := (-1)) dX10_fewest_14 rfl ?_
    exact zj_iret dX10_fewest_15 rfl rfl h
theorem sg_X10_findWay_0 {G : z_G} {d : Nat} {S : z_Shp} {v : z_Dat} {Q : Option Value → z_Shp → z_Dat → Prop} {x1 : Int32} {x2 : Int32} {x3 : Int32} (hL : z_L S)
    (h : ((x1 = 0 ∨ x1 = 1) → ((¬ x2 = x3 → (z_J G d mX4_spread (0, [.ref 149, .ref 37, .int x1, .null], [], S, v) (fun r S1 v1 => r = none ∧ S1 = S ∧ (((0 ≤ x2 ∧ x2 < v1 149 3) → ((x3 = (-1) → ((vp_in x2 108) ∧ ((¬ x3 = (-1) → ((vp_in x3 108) ∧ (z_J G d mX8_seek (0, [.ref 158, .ref 149, .int (v1 157 x2.toNatClampNeg), .int (v1 157 x3.toNatClampNeg)], [], S, v1) (fun r S1 v2 => r = none ∧ S1 = S ∧ (Q (some (.int 1)) S v2))))) ∧ (x3 = (-1) → (z_J G d mX8_seek (0, [.ref 158, .ref 149, .int (v1 157 x2.toNatClampNeg), .int (v1 149 1)], [], S, v1) (fun r S1 v3 => r = none ∧ S1 = S ∧ (Q (some (.int 1)) S v3))))))) ∧ (¬ x3 = (-1) → (((0 ≤ x3 ∧ x3 < v1 149 3) → ((vp_in x2 108) ∧ ((¬ x3 = (-1) → ((vp_in x3 108) ∧ (z_J G d mX8_seek (0, [.ref 158, .ref 149, .int (v1 157 x2.toNatClampNeg), .int (v1 157 x3.toNatClampNeg)], [], S, v1) (fun r S1 v4 => r = none ∧ S1 = S ∧ (Q (some (.int 1)) S v4))))) ∧ (x3 = (-1) → (z_J G d mX8_seek (0, [.ref 158, .ref 149, .int (v1 157 x2.toNatClampNeg), .int (v1 149 1)], [], S, v1) (fun r S1 v5 => r = none ∧ S1 = S ∧ (Q (some (.int 1)) S v5))))))) ∧ (¬ (0 ≤ x3 ∧ x3 < v1 149 3) → (Q (some (.int 0)) S v1)))))) ∧ (¬ (0 ≤ x2 ∧ x2 < v1 149 3) → (Q (some (.int 0)) S v1)))))) ∧ (x2 = x3 → (Q (some (.int 0)) S v)))) ∧ (¬ (x1 = 0 ∨ x1 = 1) → (Q (some (.int 0)) S v))) :
    z_J G (d + 1) mX10_findWay (0, [.ref 0, .int x1, .int x2, .int x3], [], S, v) Q := by
  refine zj_iload_n dX10_findWay_0 rfl rfl ?_
  refine zj_callS (M' := mX10_isKind) (avs := [.int x1]) (st := []) dX10_findWay_1 wm_X10_isKind wl_X10_181 wt_X10_isKind rfl (by decide) rfl (Nat.le_of_ble_eq_true rfl) (Nat.le_of_ble_eq_true rfl) ⟨Or.inl (z_k0 (zk_0 hL)), trivial⟩ trivial (hp_X10_isKind (fun c => ?_) (fun c => ?_))
  · replace h := h.1 c
    refine zj_if_eq (tgt := 12) dX10_findWay_4 (by decide) (fun q => absurd q (by decide)) (fun _ => ?_)
    refine zj_iload_n dX10_findWay_7 rfl rfl ?_
    refine zj_iload_n dX10_findWay_8 rfl rfl ?_
    refine zj_icmp_ne (tgt := 14) dX10_findWay_9 (by decide) (fun c => ?_) (fun c => ?_)
    · replace h := h.1 c
      refine zj_aload_n dX10_findWay_14 rfl rfl ?_
      refine zj_getR (ci := 10) (j := 8) dX10_findWay_15 wf_X10_58 (by decide) (by decide) (zk_0 hL) rfl (zr_0_8 hL) ?_
      refine zj_aload_n dX10_findWay_18 rfl rfl ?_
      refine zj_getR (ci := 10) (j := 2) dX10_findWay_19 wf_X10_26 (by decide) (by decide) (zk_0 hL) rfl (zr_0_2 hL) ?_
      refine zj_iload_n dX10_findWay_22 rfl rfl ?_
      refine zj_callV (M' := mX4_spread) (avs := [.ref 37, .int x1]) (st := []) (ci := 4) dX10_findWay_23 wm_X4_spread wl_X10_191 wi_X4_spread ws_X4_spread (by decide) (zk_149 hL) rfl rfl (by decide) rfl (Nat.le_of_ble_eq_true rfl) (Nat.le_of_ble_eq_true rfl) ⟨Or.inl (z_k0 (zk_0 hL)), trivial⟩ trivial (z_J.mono h (fun r S1 v1 hq => ?_))
      obtain ⟨rfl, rfl, h⟩ := hq
      refine zj_aload_n dX10_findWay_26 rfl rfl ?_
      refine zj_getR (ci := 10) (j := 8) dX10_findWay_27 wf_X10_58 (by decide) (by decide) (zk_0 hL) rfl (zr_0_8 hL) ?_
      refine zj_iload_n dX10_findWay_30 rfl rfl ?_
      refine zj_callV (M' := mX4_hasEvent) (avs := [.int x2]) (st := []) (ci := 4) dX10_findWay_31 wm_X4_hasEvent wl_X10_198 wi_X4_hasEvent ws_X4_hasEvent (by decide) (zk_149 hL) rfl rfl (by decide) rfl (Nat.le_of_ble_eq_true rfl) (Nat.le_of_ble_eq_true rfl) ⟨Or.inl (z_k0 (zk_0 hL)), trivial⟩ trivial (hp_X4_hasEvent hL (fun c => ?_) (fun c => ?_))
      · replace h := h.1 c
        refine zj_if_eq (tgt := 53) dX10_findWay_34 (by decide) (fun q => absurd q (by decide)) (fun _ => ?_)
        refine zj_iload_n dX10_findWay_37 rfl rfl ?_
        refine zj_iconst (x := (-1)) dX10_findWay_38 rfl ?_
        refine zj_icmp_eq (tgt := 55) dX10_findWay_39 (by decide) (fun c => ?_) (fun c => ?_)
        · replace h := h.1 c
          refine zj_aload_n dX10_findWay_55 rfl rfl ?_
          refine zj_getR (ci := 10) (j := 9) dX10_findWay_56 wf_X10_65 (by decide) (by decide) (zk_0 hL) rfl (zr_0_9 hL) ?_
          refine zj_aload_n dX10_findWay_59 rfl rfl ?_
          refine zj_getR (ci := 10) (j := 8) dX10_findWay_60 wf_X10_58 (by decide) (by decide) (zk_0 hL) rfl (zr_0_8 hL) ?_
          refine zj_aload_n dX10_findWay_63 rfl rfl ?_
          refine zj_getR (ci := 10) (j := 8) dX10_findWay_64 wf_X10_58 (by decide) (by decide) (zk_0 hL) rfl (zr_0_8 hL) ?_
          refine zj_getR (ci := 4) (j := 11) dX10_findWay_67 wf_X10_347 (by decide) (by decide) (zk_149 hL) rfl (zr_149_11 hL) ?_
          refine zj_iload_n dX10_findWay_70 rfl rfl ?_
          refine zj_iaload dX10_findWay_71 (zk_157 hL) (by rw [(zl_157 hL)]; exact h.1) ?_
          replace h := h.2
          refine zj_iload_n dX10_findWay_72 rfl rfl ?_
          refine zj_iconst (x := (-1)) dX10_findWay_73 rfl ?_
          refine zj_icmp_ne (tgt := 87) dX10_findWay_74 (by decide) (fun c => ?_) (fun c => ?_)
          · replace h := h.1 c
            refine zj_aload_n dX10_findWay_87 rfl rfl ?_
            refine zj_getR (ci := 10) (j := 8) dX10_findWay_88 wf_X10_58 (by decide) (by decide) (zk_0 hL) rfl (zr_0_8 hL) ?_
            refine zj_getR (ci := 4) (j := 11) dX10_findWay_91 wf_X10_347 (by decide) (by decide) (zk_149 hL) rfl (zr_149_11 hL) ?_
            refine zj_iload_n dX10_findWay_94 rfl rfl ?_
            refine zj_iaload dX10_findWay_95 (zk_157 hL) (by rw [(zl_157 hL)]; exact h.1) ?_
            replace h := h.2
            refine zj_callV (M' := mX8_seek) (avs := [.ref 149, .int (v1 157 x2.toNatClampNeg), .int (v1 157 x3.toNatClampNeg)]) (st := []) (ci := 8) dX10_findWay_96 wm_X8_seek wl_X10_350 wi_X8_seek ws_X8_seek (by decide) (zk_158 hL) rfl rfl (by decide) rfl (Nat.le_of_ble_eq_true rfl) (Nat.le_of_ble_eq_true rfl) ⟨Or.inl (z_k0 (zk_0 hL)), trivial⟩ trivial (z_J.mono h (fun r S1 v2 hq => ?_))
            obtain ⟨rfl, rfl, h⟩ := hq
            refine zj_iconst (x := 1) dX10_findWay_99 rfl ?_
            exact zj_iret dX10_findWay_100 rfl (by decide) h
          · replace h := h.2 c
            refine zj_aload_n dX10_findWay_77 rfl rfl ?_
            refine zj_getR (ci := 10) (j := 8) dX10_findWay_78 wf_X10_58 (by decide) (by decide) (zk_0 hL) rfl (zr_0_8 hL) ?_
            refine zj_getI (ci := 4) (j := 1) dX10_findWay_81 wf_X10_276 (by decide) (by decide) (zk_149 hL) rfl ?_
            refine zj_goto (tgt := 96) dX10_findWay_84 (by decide) ?_
            refine zj_callV (M' := mX8_seek) (avs := [.ref 149, .int (v1 157 x2.toNatClampNeg), .int (v1 149 1)]) (st := []) (ci := 8) dX10_findWay_96 wm_X8_seek wl_X10_350 wi_X8_seek ws_X8_seek (by decide) (zk_158 hL) rfl rfl (by decide) rfl (Nat.le_of_ble_eq_true rfl) (Nat.le_of_ble_eq_true rfl) ⟨Or.inl (z_k0 (zk_0 hL)), trivial⟩ trivial (z_J.mono h (fun r S1 v3 hq => ?_))
            obtain ⟨rfl, rfl, h⟩ := hq
            refine zj_iconst (x := 1) dX10_findWay_99 rfl ?_
            exact zj_iret dX10_findWay_100 rfl (by decide) h
        · replace h := h.2 c
          refine zj_aload_n dX10_findWay_42 rfl rfl ?_
          refine zj_getR (ci := 10) (j := 8) dX10_findWay_43 wf_X10_58 (by decide) (by decide) (zk_0 hL) rfl (zr_0_8 hL) ?_
          refine zj_iload_n dX10_findWay_46 rfl rfl ?_
          refine zj_callV (M' := mX4_hasEvent) (avs := [.int x3]) (st := []) (ci := 4) dX10_findWay_47 wm_X4_hasEvent wl_X10_198 wi_X4_hasEvent ws_X4_hasEvent (by decide) (zk_149 hL) rfl rfl (by decide) rfl (Nat.le_of_ble_eq_true rfl) (Nat.le_of_ble_eq_true rfl) ⟨Or.inl (z_k0 (zk_0 hL)), trivial⟩ trivial (hp_X4_hasEvent hL (fun c => ?_) (fun c => ?_))
          · replace h := h.1 c
            refine zj_if_ne (tgt := 55) dX10_findWay_50 (by decide) (fun _ => ?_) (fun q => absurd q (by decide))
            refine zj_aload_n dX10_findWay_55 rfl rfl ?_
            refine zj_getR (ci := 10) (j := 9) dX10_findWay_56 wf_X10_65 (by decide) (by decide) (zk_0 hL) rfl (zr_0_9 hL) ?_
            refine zj_aload_n dX10_findWay_59 rfl rfl ?_
            refine zj_getR (ci := 10) (j := 8) dX10_findWay_60 wf_X10_58 (by decide) (by decide) (zk_0 hL) rfl (zr_0_8 hL) ?_
            refine zj_aload_n dX10_findWay_63 rfl rfl ?_
            refine zj_getR (ci := 10) (j := 8) dX10_findWay_64 wf_X10_58 (by decide) (by decide) (zk_0 hL) rfl (zr_0_8 hL) ?_
            refine zj_getR (ci := 4) (j := 11) dX10_findWay_67 wf_X10_347 (by decide) (by decide) (zk_149 hL) rfl (zr_149_11 hL) ?_
            refine zj_iload_n dX10_findWay_70 rfl rfl ?_
            refine zj_iaload dX10_findWay_71 (zk_157 hL) (by rw [(zl_157 hL)]; exact h.1) ?_
            replace h := h.2
            refine zj_iload_n dX10_findWay_72 rfl rfl ?_
            refine zj_iconst (x := (-1)) dX10_findWay_73 rfl ?_
            refine zj_icmp_ne (tgt := 87) dX10_findWay_74 (by decide) (fun c => ?_) (fun c => ?_)
            · replace h := h.1 c
              refine zj_aload_n dX10_findWay_87 rfl rfl ?_
              refine zj_getR (ci := 10) (j := 8) dX10_findWay_88 wf_X10_58 (by decide) (by decide) (zk_0 hL) rfl (zr_0_8 hL) ?_
              refine zj_getR (ci := 4) (j := 11) dX10_findWay_91 wf_X10_347 (by decide) (by decide) (zk_149 hL) rfl (zr_149_11 hL) ?_
              refine zj_iload_n dX10_findWay_94 rfl rfl ?_
              refine zj_iaload dX10_findWay_95 (zk_157 hL) (by rw [(zl_157 hL)]; exact h.1) ?_
              replace h := h.2
              refine zj_callV (M' := mX8_seek) (avs := [.ref 149, .int (v1 157 x2.toNatClampNeg), .int (v1 157 x3.toNatClampNeg)]) (st := []) (ci := 8) dX10_findWay_96 wm_X8_seek wl_X10_350 wi_X8_seek ws_X8_seek (by decide) (zk_158 hL) rfl rfl (by decide) rfl (Nat.le_of_ble_eq_true rfl) (Nat.le_of_ble_eq_true rfl) ⟨Or.inl (z_k0 (zk_0 hL)), trivial⟩ trivial (z_J.mono h (fun r S1 v4 hq => ?_))
              obtain ⟨rfl, rfl, h⟩ := hq
              refine zj_iconst (x := 1) dX10_findWay_99 rfl ?_
              exact zj_iret dX10_findWay_100 rfl (by decide) h
            · replace h := h.2 c
              refine zj_aload_n dX10_findWay_77 rfl rfl ?_
              refine zj_getR (ci := 10) (j := 8) dX10_findWay_78 wf_X10_58 (by decide) (by decide) (zk_0 hL) rfl (zr_0_8 hL) ?_
              refine zj_getI (ci := 4) (j := 1) dX10_findWay_81 wf_X10_276 (by decide) (by decide) (zk_149 hL) rfl ?_
              refine zj_goto (tgt := 96) dX10_findWay_84 (by decide) ?_
              refine zj_callV (M' := mX8_seek) (avs := [.ref 149, .int (v1 157 x2.toNatClampNeg), .int (v1 149 1)]) (st := []) (ci := 8) dX10_findWay_96 wm_X8_seek wl_X10_350 wi_X8_seek ws_X8_seek (by decide) (zk_158 hL) rfl rfl (by decide) rfl (Nat.le_of_ble_eq_true rfl) (Nat.le_of_ble_eq_true rfl) ⟨Or.inl (z_k0 (zk_0 hL)), trivial⟩ trivial (z_J.mono h (fun r S1 v5 hq => ?_))
              obtain ⟨rfl, rfl, h⟩ := hq
              refine zj_iconst (x := 1) dX10_findWay_99 rfl ?_
              exact zj_iret dX10_findWay_100 rfl (by decide) h
          · replace h := h.2 c
            refine zj_if_ne (tgt := 55) dX10_findWay_50 (by decide) (fun q => absurd (by decide) q) (fun _ => ?_)
            refine zj_iconst (x := 0) dX10_findWay_53 rfl ?_
            exact zj_iret dX10_findWay_54 rfl (by decide) h
      · replace h := h.2 c
        refine zj_if_eq (tgt := 53) dX10_findWay_34 (by decide) (fun _ => ?_) (fun q => absurd (by decide) q)
        refine zj_iconst (x := 0) dX10_findWay_53 rfl ?_
        exact zj_iret dX10_findWay_54 rfl (by decide) h
    · replace h := h.2 c
      refine zj_iconst (x := 0) dX10_findWay_12 rfl ?_
      exact zj_iret dX10_findWay_13 rfl (by decide) h
  · replace h := h.2 c
    refine zj_if_eq (tgt := 12) dX10_findWay_4 (by decide) (fun _ => ?_) (fun q => absurd (by decide) q)
    refine zj_iconst (x := 0) dX10_findWay_12 rfl ?_
    exact zj_iret dX10_findWay_13 rfl (by decide) h
theorem sg_X10_grow_0 {G : z_G} {d : Nat} {S : z_Shp} {v : z_Dat} {Q : Option Value → z_Shp → z_Dat → Prop} {x1 : Int32} (hL : z_L S)
    (h : ((x1 = 0 ∨ x1 = 1) → (z_J G d mX10_growAndPeel (0, [.ref 0, .ref 37, .int x1], [], S, v) (fun r S1 v1 => r = none ∧ S1 = S ∧ (z_J G d mX7_keepGrowth (0, [.ref 198, .ref 186, .ref 149, .null], [], S, v1) (fun r S1 v2 => r = none ∧ S1 = S ∧ (Q (some (.int (v2 186 4))) S v2)))))) ∧ (¬ (x1 = 0 ∨ x1 = 1) → (Q (some (.int (-1))) S v))) :
    z_J G (d + 1) mX10_grow (0, [.ref 0, .int x1], [], S, v) Q := by
  refine zj_iload_n dX10_grow_0 rfl rfl ?_
  refine zj_callS (M' := mX10_isKind) (avs := [.int x1]) (st := []) dX10_grow_1 wm_X10_isKind wl_X10_181 wt_X10_isKind rfl (by decide) rfl (Nat.le_of_ble_eq_true rfl) (Nat.le_of_ble_eq_true rfl) ⟨Or.inl (z_k0 (zk_0 hL)), trivial⟩ trivial (hp_X10_isKind (fun c => ?_) (fun c => ?_))
  · replace h := h.1 c
    refine zj_if_ne (tgt := 9) dX10_grow_4 (by decide) (fun _ => ?_) (fun q => absurd q (by decide))
    refine zj_aload_n dX10_grow_9 rfl rfl ?_
    refine zj_aload_n dX10_grow_10 rfl rfl ?_
    refine zj_getR (ci := 10) (j := 2) dX10_grow_11 wf_X10_26 (by decide) (by decide) (zk_0 hL) rfl (zr_0_2 hL) ?_
    refine zj_iload_n dX10_grow_14 rfl rfl ?_
    refine zj_callV (M' := mX10_growAndPeel) (avs := [.ref 37, .int x1]) (st := []) (ci := 10) dX10_grow_15 wm_X10_growAndPeel wl_X10_235 wi_X10_growAndPeel ws_X10_growAndPeel (by decide) (zk_0 hL) rfl rfl (by decide) rfl (Nat.le_of_ble_eq_true rfl) (Nat.le_of_ble_eq_true rfl) ⟨Or.inl (z_k0 (zk_0 hL)), trivial⟩ trivial (z_J.mono h (fun r S1 v1 hq => ?_))
    obtain ⟨rfl, rfl, h⟩ := hq
    refine zj_aload_n dX10_grow_18 rfl rfl ?_
    refine zj_getR (ci := 10) (j := 13) dX10_grow_19 wf_X10_93 (by decide) (by decide) (zk_0 hL) rfl (zr_0_13 hL) ?_
    refine zj_aload_n dX10_grow_22 rfl rfl ?_
    refine zj_getR (ci := 10) (j := 11) dX10_grow_23 wf_X10_79 (by decide) (by decide) (zk_0 hL) rfl (zr_0_11 hL) ?_
    refine zj_aload_n dX10_grow_26 rfl rfl ?_
    refine zj_getR (ci := 10) (j := 8) dX10_grow_27 wf_X10_58 (by decide) (by decide) (zk_0 hL) rfl (zr_0_8 hL) ?_
    refine zj_callV (M' := mX7_keepGrowth) (avs := [.ref 186, .ref 149]) (st := []) (ci := 7) dX10_grow_30 wm_X7_keepGrowth wl_X10_238 wi_X7_keepGrowth ws_X7_keepGrowth (by decide) (zk_198 hL) rfl rfl (by decide) rfl (Nat.le_of_ble_eq_true rfl) (Nat.le_of_ble_eq_true rfl) ⟨Or.inl (z_k0 (zk_0 hL)), trivial⟩ trivial (z_J.mono h (fun r S1 v2 hq => ?_))
    obtain ⟨rfl, rfl, h⟩ := hq
    refine zj_aload_n dX10_grow_33 rfl rfl ?_
    refine zj_getR (ci := 10) (j := 11) dX10_grow_34 wf_X10_79 (by decide) (by decide) (zk_0 hL) rfl (zr_0_11 hL) ?_
    refine zj_getI (ci := 1) (j := 4) dX10_grow_37 wf_X10_242 (by decide) (by decide) (zk_186 hL) rfl ?_
    exact zj_iret dX10_grow_40 rfl rfl h
  · replace h := h.2 c
    refine zj_if_ne (tgt := 9) dX10_grow_4 (by decide) (fun q => absurd (by decide) q) (fun _ => ?_)
    refine zj_iconst (x := (-1)) dX10_grow_7 rfl ?_
    exact zj_iret dX10_grow_8 rfl rfl h
theorem sg_X10_growAndPeel_0 {G : z_G} {d : Nat} {S : z_Shp} {v : z_Dat} {Q : Option Value → z_Shp → z_Dat → Prop} {x1 : Nat} {x2 : Int32} (hL : z_L S) (hx1 : z_isF x1)
    (h : z_J G d mX4_spread (0, [.ref 149, .ref x1, .int x2, .null], [], S, v) (fun r S1 v1 => r = none ∧ S1 = S ∧ (z_J G d mX1_growClumps (0, [.ref 186, .ref 149], [], S, v1) (fun r S1 v2 => r = none ∧ S1 = S ∧ (z_J G d mX1_layForest (0, [.ref 186, .ref 149, .null], [], S, v2) (fun r S1 v3 => r = none ∧ S1 = S ∧ (z_J G d mX1_peelForest (0, [.ref 186, .ref 149, .null, .null, .null], [], S, v3) (fun r S1 v4 => r = none ∧ S1 = S ∧ (Q none S v4))))))))) :
    z_J G (d + 1) mX10_growAndPeel (0, [.ref 0, .ref x1, .int x2], [], S, v) Q := by
  refine zj_aload_n dX10_growAndPeel_0 rfl rfl ?_
  refine zj_getR (ci := 10) (j := 8) dX10_growAndPeel_1 wf_X10_58 (by decide) (by decide) (zk_0 hL) rfl (zr_0_8 hL) ?_
  refine zj_aload_n dX10_growAndPeel_4 rfl rfl ?_
  refine zj_iload_n dX10_growAndPeel_5 rfl rfl ?_
  refine zj_callV (M' := mX4_spread) (avs := [.ref x1, .int x2]) (st := []) (ci := 4) dX10_growAndPeel_6 wm_X4_spread wl_X10_191 wi_X4_spread ws_X4_spread (by decide) (zk_149 hL) rfl rfl (by decide) rfl (Nat.le_of_ble_eq_true rfl) (Nat.le_of_ble_eq_true rfl) ⟨Or.inl (z_k0 (zk_0 hL)), Or.inl (z_k0 (zFk0 hL hx1)), trivial⟩ trivial (z_J.mono h (fun r S1 v1 hq => ?_))
  obtain ⟨rfl, rfl, h⟩ := hq
  refine zj_aload_n dX10_growAndPeel_9 rfl rfl ?_
  refine zj_getR (ci := 10) (j := 11) dX10_growAndPeel_10 wf_X10_79 (by decide) (by decide) (zk_0 hL) rfl (zr_0_11 hL) ?_
  refine zj_aload_n dX10_growAndPeel_13 rfl rfl ?_
  refine zj_getR (ci := 10) (j := 8) dX10_growAndPeel_14 wf_X10_58 (by decide) (by decide) (zk_0 hL) rfl (zr_0_8 hL) ?_
  refine zj_callV (M' := mX1_growClumps) (avs := [.ref 149]) (st := []) (ci := 1) dX10_growAndPeel_17 wm_X1_growClumps wl_X10_357 wi_X1_growClumps ws_X1_growClumps (by decide) (zk_186 hL) rfl rfl (by decide) rfl (Nat.le_of_ble_eq_true rfl) (Nat.le_of_ble_eq_true rfl) ⟨Or.inl (z_k0 (zk_0 hL)), Or.inl (z_k0 (zFk0 hL hx1)), trivial⟩ trivial (z_J.mono h (fun r S1 v2 hq => ?_))
  obtain ⟨rfl, rfl, h⟩ := hq
  refine zj_aload_n dX10_growAndPeel_20 rfl rfl ?_
  refine zj_getR (ci := 10) (j := 11) dX10_growAndPeel_21 wf_X10_79 (by decide) (by decide) (zk_0 hL) rfl (zr_0_11 hL) ?_
  refine zj_aload_n dX10_growAndPeel_24 rfl rfl ?_
  refine zj_getR (ci := 10) (j := 8) dX10_growAndPeel_25 wf_X10_58 (by decide) (by decide) (zk_0 hL) rfl (zr_0_8 hL) ?_
  refine zj_callV (M' := mX1_layForest) (avs := [.ref 149]) (st := []) (ci := 1) dX10_growAndPeel_28 wm_X1_layForest wl_X10_361 wi_X1_layForest ws_X1_layForest (by decide) (zk_186 hL) rfl rfl (by decide) rfl (Nat.le_of_ble_eq_true rfl) (Nat.le_of_ble_eq_true rfl) ⟨Or.inl (z_k0 (zk_0 hL)), Or.inl (z_k0 (zFk0 hL hx1)), trivial⟩ trivial (z_J.mono h (fun r S1 v3 hq => ?_))
  obtain ⟨rfl, rfl, h⟩ := hq
  refine zj_aload_n dX10_growAndPeel_31 rfl rfl ?_
  refine zj_getR (ci := 10) (j := 11) dX10_growAndPeel_32 wf_X10_79 (by decide) (by decide) (zk_0 hL) rfl (zr_0_11 hL) ?_
  refine zj_aload_n dX10_growAndPeel_35 rfl rfl ?_
  refine zj_getR (ci := 10) (j := 8) dX10_growAndPeel_36 wf_X10_58 (by decide) (by decide) (zk_0 hL) rfl (zr_0_8 hL) ?_
  refine zj_callV (M' := mX1_peelForest) (avs := [.ref 149]) (st := []) (ci := 1) dX10_growAndPeel_39 wm_X1_peelForest wl_X10_364 wi_X1_peelForest ws_X1_peelForest (by decide) (zk_186 hL) rfl rfl (by decide) rfl (Nat.le_of_ble_eq_true rfl) (Nat.le_of_ble_eq_true rfl) ⟨Or.inl (z_k0 (zk_0 hL)), Or.inl (z_k0 (zFk0 hL hx1)), trivial⟩ trivial (z_J.mono h (fun r S1 v4 hq => ?_))
  obtain ⟨rfl, rfl, h⟩ := hq
  exact zj_vret dX10_growAndPeel_42 rfl h
theorem sg_X10_grown_0 {G : z_G} {d : Nat} {S : z_Shp} {v : z_Dat} {Q : Option Value → z_Shp → z_Dat → Prop} {x1 : Int32} (hL : z_L S)
    (h : ((v 198 2) = 0 → (Q (some (.int (-1))) S v)) ∧ (¬ (v 198 2) = 0 → ((x1 < 0 → (Q (some (.int (-1))) S v)) ∧ (¬ x1 < 0 → ((x1 < (Int32.ofNat 4) → ((vp_in x1 4) ∧ (Q (some (.int (v 200 x1.toNatClampNeg))) S v))) ∧ (¬ x1 < (Int32.ofNat 4) → (Q (some (.int (-1))) S v))))))) :
    z_J G d mX10_grown (0, [.ref 0, .int x1], [], S, v) Q := by
  refine zj_aload_n dX10_grown_0 rfl rfl ?_
  refine zj_getR (ci := 10) (j := 13) dX10_grown_1 wf_X10_93 (by decide) (by decide) (zk_0 hL) rfl (zr_0_13 hL) ?_
  refine zj_getI (ci := 7) (j := 2) dX10_grown_4 wf_X10_243 (by decide) (by decide) (zk_198 hL) rfl ?_
  refine zj_if_eq (tgt := 26) dX10_grown_7 (by decide) (fun c => ?_) (fun c => ?_)
  · replace h := h.1 c
    refine zj_iconst (x := (-1)) dX10_grown_26 rfl ?_
    exact zj_iret dX10_grown_27 rfl rfl h
  · replace h := h.2 c
    refine zj_iload_n dX10_grown_10 rfl rfl ?_
    refine zj_if_lt (tgt := 26) dX10_grown_11 (by decide) (fun c => ?_) (fun c => ?_)
    · replace h := h.1 c
      refine zj_iconst (x := (-1)) dX10_grown_26 rfl ?_
      exact zj_iret dX10_grown_27 rfl rfl h
    · replace h := h.2 c
      refine zj_iload_n dX10_grown_14 rfl rfl ?_
      refine zj_aload_n dX10_grown_15 rfl rfl ?_
      refine zj_getR (ci := 10) (j := 13) dX10_grown_16 wf_X10_93 (by decide) (by decide) (zk_0 hL) rfl (zr_0_13 hL) ?_
      refine zj_getR (ci := 7) (j := 3) dX10_grown_19 wf_X10_247 (by decide) (by decide) (zk_198 hL) rfl (zr_198_3 hL) ?_
      refine zj_alen (t := 0) dX10_grown_22 (zk_200 hL) (by decide) ?_
      rw [(zl_200 hL)]
      refine zj_icmp_lt (tgt := 28) dX10_grown_23 (by decide) (fun c => ?_) (fun c => ?_)
      · replace h := h.1 c
        refine zj_aload_n dX10_grown_28 rfl rfl ?_
        refine zj_getR (ci := 10) (j := 13) dX10_grown_29 wf_X10_93 (by decide) (by decide) (zk_0 hL) rfl (zr_0_13 hL) ?_
        refine zj_getR (ci := 7) (j := 3) dX10_grown_32 wf_X10_247 (by decide) (by decide) (zk_198 hL) rfl (zr_198_3 hL) ?_
        refine zj_iload_n dX10_grown_35 rfl rfl ?_
        refine zj_iaload dX10_grown_36 (zk_200 hL) (by rw [(zl_200 hL)]; exact h.1) ?_
        replace h := h.2
        exact zj_iret dX10_grown_37 rfl rfl h
      · replace h := h.2 c
        refine zj_iconst (x := (-1)) dX10_grown_26 rfl ?_
        exact zj_iret dX10_grown_27 rfl rfl h
theorem sg_X10_image_0 {G : z_G} {d : Nat} {S : z_Shp} {v : z_Dat} {Q : Option Value → z_Shp → z_Dat → Prop} {x1 : Int32} (hL : z_L S)
    (h : (x1 < 0 → (Q (some (.int 0)) S v)) ∧ (¬ x1 < 0 → ((x1 < 2 → ((vp_in x1 2) ∧ (z_J G d mX0_copyFrom (0, [.ref (203 + 10 * x1.toNatClampNeg), .ref 37, .null], [], S, v) (fun r S1 v1 => r = none ∧ z_J G (d + 1) mX10_image (24, [.ref 0, .int x1], [], S1, v1) Q)))) ∧ (¬ x1 < 2 → (Q (some (.int 0)) S v))))) :
    z_J G (d + 1) mX10_image (0, [.ref 0, .int x1], [], S, v) Q := by
  refine zj_iload_n dX10_image_0 rfl rfl ?_
  refine zj_if_lt (tgt := 9) dX10_image_1 (by decide) (fun c => ?_) (fun c => ?_)
  · replace h := h.1 c
    refine zj_iconst (x := 0) dX10_image_9 rfl ?_
    exact zj_iret dX10_image_10 rfl (by decide) h
  · replace h := h.2 c
    refine zj_iload_n dX10_image_4 rfl rfl ?_
    refine zj_iconst (x := 2) dX10_image_5 rfl ?_
    refine zj_icmp_lt (tgt := 11) dX10_image_6 (by decide) (fun c => ?_) (fun c => ?_)
    · replace h := h.1 c
      refine zj_aload_n dX10_image_11 rfl rfl ?_
      refine zj_getR (ci := 10) (j := 4) dX10_image_12 wf_X10_33 (by decide) (by decide) (zk_0 hL) rfl (zr_0_4 hL) ?_
      refine zj_iload_n dX10_image_15 rfl rfl ?_
      obtain ⟨hi1, h⟩ := h
      refine zj_aaload1 dX10_image_16 (zk_57 hL) (by rw [(zl_57 hL)]; exact hi1) (zImr hL hi1) ?_
      refine zj_aload_n dX10_image_17 rfl rfl ?_
      refine zj_getR (ci := 10) (j := 2) dX10_image_18 wf_X10_26 (by decide) (by decide) (zk_0 hL) rfl (zr_0_2 hL) ?_
      refine zj_callV (M' := mX0_copyFrom) (avs := [.ref 37]) (st := []) (ci := 0) dX10_image_21 wm_X0_copyFrom wl_X10_341 wi_X0_copyFrom ws_X0_copyFrom (by decide) (zFk0 hL (zImf hi1)) rfl rfl (by decide) rfl (Nat.le_of_ble_eq_true rfl) (Nat.le_of_ble_eq_true rfl) ⟨Or.inl (z_k0 (zk_0 hL)), trivial⟩ trivial (z_J.mono h (fun r S1 v1 hq => ?_))
      obtain ⟨rfl, h⟩ := hq
      exact h
    · replace h := h.2 c
      refine zj_iconst (x := 0) dX10_image_9 rfl ?_
      exact zj_iret dX10_image_10 rfl (by decide) h
theorem sg_X10_image_24 {G : z_G} {d : Nat} {S : z_Shp} {v : z_Dat} {Q : Option Value → z_Shp → z_Dat → Prop} {x1 : Int32} (hL : z_L S)
    (h : vp_in x1 2 ∧ (∀ v1, v1 = z_u v 58 x1.toNatClampNeg (vp_nar .boolean 1) → (Q (some (.int 1)) S v1))) :
    z_J G d mX10_image (24, [.ref 0, .int x1], [], S, v) Q := by
  refine zj_aload_n dX10_image_24 rfl rfl ?_
  refine zj_getR (ci := 10) (j := 5) dX10_image_25 wf_X10_37 (by decide) (by decide) (zk_0 hL) rfl (zr_0_5 hL) ?_
  refine zj_iload_n dX10_image_28 rfl rfl ?_
  refine zj_iconst (x := 1) dX10_image_29 rfl ?_
  refine zj_zastore dX10_image_30 (zk_58 hL) (by rw [(zl_58 hL)]; exact h.1) (fun v1 ev1 => ?_)
  replace h := h.2 v1 ev1
  refine zj_iconst (x := 1) dX10_image_31 rfl ?_
  exact zj_iret dX10_image_32 rfl (by decide) h
theorem sg_X10_isCheck_0 {G : z_G} {d : Nat} {S : z_Shp} {v : z_Dat} {Q : Option Value → z_Shp → z_Dat → Prop} {x1 : Int32} {x2 : Int32} {w_37 : Nat} (hL : z_L S) (rw_37 : z_r S 37 0 = some w_37) (hw_37 : z_isW w_37)
    (h : ((x1 = 0 ∨ x1 = 1) → ((x2 < 0 → (Q (some (.int 0)) S v)) ∧ (¬ x2 < 0 → (((v w_37 2) ≤ x2 → (Q (some (.int 0)) S v)) ∧ (¬ (v w_37 2) ≤ x2 → (Q (some (.int 1)) S v)))))) ∧ (¬ (x1 = 0 ∨ x1 = 1) → (Q (some (.int 0)) S v))) :
    z_J G (d + 1) mX10_isCheck (0, [.ref 0, .int x1, .int x2], [], S, v) Q := by
  refine zj_iload_n dX10_isCheck_0 rfl rfl ?_
  refine zj_callS (M' := mX10_isKind) (avs := [.int x1]) (st := []) dX10_isCheck_1 wm_X10_isKind wl_X10_181 wt_X10_isKind rfl (by decide) rfl (Nat.le_of_ble_eq_true rfl) (Nat.le_of_ble_eq_true rfl) ⟨Or.inl (z_k0 (zk_0 hL)), trivial⟩ trivial (hp_X10_isKind (fun c => ?_) (fun c => ?_))
  · replace h := h.1 c
    refine zj_if_eq (tgt := 29) dX10_isCheck_4 (by decide) (fun q => absurd q (by decide)) (fun _ => ?_)
    refine zj_iload_n dX10_isCheck_7 rfl rfl ?_
    refine zj_if_lt (tgt := 29) dX10_isCheck_8 (by decide) (fun c => ?_) (fun c => ?_)
    · replace h := h.1 c
      refine zj_iconst (x := 0) dX10_isCheck_29 rfl ?_
      exact zj_iret dX10_isCheck_30 rfl (by decide) h
    · replace h := h.2 c
      refine zj_iload_n dX10_isCheck_11 rfl rfl ?_
      refine zj_aload_n dX10_isCheck_12 rfl rfl ?_
      refine zj_getR (ci := 10) (j := 2) dX10_isCheck_13 wf_X10_26 (by decide) (by decide) (zk_0 hL) rfl (zr_0_2 hL) ?_
      refine zj_getR (ci := 0) (j := 0) dX10_isCheck_16 wf_X10_113 (by decide) (by decide) (zk_37 hL) rfl rw_37 ?_
      refine zj_getI (ci := 9) (j := 2) dX10_isCheck_19 wf_X10_140 (by decide) (by decide) (zWk0 hL hw_37) rfl ?_
      refine zj_icmp_ge (tgt := 29) dX10_isCheck_22 (by decide) (fun c => ?_) (fun c => ?_)
      · replace h := h.1 c
        refine zj_iconst (x := 0) dX10_isCheck_29 rfl ?_
        exact zj_iret dX10_isCheck_30 rfl (by decide) h
      · replace h := h.2 c
        refine zj_iconst (x := 1) dX10_isCheck_25 rfl ?_
        refine zj_goto (tgt := 30) dX10_isCheck_26 (by decide) ?_
        exact zj_iret dX10_isCheck_30 rfl (by decide) h
  · replace h := h.2 c
    refine zj_if_eq (tgt := 29) dX10_isCheck_4 (by decide) (fun _ => ?_) (fun q => absurd (by decide) q)
    refine zj_iconst (x := 0) dX10_isCheck_29 rfl ?_
    exact zj_iret dX10_isCheck_30 rfl (by decide) h
theorem sg_X10_isRound_0 {G : z_G} {d : Nat} {S : z_Shp} {v : z_Dat} {Q : Option Value → z_Shp → z_Dat → Prop} {x1 : Int32} (hL : z_L S)
    (h : (x1 < 0 → (Q (some (.int 0)) S v)) ∧ (¬ x1 < 0 → (((v 37 1) ≤ x1 → (Q (some (.int 0)) S v)) ∧ (¬ (v 37 1) ≤ x1 → (Q (some (.int 1)) S v))))) :
    z_J G d mX10_isRound (0, [.ref 0, .int x1], [], S, v) Q := by
  refine zj_iload_n dX10_isRound_0 rfl rfl ?_
  refine zj_if_lt (tgt := 19) dX10_isRound_1 (by decide) (fun c => ?_) (fun c => ?_)
  · replace h := h.1 c
    refine zj_iconst (x := 0) dX10_isRound_19 rfl ?_
    exact zj_iret dX10_isRound_20 rfl (by decide) h
  · replace h := h.2 c
    refine zj_iload_n dX10_isRound_4 rfl rfl ?_
    refine zj_aload_n dX10_isRound_5 rfl rfl ?_
    refine zj_getR (ci := 10) (j := 2) dX10_isRound_6 wf_X10_26 (by decide) (by decide) (zk_0 hL) rfl (zr_0_2 hL) ?_
    refine zj_getI (ci := 0) (j := 1) dX10_isRound_9 wf_X10_137 (by decide) (by decide) (zk_37 hL) rfl ?_
    refine zj_icmp_ge (tgt := 19) dX10_isRound_12 (by decide) (fun c => ?_) (fun c => ?_)
    · replace h := h.1 c
      refine zj_iconst (x := 0) dX10_isRound_19 rfl ?_
      exact zj_iret dX10_isRound_20 rfl (by decide) h
    · replace h := h.2 c
      refine zj_iconst (x := 1) dX10_isRound_15 rfl ?_
      refine zj_goto (tgt := 20) dX10_isRound_16 (by decide) ?_
      exact zj_iret dX10_isRound_20 rfl (by decide) h
theorem sg_X10_like_0 {G : z_G} {d : Nat} {S : z_Shp} {v : z_Dat} {Q : Option Value → z_Shp → z_Dat → Prop} {x1 : Int32} {x2 : Int32} {x3 : Int32} {w_37 : Nat} (hL : z_L S) (rw_37 : z_r S 37 0 = some w_37) (hw_37 : z_isW w_37)
    (h : ((x1 = 0 ∨ x1 = 1) → (((x2 = 0 ∨ x2 = 1) → ((x3 < 0 → (Q (some (.int (-1))) S v)) ∧ (¬ x3 < 0 → ((x3 ≤ (v w_37 1) → (z_J G d mX3_countSizes (0, [.ref 195, .ref 37, .int x1, .int x2, .null, .null, .null, .null], [], S, v) (fun r S1 v1 => r = none ∧ S1 = S ∧ ((vp_in x3 26) ∧ (Q (some (.int (v1 196 x3.toNatClampNeg))) S v1))))) ∧ (¬ x3 ≤ (v w_37 1) → (Q (some (.int (-1))) S v)))))) ∧ (¬ (x2 = 0 ∨ x2 = 1) → (Q (some (.int (-1))) S v)))) ∧ (¬ (x1 = 0 ∨ x1 = 1) → (Q (some (.int (-1))) S v))) :
    z_J G (d + 1) mX10_like (0, [.ref 0, .int x1, .int x2, .int x3], [], S, v) Q := by
  refine zj_iload_n dX10_like_0 rfl rfl ?_
  refine zj_callS (M' := mX10_isKind) (avs := [.int x1]) (st := []) dX10_like_1 wm_X10_isKind wl_X10_181 wt_X10_isKind rfl (by decide) rfl (Nat.le_of_ble_eq_true rfl) (Nat.le_of_ble_eq_true rfl) ⟨Or.inl (z_k0 (zk_0 hL)), trivial⟩ trivial (hp_X10_isKind (fun c => ?_) (fun c => ?_))
  · replace h := h.1 c
    refine zj_if_eq (tgt := 32) dX10_like_4 (by decide) (fun q => absurd q (by decide)) (fun _ => ?_)
    refine zj_iload_n dX10_like_7 rfl rfl ?_
    refine zj_callS (M' := mX10_isLogical) (avs := [.int x2]) (st := []) dX10_like_8 wm_X10_isLogical wl_X10_297 wt_X10_isLogical rfl (by decide) rfl (Nat.le_of_ble_eq_true rfl) (Nat.le_of_ble_eq_true rfl) ⟨Or.inl (z_k0 (zk_0 hL)), trivial⟩ trivial (hp_X10_isLogical (fun c => ?_) (fun c => ?_))
    · replace h := h.1 c
      refine zj_if_eq (tgt := 32) dX10_like_11 (by decide) (fun q => absurd q (by decide)) (fun _ => ?_)
      refine zj_iload_n dX10_like_14 rfl rfl ?_
      refine zj_if_lt (tgt := 32) dX10_like_15 (by decide) (fun c => ?_) (fun c => ?_)
      · replace h := h.1 c
        refine zj_iconst (x := (-1)) dX10_like_32 rfl ?_
        exact zj_iret dX10_like_33 rfl rfl h
      · replace h := h.2 c
        refine zj_iload_n dX10_like_18 rfl rfl ?_
        refine zj_aload_n dX10_like_19 rfl rfl ?_
        refine zj_getR (ci := 10) (j := 2) dX10_like_20 wf_X10_26 (by decide) (by decide) (zk_0 hL) rfl (zr_0_2 hL) ?_
        refine zj_getR (ci := 0) (j := 0) dX10_like_23 wf_X10_113 (by decide) (by decide) (zk_37 hL) rfl rw_37 ?_
        refine zj_getI (ci := 9) (j := 1) dX10_like_26 wf_X10_116 (by decide) (by decide) (zWk0 hL hw_37) rfl ?_
        refine zj_icmp_le (tgt := 34) dX10_like_29 (by decide) (fun c => ?_) (fun c => ?_)
        · replace h := h.1 c
          refine zj_aload_n dX10_like_34 rfl rfl ?_
          refine zj_getR (ci := 10) (j := 12) dX10_like_35 wf_X10_86 (by decide) (by decide) (zk_0 hL) rfl (zr_0_12 hL) ?_
          refine zj_aload_n dX10_like_38 rfl rfl ?_
          refine zj_getR (ci := 10) (j := 2) dX10_like_39 wf_X10_26 (by decide) (by decide) (zk_0 hL) rfl (zr_0_2 hL) ?_
          refine zj_iload_n dX10_like_42 rfl rfl ?_
          refine zj_iload_n dX10_like_43 rfl rfl ?_
          refine zj_callV (M' := mX3_countSizes) (avs := [.ref 37, .int x1, .int x2]) (st := []) (ci := 3) dX10_like_44 wm_X3_countSizes wl_X10_300 wi_X3_countSizes ws_X3_countSizes (by decide) (zk_195 hL) rfl rfl (by decide) rfl (Nat.le_of_ble_eq_true rfl) (Nat.le_of_ble_eq_true rfl) ⟨Or.inl (z_k0 (zk_0 hL)), trivial⟩ trivial (z_J.mono h (fun r S1 v1 hq => ?_))
          obtain ⟨rfl, rfl, h⟩ := hq
          refine zj_aload_n dX10_like_47 rfl rfl ?_
          refine zj_getR (ci := 10) (j := 12) dX10_like_48 wf_X10_86 (by decide) (by decide) (zk_0 hL) rfl (zr_0_12 hL) ?_
          refine zj_getR (ci := 3) (j := 0) dX10_like_51 wf_X10_304 (by decide) (by decide) (zk_195 hL) rfl (zr_195_0 hL) ?_
          refine zj_iload_n dX10_like_54 rfl rfl ?_
          refine zj_iaload dX10_like_55 (zk_196 hL) (by rw [(zl_196 hL)]; exact h.1) ?_
          replace h := h.2
          exact zj_iret dX10_like_56 rfl rfl h
        · replace h := h.2 c
          refine zj_iconst (x := (-1)) dX10_like_32 rfl ?_
          exact zj_iret dX10_like_33 rfl rfl h
    · replace h := h.2 c
      refine zj_if_eq (tgt := 32) dX10_like_11 (by decide) (fun _ => ?_) (fun q => absurd (by decide) q)
      refine zj_iconst (x := (-1)) dX10_like_32 rfl ?_
      exact zj_iret dX10_like_33 rfl rfl h
  · replace h := h.2 c
    refine zj_if_eq (tgt := 32) dX10_like_4 (by decide) (fun _ => ?_) (fun q => absurd (by decide) q)
    refine zj_iconst (x := (-1)) dX10_like_32 rfl ?_
    exact zj_iret dX10_like_33 rfl rfl h
theorem sg_X10_line_0 {G : z_G} {d : Nat} {S : z_Shp} {v : z_Dat} {Q : Option Value → z_Shp → z_Dat → Prop} {x1 : Int32} {w_37 : Nat} (hL : z_L S) (rw_37 : z_r S 37 0 = some w_37) (hw_37 : z_isW w_37)
    (h : (x1 < 0 → (Q (some (.int (-1))) S v)) ∧ (¬ x1 < 0 → ((x1 ≤ ((2 : Int32) * (v w_37 0)) → (z_J G d mX7_drawLine (0, [.ref 198, .ref 37, .int x1], [], S, v) (fun r S1 v1 => r = none ∧ S1 = S ∧ (Q (some (.int (v1 198 6))) S v1)))) ∧ (¬ x1 ≤ ((2 : Int32) * (v w_37 0)) → (Q (some (.int (-1))) S v))))) :
    z_J G (d + 1) mX10_line (0, [.ref 0, .int x1], [], S, v) Q := by
  refine zj_iload_n dX10_line_0 rfl rfl ?_
  refine zj_if_lt (tgt := 20) dX10_line_1 (by decide) (fun c => ?_) (fun c => ?_)
  · replace h := h.1 c
    refine zj_iconst (x := (-1)) dX10_line_20 rfl ?_
    exact zj_iret dX10_line_21 rfl rfl h
  · replace h := h.2 c
    refine zj_iload_n dX10_line_4 rfl rfl ?_
    refine zj_iconst (x := 2) dX10_line_5 rfl ?_
    refine zj_aload_n dX10_line_6 rfl rfl ?_
    refine zj_getR (ci := 10) (j := 2) dX10_line_7 wf_X10_26 (by decide) (by decide) (zk_0 hL) rfl (zr_0_2 hL) ?_
    refine zj_getR (ci := 0) (j := 0) dX10_line_10 wf_X10_113 (by decide) (by decide) (zk_37 hL) rfl rw_37 ?_
    refine zj_getI (ci := 9) (j := 0) dX10_line_13 wf_X10_104 (by decide) (by decide) (zWk0 hL hw_37) rfl ?_
    refine zj_imul dX10_line_16 ?_
    refine zj_icmp_le (tgt := 22) dX10_line_17 (by decide) (fun c => ?_) (fun c => ?_)
    · replace h := h.1 c
      refine zj_aload_n dX10_line_22 rfl rfl ?_
      refine zj_getR (ci := 10) (j := 13) dX10_line_23 wf_X10_93 (by decide) (by decide) (zk_0 hL) rfl (zr_0_13 hL) ?_
      refine zj_aload_n dX10_line_26 rfl rfl ?_
      refine zj_getR (ci := 10) (j := 2) dX10_line_27 wf_X10_26 (by decide) (by decide) (zk_0 hL) rfl (zr_0_2 hL) ?_
      refine zj_iload_n dX10_line_30 rfl rfl ?_
      refine zj_callV (M' := mX7_drawLine) (avs := [.ref 37, .int x1]) (st := []) (ci := 7) dX10_line_31 wm_X7_drawLine wl_X10_322 wi_X7_drawLine ws_X7_drawLine (by decide) (zk_198 hL) rfl rfl (by decide) rfl (Nat.le_of_ble_eq_true rfl) (Nat.le_of_ble_eq_true rfl) ⟨Or.inl (z_k0 (zk_0 hL)), trivial⟩ trivial (z_J.mono h (fun r S1 v1 hq => ?_))
      obtain ⟨rfl, rfl, h⟩ := hq
      refine zj_aload_n dX10_line_34 rfl rfl ?_
      refine zj_getR (ci := 10) (j := 13) dX10_line_35 wf_X10_93 (by decide) (by decide) (zk_0 hL) rfl (zr_0_13 hL) ?_
      refine zj_getI (ci := 7) (j := 6) dX10_line_38 wf_X10_325 (by decide) (by decide) (zk_198 hL) rfl ?_
      exact zj_iret dX10_line_41 rfl rfl h
    · replace h := h.2 c
      refine zj_iconst (x := (-1)) dX10_line_20 rfl ?_
      exact zj_iret dX10_line_21 rfl rfl h
theorem sg_X10_now_0 {G : z_G} {d : Nat} {S : z_Shp} {v : z_Dat} {Q : Option Value → z_Shp → z_Dat → Prop} {x1 : Int32} {w_37 : Nat} (hL : z_L S) (rw_37 : z_r S 37 0 = some w_37) (hw_37 : z_isW w_37)
    (h : (x1 = 0 → (Q (some (.int (v w_37 0))) S v)) ∧ (x1 = 1 → (Q (some (.int (v 37 1))) S v)) ∧ (x1 = 2 → (Q (some (.int (v w_37 2))) S v)) ∧ (x1 = 3 → ((vp_in (x1 - 3) 2) ∧ (Q (some (.int (v 38 (x1 - 3).toNatClampNeg))) S v))) ∧ (x1 = 4 → ((vp_in (x1 - 3) 2) ∧ (Q (some (.int (v 38 (x1 - 3).toNatClampNeg))) S v))) ∧ (x1 = 5 → (z_J G d mX0_loudOnes (0, [.ref 37, .int (x1 - 5), .null, .null], [], S, v) (fun r S1 v1 => ∃ y1 : Int32, r = some (.int y1) ∧ S1 = S ∧ (Q (some (.int y1)) S v1)))) ∧ (x1 = 6 → (z_J G d mX0_loudOnes (0, [.ref 37, .int (x1 - 5), .null, .null], [], S, v) (fun r S1 v2 => ∃ y2 : Int32, r = some (.int y2) ∧ S1 = S ∧ (Q (some (.int y2)) S v2)))) ∧ (x1 = 7 → ((vp_in (x1 - 7) 2) ∧ (Q (some (.int (v 39 (x1 - 7).toNatClampNeg))) S v))) ∧ (x1 = 8 → ((vp_in (x1 - 7) 2) ∧ (Q (some (.int (v 39 (x1 - 7).toNatClampNeg))) S v))) ∧ (x1 = 9 → (Q (some (.int (v 141 0))) S v)) ∧ (¬ x1 = 0 → ¬ x1 = 1 → ¬ x1 = 2 → ¬ x1 = 3 → ¬ x1 = 4 → ¬ x1 = 5 → ¬ x1 = 6 → ¬ x1 = 7 → ¬ x1 = 8 → ¬ x1 = 9 → (Q (some (.int (-1))) S v))) :
    z_J G (d + 1) mX10_now (0, [.ref 0, .int x1], [], S, v) Q := by
  refine zj_iload_n dX10_now_0 rfl rfl ?_
  by_cases c0 : x1 = 0
  · refine zj_tabIn (tgt := 56) dX10_now_1 (by rw [c0]; decide) (by rw [c0]; decide) (by rw [c0]; rfl) (by decide) ?_
    replace h := h.1 c0
    refine zj_aload_n dX10_now_56 rfl rfl ?_
    refine zj_getR (ci := 10) (j := 2) dX10_now_57 wf_X10_26 (by decide) (by decide) (zk_0 hL) rfl (zr_0_2 hL) ?_
    refine zj_getR (ci := 0) (j := 0) dX10_now_60 wf_X10_113 (by decide) (by decide) (zk_37 hL) rfl rw_37 ?_
    refine zj_getI (ci := 9) (j := 0) dX10_now_63 wf_X10_104 (by decide) (by decide) (zWk0 hL hw_37) rfl ?_
    exact zj_iret dX10_now_66 rfl rfl h
  by_cases c1 : x1 = 1
  · refine zj_tabIn (tgt := 67) dX10_now_1 (by rw [c1]; decide) (by rw [c1]; decide) (by rw [c1]; rfl) (by decide) ?_
    replace h := h.2.1 c1
    refine zj_aload_n dX10_now_67 rfl rfl ?_
    refine zj_getR (ci := 10) (j := 2) dX10_now_68 wf_X10_26 (by decide) (by decide) (zk_0 hL) rfl (zr_0_2 hL) ?_
    refine zj_getI (ci := 0) (j := 1) dX10_now_71 wf_X10_137 (by decide) (by decide) (zk_37 hL) rfl ?_
    exact zj_iret dX10_now_74 rfl rfl h
  by_cases c2 : x1 = 2
  · refine zj_tabIn (tgt := 75) dX10_now_1 (by rw [c2]; decide) (by rw [c2]; decide) (by rw [c2]; rfl) (by decide) ?_
    replace h := h.2.2.1 c2
    refine zj_aload_n dX10_now_75 rfl rfl ?_
    refine zj_getR (ci := 10) (j := 2) dX10_now_76 wf_X10_26 (by decide) (by decide) (zk_0 hL) rfl (zr_0_2 hL) ?_
    refine zj_getR (ci := 0) (j := 0) dX10_now_79 wf_X10_113 (by decide) (by decide) (zk_37 hL) rfl rw_37 ?_
    refine zj_getI (ci := 9) (j := 2) dX10_now_82 wf_X10_140 (by decide) (by decide) (zWk0 hL hw_37) rfl ?_
    exact zj_iret dX10_now_85 rfl rfl h
  by_cases c3 : x1 = 3
  · refine zj_tabIn (tgt := 86) dX10_now_1 (by rw [c3]; decide) (by rw [c3]; decide) (by rw [c3]; rfl) (by decide) ?_
    replace h := h.2.2.2.1 c3
    refine zj_aload_n dX10_now_86 rfl rfl ?_
    refine zj_getR (ci := 10) (j := 2) dX10_now_87 wf_X10_26 (by decide) (by decide) (zk_0 hL) rfl (zr_0_2 hL) ?_
    refine zj_getR (ci := 0) (j := 2) dX10_now_90 wf_X10_143 (by decide) (by decide) (zk_37 hL) rfl (zr_37_2 hL) ?_
    refine zj_iload_n dX10_now_93 rfl rfl ?_
    refine zj_iconst (x := 3) dX10_now_94 rfl ?_
    refine zj_isub dX10_now_95 ?_
    refine zj_iaload dX10_now_96 (zk_38 hL) (by rw [(zl_38 hL)]; exact h.1) ?_
    replace h := h.2
    exact zj_iret dX10_now_97 rfl rfl h
  by_cases c4 : x1 = 4
  · refine zj_tabIn (tgt := 86) dX10_now_1 (by rw [c4]; decide) (by rw [c4]; decide) (by rw [c4]; rfl) (by decide) ?_
    replace h := h.2.2.2.2.1 c4
    refine zj_aload_n dX10_now_86 rfl rfl ?_
    refine zj_getR (ci := 10) (j := 2) dX10_now_87 wf_X10_26 (by decide) (by decide) (zk_0 hL) rfl (zr_0_2 hL) ?_
    refine zj_getR (ci := 0) (j := 2) dX10_now_90 wf_X10_143 (by decide) (by decide) (zk_37 hL) rfl (zr_37_2 hL) ?_
    refine zj_iload_n dX10_now_93 rfl rfl ?_
    refine zj_iconst (x := 3) dX10_now_94 rfl ?_
    refine zj_isub dX10_now_95 ?_
    refine zj_iaload dX10_now_96 (zk_38 hL) (by rw [(zl_38 hL)]; exact h.1) ?_
    replace h := h.2
    exact zj_iret dX10_now_97 rfl rfl h
  by_cases c5 : x1 = 5
  · refine zj_tabIn (tgt := 98) dX10_now_1 (by rw [c5]; decide) (by rw [c5]; decide) (by rw [c5]; rfl) (by decide) ?_
    replace h := h.2.2.2.2.2.1 c5
    refine zj_aload_n dX10_now_98 rfl rfl ?_
    refine zj_getR (ci := 10) (j := 2) dX10_now_99 wf_X10_26 (by decide) (by decide) (zk_0 hL) rfl (zr_0_2 hL) ?_
    refine zj_iload_n dX10_now_102 rfl rfl ?_
    refine zj_iconst (x := 5) dX10_now_103 rfl ?_
    refine zj_isub dX10_now_104 ?_
    refine zj_callV (M' := mX0_loudOnes) (avs := [.int (x1 - 5)]) (st := []) (ci := 0) dX10_now_105 wm_X0_loudOnes wl_X10_147 wi_X0_loudOnes ws_X0_loudOnes (by decide) (zk_37 hL) rfl rfl (by decide) rfl (Nat.le_of_ble_eq_true rfl) (Nat.le_of_ble_eq_true rfl) ⟨Or.inl (z_k0 (zk_0 hL)), trivial⟩ trivial (z_J.mono h (fun r S1 v1 hq => ?_))
    obtain ⟨y1, rfl, rfl, h⟩ := hq
    exact zj_iret dX10_now_108 rfl rfl h
  by_cases c6 : x1 = 6
  · refine zj_tabIn (tgt := 98) dX10_now_1 (by rw [c6]; decide) (by rw [c6]; decide) (by rw [c6]; rfl) (by decide) ?_
    replace h := h.2.2.2.2.2.2.1 c6
    refine zj_aload_n dX10_now_98 rfl rfl ?_
    refine zj_getR (ci := 10) (j := 2) dX10_now_99 wf_X10_26 (by decide) (by decide) (zk_0 hL) rfl (zr_0_2 hL) ?_
    refine zj_iload_n dX10_now_102 rfl rfl ?_
    refine zj_iconst (x := 5) dX10_now_103 rfl ?_
    refine zj_isub dX10_now_104 ?_
    refine zj_callV (M' := mX0_loudOnes) (avs := [.int (x1 - 5)]) (st := []) (ci := 0) dX10_now_105 wm_X0_loudOnes wl_X10_147 wi_X0_loudOnes ws_X0_loudOnes (by decide) (zk_37 hL) rfl rfl (by decide) rfl (Nat.le_of_ble_eq_true rfl) (Nat.le_of_ble_eq_true rfl) ⟨Or.inl (z_k0 (zk_0 hL)), trivial⟩ trivial (z_J.mono h (fun r S1 v2 hq => ?_))
    obtain ⟨y2, rfl, rfl, h⟩ := hq
    exact zj_iret dX10_now_108 rfl rfl h
  by_cases c7 : x1 = 7
  · refine zj_tabIn (tgt := 109) dX10_now_1 (by rw [c7]; decide) (by rw [c7]; decide) (by rw [c7]; rfl) (by decide) ?_
    replace h := h.2.2.2.2.2.2.2.1 c7
    refine zj_aload_n dX10_now_109 rfl rfl ?_
    refine zj_getR (ci := 10) (j := 2) dX10_now_110 wf_X10_26 (by decide) (by decide) (zk_0 hL) rfl (zr_0_2 hL) ?_
    refine zj_getR (ci := 0) (j := 3) dX10_now_113 wf_X10_151 (by decide) (by decide) (zk_37 hL) rfl (zr_37_3 hL) ?_
    refine zj_iload_n dX10_now_116 rfl rfl ?_
    refine zj_bipush (x := 7) dX10_now_117 rfl ?_
    refine zj_isub dX10_now_119 ?_
    refine zj_iaload dX10_now_120 (zk_39 hL) (by rw [(zl_39 hL)]; exact h.1) ?_
    replace h := h.2
    exact zj_iret dX10_now_121 rfl rfl h
  by_cases c8 : x1 = 8
  · refine zj_tabIn (tgt := 109) dX10_now_1 (by rw [c8]; decide) (by rw [c8]; decide) (by rw [c8]; rfl) (by decide) ?_
    replace h := h.2.2.2.2.2.2.2.2.1 c8
    refine zj_aload_n dX10_now_109 rfl rfl ?_
    refine zj_getR (ci := 10) (j := 2) dX10_now_110 wf_X10_26 (by decide) (by decide) (zk_0 hL) rfl (zr_0_2 hL) ?_
    refine zj_getR (ci := 0) (j := 3) dX10_now_113 wf_X10_151 (by decide) (by decide) (zk_37 hL) rfl (zr_37_3 hL) ?_
    refine zj_iload_n dX10_now_116 rfl rfl ?_
    refine zj_bipush (x := 7) dX10_now_117 rfl ?_
    refine zj_isub dX10_now_119 ?_
    refine zj_iaload dX10_now_120 (zk_39 hL) (by rw [(zl_39 hL)]; exact h.1) ?_
    replace h := h.2
    exact zj_iret dX10_now_121 rfl rfl h
  by_cases c9 : x1 = 9
  · refine zj_tabIn (tgt := 122) dX10_now_1 (by rw [c9]; decide) (by rw [c9]; decide) (by rw [c9]; rfl) (by decide) ?_
    replace h := h.2.2.2.2.2.2.2.2.2.1 c9
    refine zj_aload_n dX10_now_122 rfl rfl ?_
    refine zj_getR (ci := 10) (j := 7) dX10_now_123 wf_X10_51 (by decide) (by decide) (zk_0 hL) rfl (zr_0_7 hL) ?_
    refine zj_getI (ci := 6) (j := 0) dX10_now_126 wf_X10_97 (by decide) (by decide) (zk_141 hL) rfl ?_
    exact zj_iret dX10_now_129 rfl rfl h
  refine zj_tabOut (tgt := 130) dX10_now_1 (z_out_0_9 c0 c1 c2 c3 c4 c5 c6 c7 c8 c9) (by decide) ?_
  replace h := h.2.2.2.2.2.2.2.2.2.2 c0 c1 c2 c3 c4 c5 c6 c7 c8 c9
  refine zj_iconst (x := (-1)) dX10_now_130 rfl ?_
  exact zj_iret dX10_now_131 rfl rfl h
theorem sg_X10_odds_0 {G : z_G} {d : Nat} {S : z_Shp} {v : z_Dat} {Q : Option Value → z_Shp → z_Dat → Prop} {x1 : Int32} {x2 : Int32} {x3 : Int32} {x4 : Int32} {w_37 : Nat} (hL : z_L S) (rw_37 : z_r S 37 0 = some w_37) (hw_37 : z_isW w_37)
    (h : ((x1 = 0 ∨ x1 = 1) → (((x2 = 0 ∨ x2 = 1) → (((0 ≤ x3 ∧ x3 ≤ 99) → (((0 ≤ x4 ∧ x4 ≤ 99) → (z_J G d mX3_countSizes (0, [.ref 195, .ref 37, .int x1, .int x2, .null, .null, .null, .null], [], S, v) (fun r S1 v1 => r = none ∧ S1 = S ∧ (z_J G d mX3_chances (0, [.ref 195, .int (v1 w_37 1), .int x3, .int x4, .null, .null, .null, .null, .null, .null, .null], [], S, v1) (fun r S1 v2 => ∃ y1 : Int64, r = some (.long y1) ∧ S1 = S ∧ (Q (some (.long y1)) S v2)))))) ∧ (¬ (0 ≤ x4 ∧ x4 ≤ 99) → (Q (some (.long (-1))) S v)))) ∧ (¬ (0 ≤ x3 ∧ x3 ≤ 99) → (Q (some (.long (-1))) S v)))) ∧ (¬ (x2 = 0 ∨ x2 = 1) → (Q (some (.long (-1))) S v)))) ∧ (¬ (x1 = 0 ∨ x1 = 1) → (Q (some (.long (-1))) S v))) :
    z_J G (d + 1) mX10_odds (0, [.ref 0, .int x1, .int x2, .int x3, .int x4], [], S, v) Q := by
  refine zj_iload_n dX10_odds_0 rfl rfl ?_
  refine zj_callS (M' := mX10_isKind) (avs := [.int x1]) (st := []) dX10_odds_1 wm_X10_isKind wl_X10_181 wt_X10_isKind rfl (by decide) rfl (Nat.le_of_ble_eq_true rfl) (Nat.le_of_ble_eq_true rfl) ⟨Or.inl (z_k0 (zk_0 hL)), trivial⟩ trivial (hp_X10_isKind (fun c => ?_) (fun c => ?_))
  · replace h := h.1 c
    refine zj_if_eq (tgt := 29) dX10_odds_4 (by decide) (fun q => absurd q (by decide)) (fun _ => ?_)
    refine zj_iload_n dX10_odds_7 rfl rfl ?_
    refine zj_callS (M' := mX10_isLogical) (avs := [.int x2]) (st := []) dX10_odds_8 wm_X10_isLogical wl_X10_297 wt_X10_isLogical rfl (by decide) rfl (Nat.le_of_ble_eq_true rfl) (Nat.le_of_ble_eq_true rfl) ⟨Or.inl (z_k0 (zk_0 hL)), trivial⟩ trivial (hp_X10_isLogical (fun c => ?_) (fun c => ?_))
    · replace h := h.1 c
      refine zj_if_eq (tgt := 29) dX10_odds_11 (by decide) (fun q => absurd q (by decide)) (fun _ => ?_)
      refine zj_iload_n dX10_odds_14 rfl rfl ?_
      refine zj_callS (M' := mX10_isFactor) (avs := [.int x3]) (st := []) dX10_odds_15 wm_X10_isFactor wl_X10_307 wt_X10_isFactor rfl (by decide) rfl (Nat.le_of_ble_eq_true rfl) (Nat.le_of_ble_eq_true rfl) ⟨Or.inl (z_k0 (zk_0 hL)), trivial⟩ trivial (hp_X10_isFactor (fun c => ?_) (fun c => ?_))
      · replace h := h.1 c
        refine zj_if_eq (tgt := 29) dX10_odds_18 (by decide) (fun q => absurd q (by decide)) (fun _ => ?_)
        refine zj_iload dX10_odds_21 rfl ?_
        refine zj_callS (M' := mX10_isFactor) (avs := [.int x4]) (st := []) dX10_odds_23 wm_X10_isFactor wl_X10_307 wt_X10_isFactor rfl (by decide) rfl (Nat.le_of_ble_eq_true rfl) (Nat.le_of_ble_eq_true rfl) ⟨Or.inl (z_k0 (zk_0 hL)), trivial⟩ trivial (hp_X10_isFactor (fun c => ?_) (fun c => ?_))
        · replace h := h.1 c
          refine zj_if_ne (tgt := 33) dX10_odds_26 (by decide) (fun _ => ?_) (fun q => absurd q (by decide))
          refine zj_aload_n dX10_odds_33 rfl rfl ?_
          refine zj_getR (ci := 10) (j := 12) dX10_odds_34 wf_X10_86 (by decide) (by decide) (zk_0 hL) rfl (zr_0_12 hL) ?_
          refine zj_aload_n dX10_odds_37 rfl rfl ?_
          refine zj_getR (ci := 10) (j := 2) dX10_odds_38 wf_X10_26 (by decide) (by decide) (zk_0 hL) rfl (zr_0_2 hL) ?_
          refine zj_iload_n dX10_odds_41 rfl rfl ?_
          refine zj_iload_n dX10_odds_42 rfl rfl ?_
          refine zj_callV (M' := mX3_countSizes) (avs := [.ref 37, .int x1, .int x2]) (st := []) (ci := 3) dX10_odds_43 wm_X3_countSizes wl_X10_300 wi_X3_countSizes ws_X3_countSizes (by decide) (zk_195 hL) rfl rfl (by decide) rfl (Nat.le_of_ble_eq_true rfl) (Nat.le_of_ble_eq_true rfl) ⟨Or.inl (z_k0 (zk_0 hL)), trivial⟩ trivial (z_J.mono h (fun r S1 v1 hq => ?_))
          obtain ⟨rfl, rfl, h⟩ := hq
          refine zj_aload_n dX10_odds_46 rfl rfl ?_
          refine zj_getR (ci := 10) (j := 12) dX10_odds_47 wf_X10_86 (by decide) (by decide) (zk_0 hL) rfl (zr_0_12 hL) ?_
          refine zj_aload_n dX10_odds_50 rfl rfl ?_
          refine zj_getR (ci := 10) (j := 2) dX10_odds_51 wf_X10_26 (by decide) (by decide) (zk_0 hL) rfl (zr_0_2 hL) ?_
          refine zj_getR (ci := 0) (j := 0) dX10_odds_54 wf_X10_113 (by decide) (by decide) (zk_37 hL) rfl rw_37 ?_
          refine zj_getI (ci := 9) (j := 1) dX10_odds_57 wf_X10_116 (by decide) (by decide) (zWk0 hL hw_37) rfl ?_
          refine zj_iload_n dX10_odds_60 rfl rfl ?_
          refine zj_iload dX10_odds_61 rfl ?_
          refine zj_callV (M' := mX3_chances) (avs := [.int (v1 w_37 1), .int x3, .int x4]) (st := []) (ci := 3) dX10_odds_63 wm_X3_chances wl_X10_312 wi_X3_chances ws_X3_chances (by decide) (zk_195 hL) rfl rfl (by decide) rfl (Nat.le_of_ble_eq_true rfl) (Nat.le_of_ble_eq_true rfl) ⟨Or.inl (z_k0 (zk_0 hL)), trivial⟩ trivial (z_J.mono h (fun r S1 v2 hq => ?_))
          obtain ⟨y1, rfl, rfl, h⟩ := hq
          exact zj_lret dX10_odds_66 rfl h
        · replace h := h.2 c
          refine zj_if_ne (tgt := 33) dX10_odds_26 (by decide) (fun q => absurd (by decide) q) (fun _ => ?_)
          refine zj_ldc2 (x := (-1)) dX10_odds_29 wc_X10_310 ?_
          exact zj_lret dX10_odds_32 rfl h
      · replace h := h.2 c
        refine zj_if_eq (tgt := 29) dX10_odds_18 (by decide) (fun _ => ?_) (fun q => absurd (by decide) q)
        refine zj_ldc2 (x := (-1)) dX10_odds_29 wc_X10_310 ?_
        exact zj_lret dX10_odds_32 rfl h
    · replace h := h.2 c
      refine zj_if_eq (tgt := 29) dX10_odds_11 (by decide) (fun _ => ?_) (fun q => absurd (by decide) q)
      refine zj_ldc2 (x := (-1)) dX10_odds_29 wc_X10_310 ?_
      exact zj_lret dX10_odds_32 rfl h
  · replace h := h.2 c
    refine zj_if_eq (tgt := 29) dX10_odds_4 (by decide) (fun _ => ?_) (fun q => absurd (by decide) q)
    refine zj_ldc2 (x := (-1)) dX10_odds_29 wc_X10_310 ?_
    exact zj_lret dX10_odds_32 rfl h
theorem sg_X10_often_0 {G : z_G} {d : Nat} {S : z_Shp} {v : z_Dat} {Q : Option Value → z_Shp → z_Dat → Prop} {x1 : Int32} {x2 : Int32} {x3 : Int32} {x4 : Int32} {x5 : Int32} {x6 : Int32} (hL : z_L S)
    (h : ((x1 = 0 ∨ x1 = 1) → ((x2 < 0 → (Q (some (.int (-1))) S v)) ∧ (¬ x2 < 0 → ((x2 ≤ 2 → (z_J G d mX10_canBeDrawn (0, [.ref 0, .int x3, .int x4], [], S, v) (fun r S1 v1 => ∃ y1 : Int32, r = some (.int y1) ∧ S1 = S ∧ ((y1 = 0 → (Q (some (.int (-1))) S v1)) ∧ (¬ y1 = 0 → ((x6 < 1 → (Q (some (.int (-1))) S v1)) ∧ (¬ x6 < 1 → ((x6 ≤ 8 → (z_J G (d + 1) mX10_often (49, [.ref 0, .int x1, .int x2, .int x3, .int x4, .int x5, .int x6, .int 0, .int 0], [], S, v1) Q)) ∧ (¬ x6 ≤ 8 → (Q (some (.int (-1))) S v1)))))))))) ∧ (¬ x2 ≤ 2 → (Q (some (.int (-1))) S v)))))) ∧ (¬ (x1 = 0 ∨ x1 = 1) → (Q (some (.int (-1))) S v))) :
    z_J G (d + 1) mX10_often (0, [.ref 0, .int x1, .int x2, .int x3, .int x4, .int x5, .int x6, .null, .null], [], S, v) Q := by
  refine zj_iload_n dX10_often_0 rfl rfl ?_
  refine zj_callS (M' := mX10_isKind) (avs := [.int x1]) (st := []) dX10_often_1 wm_X10_isKind wl_X10_181 wt_X10_isKind rfl (by decide) rfl (Nat.le_of_ble_eq_true rfl) (Nat.le_of_ble_eq_true rfl) ⟨Or.inl (z_k0 (zk_0 hL)), trivial⟩ trivial (hp_X10_isKind (fun c => ?_) (fun c => ?_))
  · replace h := h.1 c
    refine zj_if_eq (tgt := 16) dX10_often_4 (by decide) (fun q => absurd q (by decide)) (fun _ => ?_)
    refine zj_iload_n dX10_often_7 rfl rfl ?_
    refine zj_if_lt (tgt := 16) dX10_often_8 (by decide) (fun c => ?_) (fun c => ?_)
    · replace h := h.1 c
      refine zj_iconst (x := (-1)) dX10_often_16 rfl ?_
      exact zj_iret dX10_often_17 rfl rfl h
    · replace h := h.2 c
      refine zj_iload_n dX10_often_11 rfl rfl ?_
      refine zj_iconst (x := 2) dX10_often_12 rfl ?_
      refine zj_icmp_le (tgt := 18) dX10_often_13 (by decide) (fun c => ?_) (fun c => ?_)
      · replace h := h.1 c
        refine zj_aload_n dX10_often_18 rfl rfl ?_
        refine zj_iload_n dX10_often_19 rfl rfl ?_
        refine zj_iload dX10_often_20 rfl ?_
        refine zj_callV (M' := mX10_canBeDrawn) (avs := [.int x3, .int x4]) (st := []) (ci := 10) dX10_often_22 wm_X10_canBeDrawn wl_X10_334 wi_X10_canBeDrawn ws_X10_canBeDrawn (by decide) (zk_0 hL) rfl rfl (by decide) rfl (Nat.le_of_ble_eq_true rfl) (Nat.le_of_ble_eq_true rfl) ⟨Or.inl (z_k0 (zk_0 hL)), trivial⟩ trivial (z_J.mono h (fun r S1 v1 hq => ?_))
        obtain ⟨y1, rfl, rfl, h⟩ := hq
        refine zj_if_eq (tgt := 41) dX10_often_25 (by decide) (fun c => ?_) (fun c => ?_)
        · replace h := h.1 c
          refine zj_iconst (x := (-1)) dX10_often_41 rfl ?_
          exact zj_iret dX10_often_42 rfl rfl h
        · replace h := h.2 c
          refine zj_iload dX10_often_28 rfl ?_
          refine zj_iconst (x := 1) dX10_often_30 rfl ?_
          refine zj_icmp_lt (tgt := 41) dX10_often_31 (by decide) (fun c => ?_) (fun c => ?_)
          · replace h := h.1 c
            refine zj_iconst (x := (-1)) dX10_often_41 rfl ?_
            exact zj_iret dX10_often_42 rfl rfl h
          · replace h := h.2 c
            refine zj_iload dX10_often_34 rfl ?_
            refine zj_bipush (x := 8) dX10_often_36 rfl ?_
            refine zj_icmp_le (tgt := 43) dX10_often_38 (by decide) (fun c => ?_) (fun c => ?_)
            · replace h := h.1 c
              refine zj_iconst (x := 0) dX10_often_43 rfl ?_
              refine zj_istore (ls2 := [.ref 0, .int x1, .int x2, .int x3, .int x4, .int x5, .int x6, .int 0, .null]) dX10_often_44 (by decide) rfl rfl ?_
              refine zj_iconst (x := 0) dX10_often_46 rfl ?_
              refine zj_istore (ls2 := [.ref 0, .int x1, .int x2, .int x3, .int x4, .int x5, .int x6, .int 0, .int 0]) dX10_often_47 (by decide) rfl rfl ?_
              exact h
            · replace h := h.2 c
              refine zj_iconst (x := (-1)) dX10_often_41 rfl ?_
              exact zj_iret dX10_often_42 rfl rfl h
      · replace h := h.2 c
        refine zj_iconst (x := (-1)) dX10_often_16 rfl ?_
        exact zj_iret dX10_often_17 rfl rfl h
  · replace h := h.2 c
    refine zj_if_eq (tgt := 16) dX10_often_4 (by decide) (fun _ => ?_) (fun q => absurd (by decide) q)
    refine zj_iconst (x := (-1)) dX10_often_16 rfl ?_
    exact zj_iret dX10_often_17 rfl rfl h
theorem sg_X10_often_49 {G : z_G} {d : Nat} {S : z_Shp} {v : z_Dat} {Q : Option Value → z_Shp → z_Dat → Prop} {x1 : Int32} {x2 : Int32} {x3 : Int32} {x4 : Int32} {x5 : Int32} {x6 : Int32} {x7 : Int32} {x8 : Int32} (hL : z_L S)
    (h : (x6 ≤ x8 → (Q (some (.int x7)) S v)) ∧ (¬ x6 ≤ x8 → (z_J G d mX0_copyFrom (0, [.ref 47, .ref 37, .null], [], S, v) (fun r S1 v1 => r = none ∧ z_J G (d + 1) mX10_often (67, [.ref 0, .int x1, .int x2, .int x3, .int x4, .int x5, .int x6, .int x7, .int x8], [], S1, v1) Q)))) :
    z_J G (d + 1) mX10_often (49, [.ref 0, .int x1, .int x2, .int x3, .int x4, .int x5, .int x6, .int x7, .int x8], [], S, v) Q := by
  refine zj_iload dX10_often_49 rfl ?_
  refine zj_iload dX10_often_51 rfl ?_
  refine zj_icmp_ge (tgt := 106) dX10_often_53 (by decide) (fun c => ?_) (fun c => ?_)
  · replace h := h.1 c
    refine zj_iload dX10_often_106 rfl ?_
    exact zj_iret dX10_often_108 rfl rfl h
  · replace h := h.2 c
    refine zj_aload_n dX10_often_56 rfl rfl ?_
    refine zj_getR (ci := 10) (j := 3) dX10_often_57 wf_X10_30 (by decide) (by decide) (zk_0 hL) rfl (zr_0_3 hL) ?_
    refine zj_aload_n dX10_often_60 rfl rfl ?_
    refine zj_getR (ci := 10) (j := 2) dX10_often_61 wf_X10_26 (by decide) (by decide) (zk_0 hL) rfl (zr_0_2 hL) ?_
    refine zj_callV (M' := mX0_copyFrom) (avs := [.ref 37]) (st := []) (ci := 0) dX10_often_64 wm_X0_copyFrom wl_X10_341 wi_X0_copyFrom ws_X0_copyFrom (by decide) (zk_47 hL) rfl rfl (by decide) rfl (Nat.le_of_ble_eq_true rfl) (Nat.le_of_ble_eq_true rfl) ⟨Or.inl (z_k0 (zk_0 hL)), trivial⟩ trivial (z_J.mono h (fun r S1 v1 hq => ?_))
    obtain ⟨rfl, h⟩ := hq
    exact h
theorem sg_X10_often_67 {G : z_G} {d : Nat} {S : z_Shp} {v : z_Dat} {Q : Option Value → z_Shp → z_Dat → Prop} {x1 : Int32} {x2 : Int32} {x3 : Int32} {x4 : Int32} {x5 : Int32} {x6 : Int32} {x7 : Int32} {x8 : Int32} (hL : z_L S)
    (h : z_J G d mX0_drawRounds (0, [.ref 47, .int x3, .int x4, .int (x5 + x8), .null, .null, .null, .null, .null], [], S, v) (fun r S1 v1 => ∃ y1 : Int32, r = some (.int y1) ∧ S1 = S ∧ (z_J G d mX10_resultOf (0, [.ref 0, .ref 47, .int x1, .int x2, .null], [], S, v1) (fun r S1 v2 => ∃ y2 : Int32, r = some (.int y2) ∧ z_J G (d + 1) mX10_often (93, [.ref 0, .int x1, .int x2, .int x3, .int x4, .int x5, .int x6, .int x7, .int x8], [.int y2], S1, v2) Q)))) :
    z_J G (d + 1) mX10_often (67, [.ref 0, .int x1, .int x2, .int x3, .int x4, .int x5, .int x6, .int x7, .int x8], [], S, v) Q := by
  refine zj_aload_n dX10_often_67 rfl rfl ?_
  refine zj_getR (ci := 10) (j := 3) dX10_often_68 wf_X10_30 (by decide) (by decide) (zk_0 hL) rfl (zr_0_3 hL) ?_
  refine zj_iload_n dX10_often_71 rfl rfl ?_
  refine zj_iload dX10_often_72 rfl ?_
  refine zj_iload dX10_often_74 rfl ?_
  refine zj_iload dX10_often_76 rfl ?_
  refine zj_iadd dX10_often_78 ?_
  refine zj_callV (M' := mX0_drawRounds) (avs := [.int x3, .int x4, .int (x5 + x8)]) (st := []) (ci := 0) dX10_often_79 wm_X0_drawRounds wl_X10_337 wi_X0_drawRounds ws_X0_drawRounds (by decide) (zk_47 hL) rfl rfl (by decide) rfl (Nat.le_of_ble_eq_true rfl) (Nat.le_of_ble_eq_true rfl) ⟨Or.inl (z_k0 (zk_0 hL)), trivial⟩ trivial (z_J.mono h (fun r S1 v1 hq => ?_))
  obtain ⟨y1, rfl, rfl, h⟩ := hq
  refine zj_pop dX10_often_82 rfl ?_
  refine zj_aload_n dX10_often_83 rfl rfl ?_
  refine zj_aload_n dX10_often_84 rfl rfl ?_
  refine zj_getR (ci := 10) (j := 3) dX10_often_85 wf_X10_30 (by decide) (by decide) (zk_0 hL) rfl (zr_0_3 hL) ?_
  refine zj_iload_n dX10_often_88 rfl rfl ?_
  refine zj_iload_n dX10_often_89 rfl rfl ?_
  refine zj_callV (M' := mX10_resultOf) (avs := [.ref 47, .int x1, .int x2]) (st := []) (ci := 10) dX10_often_90 wm_X10_resultOf wl_X10_285 wi_X10_resultOf ws_X10_resultOf (by decide) (zk_0 hL) rfl rfl (by decide) rfl (Nat.le_of_ble_eq_true rfl) (Nat.le_of_ble_eq_true rfl) ⟨Or.inl (z_k0 (zk_0 hL)), trivial⟩ trivial (z_J.mono h (fun r S1 v2 hq => ?_))
  obtain ⟨y2, rfl, h⟩ := hq
  exact h
theorem sg_X10_often_93 {G : z_G} {d : Nat} {S : z_Shp} {v : z_Dat} {Q : Option Value → z_Shp → z_Dat → Prop} {x1 : Int32} {x2 : Int32} {x3 : Int32} {x4 : Int32} {x5 : Int32} {x6 : Int32} {x7 : Int32} {x8 : Int32} {k0 : Int32}
    (h : (¬ k0 = 1 → (z_J G d mX10_often (49, [.ref 0, .int x1, .int x2, .int x3, .int x4, .int x5, .int x6, .int x7, .int (x8 + 1)], [], S, v) Q)) ∧ (k0 = 1 → (z_J G d mX10_often (49, [.ref 0, .int x1, .int x2, .int x3, .int x4, .int x5, .int x6, .int (x7 + 1), .int (x8 + 1)], [], S, v) Q))) :
    z_J G d mX10_often (93, [.ref 0, .int x1, .int x2, .int x3, .int x4, .int x5, .int x6, .int x7, .int x8], [.int k0], S, v) Q := by
  refine zj_iconst (x := 1) dX10_often_93 rfl ?_
  refine zj_icmp_ne (tgt := 100) dX10_often_94 (by decide) (fun c => ?_) (fun c => ?_)
  · replace h := h.1 c
    refine zj_iinc (y := x8 + 1) (ls2 := [.ref 0, .int x1, .int x2, .int x3, .int x4, .int x5, .int x6, .int x7, .int (x8 + 1)]) dX10_often_100 rfl rfl (by decide) rfl rfl ?_
    refine zj_goto (tgt := 49) dX10_often_103 (by decide) ?_
    exact h
  · replace h := h.2 c
    refine zj_iinc (y := x7 + 1) (ls2 := [.ref 0, .int x1, .int x2, .int x3, .int x4, .int x5, .int x6, .int (x7 + 1), .int x8]) dX10_often_97 rfl rfl (by decide) rfl rfl ?_
    refine zj_iinc (y := x8 + 1) (ls2 := [.ref 0, .int x1, .int x2, .int x3, .int x4, .int x5, .int x6, .int (x7 + 1), .int (x8 + 1)]) dX10_often_100 rfl rfl (by decide) rfl rfl ?_
    refine zj_goto (tgt := 49) dX10_often_103 (by decide) ?_
    exact h
theorem sg_X10_pair_0 {G : z_G} {d : Nat} {S : z_Shp} {v : z_Dat} {Q : Option Value → z_Shp → z_Dat → Prop} {x1 : Int32} (hL : z_L S)
    (h : ((x1 = 0 ∨ x1 = 1) → (z_J G d mX10_paired (0, [.ref 0, .ref 37, .int x1], [], S, v) (fun r S1 v1 => ∃ y1 : Int32, r = some (.int y1) ∧ z_J G (d + 1) mX10_pair (16, [.ref 0, .int x1], [.int y1], S1, v1) Q))) ∧ (¬ (x1 = 0 ∨ x1 = 1) → (Q (some (.int (-1))) S v))) :
    z_J G (d + 1) mX10_pair (0, [.ref 0, .int x1], [], S, v) Q := by
  refine zj_iload_n dX10_pair_0 rfl rfl ?_
  refine zj_callS (M' := mX10_isKind) (avs := [.int x1]) (st := []) dX10_pair_1 wm_X10_isKind wl_X10_181 wt_X10_isKind rfl (by decide) rfl (Nat.le_of_ble_eq_true rfl) (Nat.le_of_ble_eq_true rfl) ⟨Or.inl (z_k0 (zk_0 hL)), trivial⟩ trivial (hp_X10_isKind (fun c => ?_) (fun c => ?_))
  · replace h := h.1 c
    refine zj_if_eq (tgt := 19) dX10_pair_4 (by decide) (fun q => absurd q (by decide)) (fun _ => ?_)
    refine zj_aload_n dX10_pair_7 rfl rfl ?_
    refine zj_aload_n dX10_pair_8 rfl rfl ?_
    refine zj_getR (ci := 10) (j := 2) dX10_pair_9 wf_X10_26 (by decide) (by decide) (zk_0 hL) rfl (zr_0_2 hL) ?_
    refine zj_iload_n dX10_pair_12 rfl rfl ?_
    refine zj_callV (M' := mX10_paired) (avs := [.ref 37, .int x1]) (st := []) (ci := 10) dX10_pair_13 wm_X10_paired wl_X10_218 wi_X10_paired ws_X10_paired (by decide) (zk_0 hL) rfl rfl (by decide) rfl (Nat.le_of_ble_eq_true rfl) (Nat.le_of_ble_eq_true rfl) ⟨Or.inl (z_k0 (zk_0 hL)), trivial⟩ trivial (z_J.mono h (fun r S1 v1 hq => ?_))
    obtain ⟨y1, rfl, h⟩ := hq
    exact h
  · replace h := h.2 c
    refine zj_if_eq (tgt := 19) dX10_pair_4 (by decide) (fun _ => ?_) (fun q => absurd (by decide) q)
    refine zj_iconst (x := (-1)) dX10_pair_19 rfl ?_
    exact zj_iret dX10_pair_20 rfl rfl h
theorem sg_X10_pair_16 {G : z_G} {d : Nat} {S : z_Shp} {v : z_Dat} {Q : Option Value → z_Shp → z_Dat → Prop} {x1 : Int32} {k0 : Int32} (hL : z_L S)
    (h : (¬ k0 = 0 → (z_J G d mX7_keepPairing (0, [.ref 198, .ref 164], [], S, v) (fun r S1 v1 => r = none ∧ S1 = S ∧ (Q (some (.int (v1 164 1))) S v1)))) ∧ (k0 = 0 → (Q (some (.int (-1))) S v))) :
    z_J G (d + 1) mX10_pair (16, [.ref 0, .int x1], [.int k0], S, v) Q := by
  refine zj_if_ne (tgt := 21) dX10_pair_16 (by decide) (fun c => ?_) (fun c => ?_)
  · replace h := h.1 c
    refine zj_aload_n dX10_pair_21 rfl rfl ?_
    refine zj_getR (ci := 10) (j := 13) dX10_pair_22 wf_X10_93 (by decide) (by decide) (zk_0 hL) rfl (zr_0_13 hL) ?_
    refine zj_aload_n dX10_pair_25 rfl rfl ?_
    refine zj_getR (ci := 10) (j := 10) dX10_pair_26 wf_X10_72 (by decide) (by decide) (zk_0 hL) rfl (zr_0_10 hL) ?_
    refine zj_callV (M' := mX7_keepPairing) (avs := [.ref 164]) (st := []) (ci := 7) dX10_pair_29 wm_X7_keepPairing wl_X10_222 wi_X7_keepPairing ws_X7_keepPairing (by decide) (zk_198 hL) rfl rfl (by decide) rfl (Nat.le_of_ble_eq_true rfl) (Nat.le_of_ble_eq_true rfl) ⟨Or.inl (z_k0 (zk_0 hL)), trivial⟩ trivial (z_J.mono h (fun r S1 v1 hq => ?_))
    obtain ⟨rfl, rfl, h⟩ := hq
    refine zj_aload_n dX10_pair_32 rfl rfl ?_
    refine zj_getR (ci := 10) (j := 10) dX10_pair_33 wf_X10_72 (by decide) (by decide) (zk_0 hL) rfl (zr_0_10 hL) ?_
    refine zj_getI (ci := 5) (j := 1) dX10_pair_36 wf_X10_226 (by decide) (by decide) (zk_164 hL) rfl ?_
    exact zj_iret dX10_pair_39 rfl rfl h
  · replace h := h.2 c
    refine zj_iconst (x := (-1)) dX10_pair_19 rfl ?_
    exact zj_iret dX10_pair_20 rfl rfl h
theorem sg_X10_paired_0 {G : z_G} {d : Nat} {S : z_Shp} {v : z_Dat} {Q : Option Value → z_Shp → z_Dat → Prop} {x1 : Nat} {x2 : Int32} (hL : z_L S) (hx1 : z_isF x1)
    (h : z_J G d mX4_spread (0, [.ref 149, .ref x1, .int x2, .null], [], S, v) (fun r S1 v1 => r = none ∧ S1 = S ∧ (((v1 149 3) ≤ 14 → (z_J G d mX5_solve (0, [.ref 164, .ref 149, .ref 158, .null], [], S, v1) (fun r S1 v2 => r = none ∧ z_J G (d + 1) mX10_paired (38, [.ref 0, .ref x1, .int x2], [], S1, v2) Q))) ∧ (¬ (v1 149 3) ≤ 14 → (Q (some (.int 0)) S v1))))) :
    z_J G (d + 1) mX10_paired (0, [.ref 0, .ref x1, .int x2], [], S, v) Q := by
  refine zj_aload_n dX10_paired_0 rfl rfl ?_
  refine zj_getR (ci := 10) (j := 8) dX10_paired_1 wf_X10_58 (by decide) (by decide) (zk_0 hL) rfl (zr_0_8 hL) ?_
  refine zj_aload_n dX10_paired_4 rfl rfl ?_
  refine zj_iload_n dX10_paired_5 rfl rfl ?_
  refine zj_callV (M' := mX4_spread) (avs := [.ref x1, .int x2]) (st := []) (ci := 4) dX10_paired_6 wm_X4_spread wl_X10_191 wi_X4_spread ws_X4_spread (by decide) (zk_149 hL) rfl rfl (by decide) rfl (Nat.le_of_ble_eq_true rfl) (Nat.le_of_ble_eq_true rfl) ⟨Or.inl (z_k0 (zk_0 hL)), Or.inl (z_k0 (zFk0 hL hx1)), trivial⟩ trivial (z_J.mono h (fun r S1 v1 hq => ?_))
  obtain ⟨rfl, rfl, h⟩ := hq
  refine zj_aload_n dX10_paired_9 rfl rfl ?_
  refine zj_getR (ci := 10) (j := 8) dX10_paired_10 wf_X10_58 (by decide) (by decide) (zk_0 hL) rfl (zr_0_8 hL) ?_
  refine zj_getI (ci := 4) (j := 3) dX10_paired_13 wf_X10_195 (by decide) (by decide) (zk_149 hL) rfl ?_
  refine zj_bipush (x := 14) dX10_paired_16 rfl ?_
  refine zj_icmp_le (tgt := 23) dX10_paired_18 (by decide) (fun c => ?_) (fun c => ?_)
  · replace h := h.1 c
    refine zj_aload_n dX10_paired_23 rfl rfl ?_
    refine zj_getR (ci := 10) (j := 10) dX10_paired_24 wf_X10_72 (by decide) (by decide) (zk_0 hL) rfl (zr_0_10 hL) ?_
    refine zj_aload_n dX10_paired_27 rfl rfl ?_
    refine zj_getR (ci := 10) (j := 8) dX10_paired_28 wf_X10_58 (by decide) (by decide) (zk_0 hL) rfl (zr_0_8 hL) ?_
    refine zj_aload_n dX10_paired_31 rfl rfl ?_
    refine zj_getR (ci := 10) (j := 9) dX10_paired_32 wf_X10_65 (by decide) (by decide) (zk_0 hL) rfl (zr_0_9 hL) ?_
    refine zj_callV (M' := mX5_solve) (avs := [.ref 149, .ref 158]) (st := []) (ci := 5) dX10_paired_35 wm_X5_solve wl_X10_354 wi_X5_solve ws_X5_solve (by decide) (zk_164 hL) rfl rfl (by decide) rfl (Nat.le_of_ble_eq_true rfl) (Nat.le_of_ble_eq_true rfl) ⟨Or.inl (z_k0 (zk_0 hL)), Or.inl (z_k0 (zFk0 hL hx1)), trivial⟩ trivial (z_J.mono h (fun r S1 v2 hq => ?_))
    obtain ⟨rfl, h⟩ := hq
    exact h
  · replace h := h.2 c
    refine zj_iconst (x := 0) dX10_paired_21 rfl ?_
    exact zj_iret dX10_paired_22 rfl (by decide) h
theorem sg_X10_paired_38 {G : z_G} {d : Nat} {S : z_Shp} {v : z_Dat} {Q : Option Value → z_Shp → z_Dat → Prop} {x2 : Int32} {x1 : Nat} (hx1 : z_isF x1)
    (h : Q (some (.int 1)) S v) :
    z_J G d mX10_paired (38, [.ref 0, .ref x1, .int x2], [], S, v) Q := by
  refine zj_iconst (x := 1) dX10_paired_38 rfl ?_
  exact zj_iret dX10_paired_39 rfl (by decide) h
theorem sg_X10_pairings_0 {G : z_G} {d : Nat} {S : z_Shp} {v : z_Dat} {Q : Option Value → z_Shp → z_Dat → Prop} {x1 : Int32} (hL : z_L S)
    (h : ((x1 = 0 ∨ x1 = 1) → (z_J G d mX10_paired (0, [.ref 0, .ref 37, .int x1], [], S, v) (fun r S1 v1 => ∃ y1 : Int32, r = some (.int y1) ∧ z_J G (d + 1) mX10_pairings (16, [.ref 0, .int x1], [.int y1], S1, v1) Q))) ∧ (¬ (x1 = 0 ∨ x1 = 1) → (Q (some (.int (-1))) S v))) :
    z_J G (d + 1) mX10_pairings (0, [.ref 0, .int x1], [], S, v) Q := by
  refine zj_iload_n dX10_pairings_0 rfl rfl ?_
  refine zj_callS (M' := mX10_isKind) (avs := [.int x1]) (st := []) dX10_pairings_1 wm_X10_isKind wl_X10_181 wt_X10_isKind rfl (by decide) rfl (Nat.le_of_ble_eq_true rfl) (Nat.le_of_ble_eq_true rfl) ⟨Or.inl (z_k0 (zk_0 hL)), trivial⟩ trivial (hp_X10_isKind (fun c => ?_) (fun c => ?_))
  · replace h := h.1 c
    refine zj_if_eq (tgt := 19) dX10_pairings_4 (by decide) (fun q => absurd q (by decide)) (fun _ => ?_)
    refine zj_aload_n dX10_pairings_7 rfl rfl ?_
    refine zj_aload_n dX10_pairings_8 rfl rfl ?_
    refine zj_getR (ci := 10) (j := 2) dX10_pairings_9 wf_X10_26 (by decide) (by decide) (zk_0 hL) rfl (zr_0_2 hL) ?_
    refine zj_iload_n dX10_pairings_12 rfl rfl ?_
    refine zj_callV (M' := mX10_paired) (avs := [.ref 37, .int x1]) (st := []) (ci := 10) dX10_pairings_13 wm_X10_paired wl_X10_218 wi_X10_paired ws_X10_paired (by decide) (zk_0 hL) rfl rfl (by decide) rfl (Nat.le_of_ble_eq_true rfl) (Nat.le_of_ble_eq_true rfl) ⟨Or.inl (z_k0 (zk_0 hL)), trivial⟩ trivial (z_J.mono h (fun r S1 v1 hq => ?_))
    obtain ⟨y1, rfl, h⟩ := hq
    exact h
  · replace h := h.2 c
    refine zj_if_eq (tgt := 19) dX10_pairings_4 (by decide) (fun _ => ?_) (fun q => absurd (by decide) q)
    refine zj_iconst (x := (-1)) dX10_pairings_19 rfl ?_
    exact zj_iret dX10_pairings_20 rfl rfl h
theorem sg_X10_pairings_16 {G : z_G} {d : Nat} {S : z_Shp} {v : z_Dat} {Q : Option Value → z_Shp → z_Dat → Prop} {x1 : Int32} {k0 : Int32} (hL : z_L S)
    (h : (¬ k0 = 0 → (Q (some (.int (v 164 2))) S v)) ∧ (k0 = 0 → (Q (some (.int (-1))) S v))) :
    z_J G d mX10_pairings (16, [.ref 0, .int x1], [.int k0], S, v) Q := by
  refine zj_if_ne (tgt := 21) dX10_pairings_16 (by decide) (fun c => ?_) (fun c => ?_)
  · replace h := h.1 c
    refine zj_aload_n dX10_pairings_21 rfl rfl ?_
    refine zj_getR (ci := 10) (j := 10) dX10_pairings_22 wf_X10_72 (by decide) (by decide) (zk_0 hL) rfl (zr_0_10 hL) ?_
    refine zj_getI (ci := 5) (j := 2) dX10_pairings_25 wf_X10_232 (by decide) (by decide) (zk_164 hL) rfl ?_
    exact zj_iret dX10_pairings_28 rfl rfl h
  · replace h := h.2 c
    refine zj_iconst (x := (-1)) dX10_pairings_19 rfl ?_
    exact zj_iret dX10_pairings_20 rfl rfl h
theorem sg_X10_partner_0 {G : z_G} {d : Nat} {S : z_Shp} {v : z_Dat} {Q : Option Value → z_Shp → z_Dat → Prop} {x1 : Int32} (hL : z_L S)
    (h : (x1 < 0 → (Q (some (.int (-1))) S v)) ∧ (¬ x1 < 0 → ((x1 < (v 198 0) → ((vp_in x1 14) ∧ (Q (some (.int (v 199 x1.toNatClampNeg))) S v))) ∧ (¬ x1 < (v 198 0) → (Q (some (.int (-1))) S v))))) :
    z_J G d mX10_partner (0, [.ref 0, .int x1], [], S, v) Q := by
  refine zj_iload_n dX10_partner_0 rfl rfl ?_
  refine zj_if_lt (tgt := 15) dX10_partner_1 (by decide) (fun c => ?_) (fun c => ?_)
  · replace h := h.1 c
    refine zj_iconst (x := (-1)) dX10_partner_15 rfl ?_
    exact zj_iret dX10_partner_16 rfl rfl h
  · replace h := h.2 c
    refine zj_iload_n dX10_partner_4 rfl rfl ?_
    refine zj_aload_n dX10_partner_5 rfl rfl ?_
    refine zj_getR (ci := 10) (j := 13) dX10_partner_6 wf_X10_93 (by decide) (by decide) (zk_0 hL) rfl (zr_0_13 hL) ?_
    refine zj_getI (ci := 7) (j := 0) dX10_partner_9 wf_X10_227 (by decide) (by decide) (zk_198 hL) rfl ?_
    refine zj_icmp_lt (tgt := 17) dX10_partner_12 (by decide) (fun c => ?_) (fun c => ?_)
    · replace h := h.1 c
      refine zj_aload_n dX10_partner_17 rfl rfl ?_
      refine zj_getR (ci := 10) (j := 13) dX10_partner_18 wf_X10_93 (by decide) (by decide) (zk_0 hL) rfl (zr_0_13 hL) ?_
      refine zj_getR (ci := 7) (j := 1) dX10_partner_21 wf_X10_229 (by decide) (by decide) (zk_198 hL) rfl (zr_198_1 hL) ?_
      refine zj_iload_n dX10_partner_24 rfl rfl ?_
      refine zj_iaload dX10_partner_25 (zk_199 hL) (by rw [(zl_199 hL)]; exact h.1) ?_
      replace h := h.2
      exact zj_iret dX10_partner_26 rfl rfl h
    · replace h := h.2 c
      refine zj_iconst (x := (-1)) dX10_partner_15 rfl ?_
      exact zj_iret dX10_partner_16 rfl rfl h
theorem sg_X10_peeledAt_0 {G : z_G} {d : Nat} {S : z_Shp} {v : z_Dat} {Q : Option Value → z_Shp → z_Dat → Prop} {x1 : Int32} (hL : z_L S)
    (h : (x1 < 0 → (Q (some (.int (-1))) S v)) ∧ (¬ x1 < 0 → ((x1 < (v 198 4) → ((vp_in x1 321) ∧ (Q (some (.int (v 201 x1.toNatClampNeg))) S v))) ∧ (¬ x1 < (v 198 4) → (Q (some (.int (-1))) S v))))) :
    z_J G d mX10_peeledAt (0, [.ref 0, .int x1], [], S, v) Q := by
  refine zj_iload_n dX10_peeledAt_0 rfl rfl ?_
  refine zj_if_lt (tgt := 15) dX10_peeledAt_1 (by decide) (fun c => ?_) (fun c => ?_)
  · replace h := h.1 c
    refine zj_iconst (x := (-1)) dX10_peeledAt_15 rfl ?_
    exact zj_iret dX10_peeledAt_16 rfl rfl h
  · replace h := h.2 c
    refine zj_iload_n dX10_peeledAt_4 rfl rfl ?_
    refine zj_aload_n dX10_peeledAt_5 rfl rfl ?_
    refine zj_getR (ci := 10) (j := 13) dX10_peeledAt_6 wf_X10_93 (by decide) (by decide) (zk_0 hL) rfl (zr_0_13 hL) ?_
    refine zj_getI (ci := 7) (j := 4) dX10_peeledAt_9 wf_X10_249 (by decide) (by decide) (zk_198 hL) rfl ?_
    refine zj_icmp_lt (tgt := 17) dX10_peeledAt_12 (by decide) (fun c => ?_) (fun c => ?_)
    · replace h := h.1 c
      refine zj_aload_n dX10_peeledAt_17 rfl rfl ?_
      refine zj_getR (ci := 10) (j := 13) dX10_peeledAt_18 wf_X10_93 (by decide) (by decide) (zk_0 hL) rfl (zr_0_13 hL) ?_
      refine zj_getR (ci := 7) (j := 5) dX10_peeledAt_21 wf_X10_252 (by decide) (by decide) (zk_198 hL) rfl (zr_198_5 hL) ?_
      refine zj_iload_n dX10_peeledAt_24 rfl rfl ?_
      refine zj_iaload dX10_peeledAt_25 (zk_201 hL) (by rw [(zl_201 hL)]; exact h.1) ?_
      replace h := h.2
      exact zj_iret dX10_peeledAt_26 rfl rfl h
    · replace h := h.2 c
      refine zj_iconst (x := (-1)) dX10_peeledAt_15 rfl ?_
      exact zj_iret dX10_peeledAt_16 rfl rfl h
theorem sg_X10_press_0 {G : z_G} {d : Nat} {S : z_Shp} {v : z_Dat} {Q : Option Value → z_Shp → z_Dat → Prop} {x1 : Int32} {x2 : Int32} (hL : z_L S)
    (h : z_J G d mX10_isCheck (0, [.ref 0, .int x1, .int x2], [], S, v) (fun r S1 v1 => ∃ y1 : Int32, r = some (.int y1) ∧ S1 = S ∧ ((¬ y1 = 0 → (z_J G d mX2_keep (0, [.ref 59, .ref 37], [], S, v1) (fun r S1 v2 => r = none ∧ z_J G (d + 1) mX10_press (22, [.ref 0, .int x1, .int x2, .null], [], S1, v2) Q))) ∧ (y1 = 0 → (Q (some (.int (-1))) S v1))))) :
    z_J G (d + 1) mX10_press (0, [.ref 0, .int x1, .int x2, .null], [], S, v) Q := by
  refine zj_aload_n dX10_press_0 rfl rfl ?_
  refine zj_iload_n dX10_press_1 rfl rfl ?_
  refine zj_iload_n dX10_press_2 rfl rfl ?_
  refine zj_callV (M' := mX10_isCheck) (avs := [.int x1, .int x2]) (st := []) (ci := 10) dX10_press_3 wm_X10_isCheck wl_X10_154 wi_X10_isCheck ws_X10_isCheck (by decide) (zk_0 hL) rfl rfl (by decide) rfl (Nat.le_of_ble_eq_true rfl) (Nat.le_of_ble_eq_true rfl) ⟨Or.inl (z_k0 (zk_0 hL)), trivial⟩ trivial (z_J.mono h (fun r S1 v1 hq => ?_))
  obtain ⟨y1, rfl, rfl, h⟩ := hq
  refine zj_if_ne (tgt := 11) dX10_press_6 (by decide) (fun c => ?_) (fun c => ?_)
  · replace h := h.1 c
    refine zj_aload_n dX10_press_11 rfl rfl ?_
    refine zj_getR (ci := 10) (j := 6) dX10_press_12 wf_X10_44 (by decide) (by decide) (zk_0 hL) rfl (zr_0_6 hL) ?_
    refine zj_aload_n dX10_press_15 rfl rfl ?_
    refine zj_getR (ci := 10) (j := 2) dX10_press_16 wf_X10_26 (by decide) (by decide) (zk_0 hL) rfl (zr_0_2 hL) ?_
    refine zj_callV (M' := mX2_keep) (avs := [.ref 37]) (st := []) (ci := 2) dX10_press_19 wm_X2_keep wl_X10_126 wi_X2_keep ws_X2_keep (by decide) (zk_59 hL) rfl rfl (by decide) rfl (Nat.le_of_ble_eq_true rfl) (Nat.le_of_ble_eq_true rfl) ⟨Or.inl (z_k0 (zk_0 hL)), trivial⟩ trivial (z_J.mono h (fun r S1 v2 hq => ?_))
    obtain ⟨rfl, h⟩ := hq
    exact h
  · replace h := h.2 c
    refine zj_iconst (x := (-1)) dX10_press_9 rfl ?_
    exact zj_iret dX10_press_10 rfl rfl h
theorem sg_X10_press_22 {G : z_G} {d : Nat} {S : z_Shp} {v : z_Dat} {Q : Option Value → z_Shp → z_Dat → Prop} {x1 : Int32} {x2 : Int32} {w_37 : Nat} (hL : z_L S) (rw_37 : z_r S 37 0 = some w_37) (hw_37 : z_isW w_37)
    (h : (vp_in ((1 : Int32) - x1) 2) ∧ ((vp_in x1 2) ∧ ((vp_in x2 12) ∧ (vp_in ((1 : Int32) - x1) 2 ∧ (∀ v1, v1 = z_u v 38 ((1 : Int32) - x1).toNatClampNeg ((v 38 ((1 : Int32) - x1).toNatClampNeg) ^^^ (v (w_37 + 8 + x1.toNatClampNeg) x2.toNatClampNeg)) → ((vp_in ((1 : Int32) - x1) 2) ∧ (z_J G d mX9_logicalOf (0, [.ref w_37, .int ((1 : Int32) - x1), .int (v1 38 ((1 : Int32) - x1).toNatClampNeg)], [], S, v1) (fun r S1 v2 => ∃ y1 : Int32, r = some (.int y1) ∧ S1 = S ∧ (Q (some (.int y1)) S v2))))))))) :
    z_J G (d + 1) mX10_press (22, [.ref 0, .int x1, .int x2, .null], [], S, v) Q := by
  refine zj_iconst (x := 1) dX10_press_22 rfl ?_
  refine zj_iload_n dX10_press_23 rfl rfl ?_
  refine zj_isub dX10_press_24 ?_
  refine zj_istore_n (ls2 := [.ref 0, .int x1, .int x2, .int ((1 : Int32) - x1)]) dX10_press_25 rfl (by decide) rfl rfl ?_
  refine zj_aload_n dX10_press_26 rfl rfl ?_
  refine zj_getR (ci := 10) (j := 2) dX10_press_27 wf_X10_26 (by decide) (by decide) (zk_0 hL) rfl (zr_0_2 hL) ?_
  refine zj_getR (ci := 0) (j := 2) dX10_press_30 wf_X10_143 (by decide) (by decide) (zk_37 hL) rfl (zr_37_2 hL) ?_
  refine zj_iload_n dX10_press_33 rfl rfl ?_
  refine zj_dup2 dX10_press_34 rfl rfl ?_
  refine zj_iaload dX10_press_35 (zk_38 hL) (by rw [(zl_38 hL)]; exact h.1) ?_
  replace h := h.2
  refine zj_aload_n dX10_press_36 rfl rfl ?_
  refine zj_getR (ci := 10) (j := 2) dX10_press_37 wf_X10_26 (by decide) (by decide) (zk_0 hL) rfl (zr_0_2 hL) ?_
  refine zj_getR (ci := 0) (j := 0) dX10_press_40 wf_X10_113 (by decide) (by decide) (zk_37 hL) rfl rw_37 ?_
  refine zj_getR (ci := 9) (j := 5) dX10_press_43 wf_X10_168 (by decide) (by decide) (zWk0 hL hw_37) rfl (zWr0_5 hL hw_37) ?_
  refine zj_iload_n dX10_press_46 rfl rfl ?_
  obtain ⟨hi1, h⟩ := h
  refine zj_aaload0 dX10_press_47 (zWk7 hL hw_37) (by rw [(zWl7 hL hw_37)]; exact hi1) (zWg7r hL hw_37 hi1) ?_
  refine zj_iload_n dX10_press_48 rfl rfl ?_
  refine zj_iaload dX10_press_49 (zWg7k hL hw_37 hi1) (by rw [(zWg7l hL hw_37 hi1)]; exact h.1) ?_
  replace h := h.2
  refine zj_ixor dX10_press_50 ?_
  refine zj_iastore dX10_press_51 (zk_38 hL) (by rw [(zl_38 hL)]; exact h.1) (fun v1 ev1 => ?_)
  replace h := h.2 v1 ev1
  refine zj_aload_n dX10_press_52 rfl rfl ?_
  refine zj_getR (ci := 10) (j := 2) dX10_press_53 wf_X10_26 (by decide) (by decide) (zk_0 hL) rfl (zr_0_2 hL) ?_
  refine zj_getR (ci := 0) (j := 0) dX10_press_56 wf_X10_113 (by decide) (by decide) (zk_37 hL) rfl rw_37 ?_
  refine zj_iload_n dX10_press_59 rfl rfl ?_
  refine zj_aload_n dX10_press_60 rfl rfl ?_
  refine zj_getR (ci := 10) (j := 2) dX10_press_61 wf_X10_26 (by decide) (by decide) (zk_0 hL) rfl (zr_0_2 hL) ?_
  refine zj_getR (ci := 0) (j := 2) dX10_press_64 wf_X10_143 (by decide) (by decide) (zk_37 hL) rfl (zr_37_2 hL) ?_
  refine zj_iload_n dX10_press_67 rfl rfl ?_
  refine zj_iaload dX10_press_68 (zk_38 hL) (by rw [(zl_38 hL)]; exact h.1) ?_
  replace h := h.2
  refine zj_callV (M' := mX9_logicalOf) (avs := [.int ((1 : Int32) - x1), .int (v1 38 ((1 : Int32) - x1).toNatClampNeg)]) (st := []) (ci := 9) dX10_press_69 wm_X9_logicalOf wl_X10_316 wi_X9_logicalOf ws_X9_logicalOf (by decide) (zWk0 hL hw_37) rfl rfl (by decide) rfl (Nat.le_of_ble_eq_true rfl) (Nat.le_of_ble_eq_true rfl) ⟨Or.inl (z_k0 (zk_0 hL)), trivial⟩ trivial (z_J.mono h (fun r S1 v2 hq => ?_))
  obtain ⟨y1, rfl, rfl, h⟩ := hq
  exact zj_iret dX10_press_72 rfl rfl h
theorem sg_X10_reading_0 {G : z_G} {d : Nat} {S : z_Shp} {v : z_Dat} {Q : Option Value → z_Shp → z_Dat → Prop} {x1 : Int32} {x2 : Int32} (hL : z_L S)
    (h : ((x1 = 0 ∨ x1 = 1) → (z_J G d mX10_isRound (0, [.ref 0, .int x2], [], S, v) (fun r S1 v1 => ∃ y1 : Int32, r = some (.int y1) ∧ S1 = S ∧ ((¬ y1 = 0 → ((vp_in x1 2) ∧ ((vp_in x2 8) ∧ (Q (some (.int (v1 (37 + 4 + x1.toNatClampNeg) x2.toNatClampNeg))) S v1)))) ∧ (y1 = 0 → (Q (some (.int (-1))) S v1)))))) ∧ (¬ (x1 = 0 ∨ x1 = 1) → (Q (some (.int (-1))) S v))) :
    z_J G (d + 1) mX10_reading (0, [.ref 0, .int x1, .int x2], [], S, v) Q := by
  refine zj_iload_n dX10_reading_0 rfl rfl ?_
  refine zj_callS (M' := mX10_isKind) (avs := [.int x1]) (st := []) dX10_reading_1 wm_X10_isKind wl_X10_181 wt_X10_isKind rfl (by decide) rfl (Nat.le_of_ble_eq_true rfl) (Nat.le_of_ble_eq_true rfl) ⟨Or.inl (z_k0 (zk_0 hL)), trivial⟩ trivial (hp_X10_isKind (fun c => ?_) (fun c => ?_))
  · replace h := h.1 c
    refine zj_if_eq (tgt := 15) dX10_reading_4 (by decide) (fun q => absurd q (by decide)) (fun _ => ?_)
    refine zj_aload_n dX10_reading_7 rfl rfl ?_
    refine zj_iload_n dX10_reading_8 rfl rfl ?_
    refine zj_callV (M' := mX10_isRound) (avs := [.int x2]) (st := []) (ci := 10) dX10_reading_9 wm_X10_isRound wl_X10_185 wi_X10_isRound ws_X10_isRound (by decide) (zk_0 hL) rfl rfl (by decide) rfl (Nat.le_of_ble_eq_true rfl) (Nat.le_of_ble_eq_true rfl) ⟨Or.inl (z_k0 (zk_0 hL)), trivial⟩ trivial (z_J.mono h (fun r S1 v1 hq => ?_))
    obtain ⟨y1, rfl, rfl, h⟩ := hq
    refine zj_if_ne (tgt := 17) dX10_reading_12 (by decide) (fun c => ?_) (fun c => ?_)
    · replace h := h.1 c
      refine zj_aload_n dX10_reading_17 rfl rfl ?_
      refine zj_getR (ci := 10) (j := 2) dX10_reading_18 wf_X10_26 (by decide) (by decide) (zk_0 hL) rfl (zr_0_2 hL) ?_
      refine zj_getR (ci := 0) (j := 4) dX10_reading_21 wf_X10_188 (by decide) (by decide) (zk_37 hL) rfl (zr_37_4 hL) ?_
      refine zj_iload_n dX10_reading_24 rfl rfl ?_
      obtain ⟨hi1, h⟩ := h
      refine zj_aaload0 dX10_reading_25 (zk_40 hL) (by rw [(zl_40 hL)]; exact hi1) (zFg3r hL zF_37 hi1) ?_
      refine zj_iload_n dX10_reading_26 rfl rfl ?_
      refine zj_iaload dX10_reading_27 (zFg3k hL zF_37 hi1) (by rw [(zFg3l hL zF_37 hi1)]; exact h.1) ?_
      replace h := h.2
      exact zj_iret dX10_reading_28 rfl rfl h
    · replace h := h.2 c
      refine zj_iconst (x := (-1)) dX10_reading_15 rfl ?_
      exact zj_iret dX10_reading_16 rfl rfl h
  · replace h := h.2 c
    refine zj_if_eq (tgt := 15) dX10_reading_4 (by decide) (fun _ => ?_) (fun q => absurd (by decide) q)
    refine zj_iconst (x := (-1)) dX10_reading_15 rfl ?_
    exact zj_iret dX10_reading_16 rfl rfl h
theorem sg_X10_restore_0 {G : z_G} {d : Nat} {S : z_Shp} {v : z_Dat} {Q : Option Value → z_Shp → z_Dat → Prop} {x1 : Int32} (hL : z_L S)
    (h : (x1 < 0 → (Q (some (.int 0)) S v)) ∧ (¬ x1 < 0 → ((2 ≤ x1 → (Q (some (.int 0)) S v)) ∧ (¬ 2 ≤ x1 → ((vp_in x1 2) ∧ ((¬ (v 58 x1.toNatClampNeg) = 0 → ((vp_in x1 2) ∧ (z_J G d mX0_copyFrom (0, [.ref 37, .ref (203 + 10 * x1.toNatClampNeg), .null], [], S, v) (fun r S1 v1 => r = none ∧ z_J G (d + 1) mX10_restore (33, [.ref 0, .int x1], [], S1, v1) Q)))) ∧ ((v 58 x1.toNatClampNeg) = 0 → (Q (some (.int 0)) S v)))))))) :
    z_J G (d + 1) mX10_restore (0, [.ref 0, .int x1], [], S, v) Q := by
  refine zj_iload_n dX10_restore_0 rfl rfl ?_
  refine zj_if_lt (tgt := 18) dX10_restore_1 (by decide) (fun c => ?_) (fun c => ?_)
  · replace h := h.1 c
    refine zj_iconst (x := 0) dX10_restore_18 rfl ?_
    exact zj_iret dX10_restore_19 rfl (by decide) h
  · replace h := h.2 c
    refine zj_iload_n dX10_restore_4 rfl rfl ?_
    refine zj_iconst (x := 2) dX10_restore_5 rfl ?_
    refine zj_icmp_ge (tgt := 18) dX10_restore_6 (by decide) (fun c => ?_) (fun c => ?_)
    · replace h := h.1 c
      refine zj_iconst (x := 0) dX10_restore_18 rfl ?_
      exact zj_iret dX10_restore_19 rfl (by decide) h
    · replace h := h.2 c
      refine zj_aload_n dX10_restore_9 rfl rfl ?_
      refine zj_getR (ci := 10) (j := 5) dX10_restore_10 wf_X10_37 (by decide) (by decide) (zk_0 hL) rfl (zr_0_5 hL) ?_
      refine zj_iload_n dX10_restore_13 rfl rfl ?_
      refine zj_zaload dX10_restore_14 (zk_58 hL) (by rw [(zl_58 hL)]; exact h.1) ?_
      replace h := h.2
      refine zj_if_ne (tgt := 20) dX10_restore_15 (by decide) (fun c => ?_) (fun c => ?_)
      · replace h := h.1 c
        refine zj_aload_n dX10_restore_20 rfl rfl ?_
        refine zj_getR (ci := 10) (j := 2) dX10_restore_21 wf_X10_26 (by decide) (by decide) (zk_0 hL) rfl (zr_0_2 hL) ?_
        refine zj_aload_n dX10_restore_24 rfl rfl ?_
        refine zj_getR (ci := 10) (j := 4) dX10_restore_25 wf_X10_33 (by decide) (by decide) (zk_0 hL) rfl (zr_0_4 hL) ?_
        refine zj_iload_n dX10_restore_28 rfl rfl ?_
        obtain ⟨hi1, h⟩ := h
        refine zj_aaload1 dX10_restore_29 (zk_57 hL) (by rw [(zl_57 hL)]; exact hi1) (zImr hL hi1) ?_
        refine zj_callV (M' := mX0_copyFrom) (avs := [.ref (203 + 10 * x1.toNatClampNeg)]) (st := []) (ci := 0) dX10_restore_30 wm_X0_copyFrom wl_X10_341 wi_X0_copyFrom ws_X0_copyFrom (by decide) (zk_37 hL) rfl rfl (by decide) rfl (Nat.le_of_ble_eq_true rfl) (Nat.le_of_ble_eq_true rfl) ⟨Or.inl (z_k0 (zk_0 hL)), trivial⟩ trivial (z_J.mono h (fun r S1 v1 hq => ?_))
        obtain ⟨rfl, h⟩ := hq
        exact h
      · replace h := h.2 c
        refine zj_iconst (x := 0) dX10_restore_18 rfl ?_
        exact zj_iret dX10_restore_19 rfl (by decide) h
theorem sg_X10_restore_33 {G : z_G} {d : Nat} {S : z_Shp} {v : z_Dat} {Q : Option Value → z_Shp → z_Dat → Prop} {x1 : Int32} (hL : z_L S)
    (h : ∀ v1, v1 = z_u v 59 0 0 → (Q (some (.int 1)) S v1)) :
    z_J G d mX10_restore (33, [.ref 0, .int x1], [], S, v) Q := by
  refine zj_aload_n dX10_restore_33 rfl rfl ?_
  refine zj_getR (ci := 10) (j := 6) dX10_restore_34 wf_X10_44 (by decide) (by decide) (zk_0 hL) rfl (zr_0_6 hL) ?_
  refine zj_iconst (x := 0) dX10_restore_37 rfl ?_
  refine zj_putI (ci := 2) (j := 0) dX10_restore_38 wf_X10_110 (by decide) (by decide) (zk_59 hL) rfl rfl rfl rfl (fun v1 ev1 => ?_)
  replace h := h v1 ev1
  refine zj_iconst (x := 1) dX10_restore_41 rfl ?_
  exact zj_iret dX10_restore_42 rfl (by decide) h
theorem sg_X10_result_0 {G : z_G} {d : Nat} {S : z_Shp} {v : z_Dat} {Q : Option Value → z_Shp → z_Dat → Prop} {x1 : Int32} {x2 : Int32} (hL : z_L S)
    (h : ((x1 = 0 ∨ x1 = 1) → (z_J G d mX10_resultOf (0, [.ref 0, .ref 37, .int x1, .int x2, .null], [], S, v) (fun r S1 v1 => ∃ y1 : Int32, r = some (.int y1) ∧ z_J G (d + 1) mX10_result (19, [.ref 0, .int x1, .int x2], [.int y1], S1, v1) Q))) ∧ (¬ (x1 = 0 ∨ x1 = 1) → (Q (some (.int (-1))) S v))) :
    z_J G (d + 1) mX10_result (0, [.ref 0, .int x1, .int x2], [], S, v) Q := by
  refine zj_iload_n dX10_result_0 rfl rfl ?_
  refine zj_callS (M' := mX10_isKind) (avs := [.int x1]) (st := []) dX10_result_1 wm_X10_isKind wl_X10_181 wt_X10_isKind rfl (by decide) rfl (Nat.le_of_ble_eq_true rfl) (Nat.le_of_ble_eq_true rfl) ⟨Or.inl (z_k0 (zk_0 hL)), trivial⟩ trivial (hp_X10_isKind (fun c => ?_) (fun c => ?_))
  · replace h := h.1 c
    refine zj_if_ne (tgt := 9) dX10_result_4 (by decide) (fun _ => ?_) (fun q => absurd q (by decide))
    refine zj_aload_n dX10_result_9 rfl rfl ?_
    refine zj_aload_n dX10_result_10 rfl rfl ?_
    refine zj_getR (ci := 10) (j := 2) dX10_result_11 wf_X10_26 (by decide) (by decide) (zk_0 hL) rfl (zr_0_2 hL) ?_
    refine zj_iload_n dX10_result_14 rfl rfl ?_
    refine zj_iload_n dX10_result_15 rfl rfl ?_
    refine zj_callV (M' := mX10_resultOf) (avs := [.ref 37, .int x1, .int x2]) (st := []) (ci := 10) dX10_result_16 wm_X10_resultOf wl_X10_285 wi_X10_resultOf ws_X10_resultOf (by decide) (zk_0 hL) rfl rfl (by decide) rfl (Nat.le_of_ble_eq_true rfl) (Nat.le_of_ble_eq_true rfl) ⟨Or.inl (z_k0 (zk_0 hL)), trivial⟩ trivial (z_J.mono h (fun r S1 v1 hq => ?_))
    obtain ⟨y1, rfl, h⟩ := hq
    exact h
  · replace h := h.2 c
    refine zj_if_ne (tgt := 9) dX10_result_4 (by decide) (fun q => absurd (by decide) q) (fun _ => ?_)
    refine zj_iconst (x := (-1)) dX10_result_7 rfl ?_
    exact zj_iret dX10_result_8 rfl rfl h
theorem sg_X10_result_19 {G : z_G} {d : Nat} {S : z_Shp} {v : z_Dat} {Q : Option Value → z_Shp → z_Dat → Prop} {x1 : Int32} {x2 : Int32} {k0 : Int32}
    (h : Q (some (.int k0)) S v) :
    z_J G d mX10_result (19, [.ref 0, .int x1, .int x2], [.int k0], S, v) Q := by
  exact zj_iret dX10_result_19 rfl rfl h
theorem sg_X10_resultOf_0 {G : z_G} {d : Nat} {S : z_Shp} {v : z_Dat} {Q : Option Value → z_Shp → z_Dat → Prop} {x1 : Nat} {x2 : Int32} {x3 : Int32} (hL : z_L S) (hx1 : z_isF x1)
    (h : z_J G d mX10_correctionOf (0, [.ref 0, .ref x1, .int x2, .int x3], [], S, v) (fun r S1 v1 => ∃ y1 : Int32, r = some (.int y1) ∧ z_J G (d + 1) mX10_resultOf (7, [.ref 0, .ref x1, .int x2, .int x3, .null], [.int y1], S1, v1) Q)) :
    z_J G (d + 1) mX10_resultOf (0, [.ref 0, .ref x1, .int x2, .int x3, .null], [], S, v) Q := by
  refine zj_aload_n dX10_resultOf_0 rfl rfl ?_
  refine zj_aload_n dX10_resultOf_1 rfl rfl ?_
  refine zj_iload_n dX10_resultOf_2 rfl rfl ?_
  refine zj_iload_n dX10_resultOf_3 rfl rfl ?_
  refine zj_callV (M' := mX10_correctionOf) (avs := [.ref x1, .int x2, .int x3]) (st := []) (ci := 10) dX10_resultOf_4 wm_X10_correctionOf wl_X10_281 wi_X10_correctionOf ws_X10_correctionOf (by decide) (zk_0 hL) rfl rfl (by decide) rfl (Nat.le_of_ble_eq_true rfl) (Nat.le_of_ble_eq_true rfl) ⟨Or.inl (z_k0 (zk_0 hL)), Or.inl (z_k0 (zFk0 hL hx1)), trivial⟩ trivial (z_J.mono h (fun r S1 v1 hq => ?_))
  obtain ⟨y1, rfl, h⟩ := hq
  exact h
theorem sg_X10_resultOf_7 {G : z_G} {d : Nat} {S : z_Shp} {v : z_Dat} {Q : Option Value → z_Shp → z_Dat → Prop} {x2 : Int32} {x3 : Int32} {k0 : Int32} {x1 : Nat} {w_x1 : Nat} (hL : z_L S) (hx1 : z_isF x1) (rw_x1 : z_r S x1 0 = some w_x1) (hw_x1 : z_isW w_x1)
    (h : (¬ k0 = (-1) → ((vp_in x2 2) ∧ (z_J G d mX9_logicalOf (0, [.ref w_x1, .int x2, .int ((v (x1 + 1) x2.toNatClampNeg) ^^^ k0)], [], S, v) (fun r S1 v1 => ∃ y1 : Int32, r = some (.int y1) ∧ S1 = S ∧ (Q (some (.int y1)) S v1))))) ∧ (k0 = (-1) → (Q (some (.int (-1))) S v))) :
    z_J G (d + 1) mX10_resultOf (7, [.ref 0, .ref x1, .int x2, .int x3, .null], [.int k0], S, v) Q := by
  refine zj_istore (ls2 := [.ref 0, .ref x1, .int x2, .int x3, .int k0]) dX10_resultOf_7 (by decide) rfl rfl ?_
  refine zj_iload dX10_resultOf_9 rfl ?_
  refine zj_iconst (x := (-1)) dX10_resultOf_11 rfl ?_
  refine zj_icmp_ne (tgt := 17) dX10_resultOf_12 (by decide) (fun c => ?_) (fun c => ?_)
  · replace h := h.1 c
    refine zj_aload_n dX10_resultOf_17 rfl rfl ?_
    refine zj_getR (ci := 0) (j := 0) dX10_resultOf_18 wf_X10_113 (by decide) (by decide) (zFk0 hL hx1) rfl rw_x1 ?_
    refine zj_iload_n dX10_resultOf_21 rfl rfl ?_
    refine zj_aload_n dX10_resultOf_22 rfl rfl ?_
    refine zj_getR (ci := 0) (j := 2) dX10_resultOf_23 wf_X10_143 (by decide) (by decide) (zFk0 hL hx1) rfl (zFr0_2 hL hx1) ?_
    refine zj_iload_n dX10_resultOf_26 rfl rfl ?_
    refine zj_iaload dX10_resultOf_27 (zFk1 hL hx1) (by rw [(zFl1 hL hx1)]; exact h.1) ?_
    replace h := h.2
    refine zj_iload dX10_resultOf_28 rfl ?_
    refine zj_ixor dX10_resultOf_30 ?_
    refine zj_callV (M' := mX9_logicalOf) (avs := [.int x2, .int ((v (x1 + 1) x2.toNatClampNeg) ^^^ k0)]) (st := []) (ci := 9) dX10_resultOf_31 wm_X9_logicalOf wl_X10_316 wi_X9_logicalOf ws_X9_logicalOf (by decide) (zWk0 hL hw_x1) rfl rfl (by decide) rfl (Nat.le_of_ble_eq_true rfl) (Nat.le_of_ble_eq_true rfl) ⟨Or.inl (z_k0 (zk_0 hL)), Or.inl (z_k0 (zFk0 hL hx1)), trivial⟩ trivial (z_J.mono h (fun r S1 v1 hq => ?_))
    obtain ⟨y1, rfl, rfl, h⟩ := hq
    exact zj_iret dX10_resultOf_34 rfl rfl h
  · replace h := h.2 c
    refine zj_iconst (x := (-1)) dX10_resultOf_15 rfl ?_
    exact zj_iret dX10_resultOf_16 rfl rfl h
theorem sg_X10_undo_0 {G : z_G} {d : Nat} {S : z_Shp} {v : z_Dat} {Q : Option Value → z_Shp → z_Dat → Prop} (hL : z_L S)
    (h : (¬ (v 59 0) = 0 → (z_J G d mX2_takeBack (0, [.ref 59, .ref 37], [], S, v) (fun r S1 v1 => r = none ∧ z_J G (d + 1) mX10_undo (23, [.ref 0], [], S1, v1) Q))) ∧ ((v 59 0) = 0 → (Q (some (.int (-1))) S v))) :
    z_J G (d + 1) mX10_undo (0, [.ref 0], [], S, v) Q := by
  refine zj_aload_n dX10_undo_0 rfl rfl ?_
  refine zj_getR (ci := 10) (j := 6) dX10_undo_1 wf_X10_44 (by decide) (by decide) (zk_0 hL) rfl (zr_0_6 hL) ?_
  refine zj_getI (ci := 2) (j := 0) dX10_undo_4 wf_X10_110 (by decide) (by decide) (zk_59 hL) rfl ?_
  refine zj_if_ne (tgt := 12) dX10_undo_7 (by decide) (fun c => ?_) (fun c => ?_)
  · replace h := h.1 c
    refine zj_aload_n dX10_undo_12 rfl rfl ?_
    refine zj_getR (ci := 10) (j := 6) dX10_undo_13 wf_X10_44 (by decide) (by decide) (zk_0 hL) rfl (zr_0_6 hL) ?_
    refine zj_aload_n dX10_undo_16 rfl rfl ?_
    refine zj_getR (ci := 10) (j := 2) dX10_undo_17 wf_X10_26 (by decide) (by decide) (zk_0 hL) rfl (zr_0_2 hL) ?_
    refine zj_callV (M' := mX2_takeBack) (avs := [.ref 37]) (st := []) (ci := 2) dX10_undo_20 wm_X2_takeBack wl_X10_344 wi_X2_takeBack ws_X2_takeBack (by decide) (zk_59 hL) rfl rfl (by decide) rfl (Nat.le_of_ble_eq_true rfl) (Nat.le_of_ble_eq_true rfl) ⟨Or.inl (z_k0 (zk_0 hL)), trivial⟩ trivial (z_J.mono h (fun r S1 v1 hq => ?_))
    obtain ⟨rfl, h⟩ := hq
    exact h
  · replace h := h.2 c
    refine zj_iconst (x := (-1)) dX10_undo_10 rfl ?_
    exact zj_iret dX10_undo_11 rfl rfl h
theorem sg_X10_undo_23 {G : z_G} {d : Nat} {S : z_Shp} {v : z_Dat} {Q : Option Value → z_Shp → z_Dat → Prop} (hL : z_L S)
    (h : Q (some (.int (v 59 0))) S v) :
    z_J G d mX10_undo (23, [.ref 0], [], S, v) Q := by
  refine zj_aload_n dX10_undo_23 rfl rfl ?_
  refine zj_getR (ci := 10) (j := 6) dX10_undo_24 wf_X10_44 (by decide) (by decide) (zk_0 hL) rfl (zr_0_6 hL) ?_
  refine zj_getI (ci := 2) (j := 0) dX10_undo_27 wf_X10_110 (by decide) (by decide) (zk_59 hL) rfl ?_
  exact zj_iret dX10_undo_30 rfl rfl h
theorem sg_X10_way_0 {G : z_G} {d : Nat} {S : z_Shp} {v : z_Dat} {Q : Option Value → z_Shp → z_Dat → Prop} {x1 : Int32} {x2 : Int32} {x3 : Int32} {x4 : Int32} (hL : z_L S)
    (h : z_J G d mX10_findWay (0, [.ref 0, .int x1, .int x2, .int x3], [], S, v) (fun r S1 v1 => ∃ y1 : Int32, r = some (.int y1) ∧ S1 = S ∧ ((y1 = 0 → (Q (some (.int (-1))) S v1)) ∧ (¬ y1 = 0 → ((x4 < 0 → (Q (some (.int (-1))) S v1)) ∧ (¬ x4 < 0 → ((x4 < (v1 158 1) → ((vp_in x4 256) ∧ (Q (some (.int (v1 159 x4.toNatClampNeg))) S v1))) ∧ (¬ x4 < (v1 158 1) → (Q (some (.int (-1))) S v1))))))))) :
    z_J G (d + 1) mX10_way (0, [.ref 0, .int x1, .int x2, .int x3, .int x4], [], S, v) Q := by
  refine zj_aload_n dX10_way_0 rfl rfl ?_
  refine zj_iload_n dX10_way_1 rfl rfl ?_
  refine zj_iload_n dX10_way_2 rfl rfl ?_
  refine zj_iload_n dX10_way_3 rfl rfl ?_
  refine zj_callV (M' := mX10_findWay) (avs := [.int x1, .int x2, .int x3]) (st := []) (ci := 10) dX10_way_4 wm_X10_findWay wl_X10_207 wi_X10_findWay ws_X10_findWay (by decide) (zk_0 hL) rfl rfl (by decide) rfl (Nat.le_of_ble_eq_true rfl) (Nat.le_of_ble_eq_true rfl) ⟨Or.inl (z_k0 (zk_0 hL)), trivial⟩ trivial (z_J.mono h (fun r S1 v1 hq => ?_))
  obtain ⟨y1, rfl, rfl, h⟩ := hq
  refine zj_if_eq (tgt := 27) dX10_way_7 (by decide) (fun c => ?_) (fun c => ?_)
  · replace h := h.1 c
    refine zj_iconst (x := (-1)) dX10_way_27 rfl ?_
    exact zj_iret dX10_way_28 rfl rfl h
  · replace h := h.2 c
    refine zj_iload dX10_way_10 rfl ?_
    refine zj_if_lt (tgt := 27) dX10_way_12 (by decide) (fun c => ?_) (fun c => ?_)
    · replace h := h.1 c
      refine zj_iconst (x := (-1)) dX10_way_27 rfl ?_
      exact zj_iret dX10_way_28 rfl rfl h
    · replace h := h.2 c
      refine zj_iload dX10_way_15 rfl ?_
      refine zj_aload_n dX10_way_17 rfl rfl ?_
      refine zj_getR (ci := 10) (j := 9) dX10_way_18 wf_X10_65 (by decide) (by decide) (zk_0 hL) rfl (zr_0_9 hL) ?_
      refine zj_getI (ci := 8) (j := 1) dX10_way_21 wf_X10_214 (by decide) (by decide) (zk_158 hL) rfl ?_
      refine zj_icmp_lt (tgt := 29) dX10_way_24 (by decide) (fun c => ?_) (fun c => ?_)
      · replace h := h.1 c
        refine zj_aload_n dX10_way_29 rfl rfl ?_
        refine zj_getR (ci := 10) (j := 9) dX10_way_30 wf_X10_65 (by decide) (by decide) (zk_0 hL) rfl (zr_0_9 hL) ?_
        refine zj_getR (ci := 8) (j := 2) dX10_way_33 wf_X10_215 (by decide) (by decide) (zk_158 hL) rfl (zr_158_2 hL) ?_
        refine zj_iload dX10_way_36 rfl ?_
        refine zj_iaload dX10_way_38 (zk_159 hL) (by rw [(zl_159 hL)]; exact h.1) ?_
        replace h := h.2
        exact zj_iret dX10_way_39 rfl rfl h
      · replace h := h.2 c
        refine zj_iconst (x := (-1)) dX10_way_27 rfl ?_
        exact zj_iret dX10_way_28 rfl rfl h
theorem sg_X10_work_0 {G : z_G} {d : Nat} {S : z_Shp} {v : z_Dat} {Q : Option Value → z_Shp → z_Dat → Prop} {w_37 : Nat} (hL : z_L S) (rw_37 : z_r S 37 0 = some w_37) (hw_37 : z_isW w_37)
    (h : z_J G d mX6_isRight (0, [.ref 141, .ref w_37, .null, .null, .null], [], S, v) (fun r S1 v1 => ∃ y1 : Int32, r = some (.int y1) ∧ S1 = S ∧ (∀ v2, v2 = z_u v1 141 0 0 → ((¬ y1 = 0 → (z_J G d mX2_keep (0, [.ref 59, .ref 37], [], S, v2) (fun r S1 v3 => r = none ∧ z_J G (d + 1) mX10_work (50, [.ref 0, .int y1], [], S1, v3) Q))) ∧ (y1 = 0 → (Q (some (.int ((-1000 : Int32) - (v2 141 2)))) S v2)))))) :
    z_J G (d + 1) mX10_work (0, [.ref 0, .null], [], S, v) Q := by
  refine zj_aload_n dX10_work_0 rfl rfl ?_
  refine zj_getR (ci := 10) (j := 7) dX10_work_1 wf_X10_51 (by decide) (by decide) (zk_0 hL) rfl (zr_0_7 hL) ?_
  refine zj_aload_n dX10_work_4 rfl rfl ?_
  refine zj_getR (ci := 10) (j := 2) dX10_work_5 wf_X10_26 (by decide) (by decide) (zk_0 hL) rfl (zr_0_2 hL) ?_
  refine zj_getR (ci := 0) (j := 0) dX10_work_8 wf_X10_113 (by decide) (by decide) (zk_37 hL) rfl rw_37 ?_
  refine zj_callV (M' := mX6_isRight) (avs := [.ref w_37]) (st := []) (ci := 6) dX10_work_11 wm_X6_isRight wl_X10_119 wi_X6_isRight ws_X6_isRight (by decide) (zk_141 hL) rfl rfl (by decide) rfl (Nat.le_of_ble_eq_true rfl) (Nat.le_of_ble_eq_true rfl) ⟨Or.inl (z_k0 (zk_0 hL)), trivial⟩ trivial (z_J.mono h (fun r S1 v1 hq => ?_))
  obtain ⟨y1, rfl, rfl, h⟩ := hq
  refine zj_istore_n (ls2 := [.ref 0, .int y1]) dX10_work_14 rfl (by decide) rfl rfl ?_
  refine zj_aload_n dX10_work_15 rfl rfl ?_
  refine zj_getR (ci := 10) (j := 7) dX10_work_16 wf_X10_51 (by decide) (by decide) (zk_0 hL) rfl (zr_0_7 hL) ?_
  refine zj_iconst (x := 0) dX10_work_19 rfl ?_
  refine zj_putI (ci := 6) (j := 0) dX10_work_20 wf_X10_97 (by decide) (by decide) (zk_141 hL) rfl rfl rfl rfl (fun v2 ev2 => ?_)
  replace h := h v2 ev2
  refine zj_iload_n dX10_work_23 rfl rfl ?_
  refine zj_if_ne (tgt := 39) dX10_work_24 (by decide) (fun c => ?_) (fun c => ?_)
  · replace h := h.1 c
    refine zj_aload_n dX10_work_39 rfl rfl ?_
    refine zj_getR (ci := 10) (j := 6) dX10_work_40 wf_X10_44 (by decide) (by decide) (zk_0 hL) rfl (zr_0_6 hL) ?_
    refine zj_aload_n dX10_work_43 rfl rfl ?_
    refine zj_getR (ci := 10) (j := 2) dX10_work_44 wf_X10_26 (by decide) (by decide) (zk_0 hL) rfl (zr_0_2 hL) ?_
    refine zj_callV (M' := mX2_keep) (avs := [.ref 37]) (st := []) (ci := 2) dX10_work_47 wm_X2_keep wl_X10_126 wi_X2_keep ws_X2_keep (by decide) (zk_59 hL) rfl rfl (by decide) rfl (Nat.le_of_ble_eq_true rfl) (Nat.le_of_ble_eq_true rfl) ⟨Or.inl (z_k0 (zk_0 hL)), trivial⟩ trivial (z_J.mono h (fun r S1 v3 hq => ?_))
    obtain ⟨rfl, h⟩ := hq
    exact h
  · replace h := h.2 c
    refine zj_sipush (x := (-1000)) dX10_work_27 rfl ?_
    refine zj_aload_n dX10_work_30 rfl rfl ?_
    refine zj_getR (ci := 10) (j := 7) dX10_work_31 wf_X10_51 (by decide) (by decide) (zk_0 hL) rfl (zr_0_7 hL) ?_
    refine zj_getI (ci := 6) (j := 2) dX10_work_34 wf_X10_123 (by decide) (by decide) (zk_141 hL) rfl ?_
    refine zj_isub dX10_work_37 ?_
    exact zj_iret dX10_work_38 rfl rfl h
theorem sg_X10_work_50 {G : z_G} {d : Nat} {S : z_Shp} {v : z_Dat} {Q : Option Value → z_Shp → z_Dat → Prop} {x1 : Int32} (hL : z_L S)
    (h : z_J G d mX6_doneOn (0, [.ref 141, .ref 37], [], S, v) (fun r S1 v1 => ∃ y1 : Int32, r = some (.int y1) ∧ S1 = S ∧ (Q (some (.int y1)) S v1))) :
    z_J G (d + 1) mX10_work (50, [.ref 0, .int x1], [], S, v) Q := by
  refine zj_aload_n dX10_work_50 rfl rfl ?_
  refine zj_getR (ci := 10) (j := 7) dX10_work_51 wf_X10_51 (by decide) (by decide) (zk_0 hL) rfl (zr_0_7 hL) ?_
  refine zj_aload_n dX10_work_54 rfl rfl ?_
  refine zj_getR (ci := 10) (j := 2) dX10_work_55 wf_X10_26 (by decide) (by decide) (zk_0 hL) rfl (zr_0_2 hL) ?_
  refine zj_callV (M' := mX6_doneOn) (avs := [.ref 37]) (st := []) (ci := 6) dX10_work_58 wm_X6_doneOn wl_X10_130 wi_X6_doneOn ws_X6_doneOn (by decide) (zk_141 hL) rfl rfl (by decide) rfl (Nat.le_of_ble_eq_true rfl) (Nat.le_of_ble_eq_true rfl) ⟨Or.inl (z_k0 (zk_0 hL)), trivial⟩ trivial (z_J.mono h (fun r S1 v1 hq => ?_))
  obtain ⟨y1, rfl, rfl, h⟩ := hq
  exact zj_iret dX10_work_61 rfl rfl h
theorem sg_X11_aims_0 {G : z_G} {d : Nat} {S : z_Shp} {v : z_Dat} {Q : Option Value → z_Shp → z_Dat → Prop} {x1 : Int32} (hL : z_L S)
    (h : (0 ≤ x1 → ((vp_in x1 108) ∧ (z_J G d mX11_laysLeft (0, [.ref 223, .int (v 242 x1.toNatClampNeg), .null, .null, .null, .null], [], S, v) (fun r S1 v1 => r = none ∧ S1 = S ∧ (Q none S v1))))) ∧ (¬ 0 ≤ x1 → (z_J G d mX11_laysLeft (0, [.ref 223, .int (v 223 32), .null, .null, .null, .null], [], S, v) (fun r S1 v2 => r = none ∧ S1 = S ∧ (Q none S v2))))) :
    z_J G (d + 1) mX11_aims (0, [.ref 223, .int x1], [], S, v) Q := by
  refine zj_aload_n dX11_aims_0 rfl rfl ?_
  refine zj_iload_n dX11_aims_1 rfl rfl ?_
  refine zj_if_ge (tgt := 12) dX11_aims_2 (by decide) (fun c => ?_) (fun c => ?_)
  · replace h := h.1 c
    refine zj_aload_n dX11_aims_12 rfl rfl ?_
    refine zj_getR (ci := 11) (j := 30) dX11_aims_13 wf_X11_70 (by decide) (by decide) (zk_223 hL) rfl (zr_223_30 hL) ?_
    refine zj_iload_n dX11_aims_16 rfl rfl ?_
    refine zj_iaload dX11_aims_17 (zk_242 hL) (by rw [(zl_242 hL)]; exact h.1) ?_
    replace h := h.2
    refine zj_callV (M' := mX11_laysLeft) (avs := [.int (v 242 x1.toNatClampNeg)]) (st := []) (ci := 11) dX11_aims_18 wm_X11_laysLeft wl_X11_273 wi_X11_laysLeft ws_X11_laysLeft (by decide) (zk_223 hL) rfl rfl (by decide) rfl (Nat.le_of_ble_eq_true rfl) (Nat.le_of_ble_eq_true rfl) ⟨Or.inl (z_k0 (zk_223 hL)), trivial⟩ trivial (z_J.mono h (fun r S1 v1 hq => ?_))
    obtain ⟨rfl, rfl, h⟩ := hq
    exact zj_vret dX11_aims_21 rfl h
  · replace h := h.2 c
    refine zj_aload_n dX11_aims_5 rfl rfl ?_
    refine zj_getI (ci := 11) (j := 32) dX11_aims_6 wf_X11_254 (by decide) (by decide) (zk_223 hL) rfl ?_
    refine zj_goto (tgt := 18) dX11_aims_9 (by decide) ?_
    refine zj_callV (M' := mX11_laysLeft) (avs := [.int (v 223 32)]) (st := []) (ci := 11) dX11_aims_18 wm_X11_laysLeft wl_X11_273 wi_X11_laysLeft ws_X11_laysLeft (by decide) (zk_223 hL) rfl rfl (by decide) rfl (Nat.le_of_ble_eq_true rfl) (Nat.le_of_ble_eq_true rfl) ⟨Or.inl (z_k0 (zk_223 hL)), trivial⟩ trivial (z_J.mono h (fun r S1 v2 hq => ?_))
    obtain ⟨rfl, rfl, h⟩ := hq
    exact zj_vret dX11_aims_21 rfl h
theorem sg_X11_bad_0 {G : z_G} {d : Nat} {S : z_Shp} {v : z_Dat} {Q : Option Value → z_Shp → z_Dat → Prop} {x1 : Int32} {x2 : Int32} (hL : z_L S)
    (h : ∀ v1, v1 = z_u v 223 20 x1 → (∀ v2, v2 = z_u v1 223 21 x2 → (Q (some (.int 0)) S v2))) :
    z_J G d mX11_bad (0, [.ref 223, .int x1, .int x2], [], S, v) Q := by
  refine zj_aload_n dX11_bad_0 rfl rfl ?_
  refine zj_iload_n dX11_bad_1 rfl rfl ?_
  refine zj_putI (ci := 11) (j := 20) dX11_bad_2 wf_X11_193 (by decide) (by decide) (zk_223 hL) rfl rfl rfl rfl (fun v1 ev1 => ?_)
  replace h := h v1 ev1
  refine zj_aload_n dX11_bad_5 rfl rfl ?_
  refine zj_iload_n dX11_bad_6 rfl rfl ?_
  refine zj_putI (ci := 11) (j := 21) dX11_bad_7 wf_X11_196 (by decide) (by decide) (zk_223 hL) rfl rfl rfl rfl (fun v2 ev2 => ?_)
  replace h := h v2 ev2
  refine zj_iconst (x := 0) dX11_bad_10 rfl ?_
  exact zj_iret dX11_bad_11 rfl (by decide) h
theorem sg_X11_begins_0 {G : z_G} {d : Nat} {S : z_Shp} {v : z_Dat} {Q : Option Value → z_Shp → z_Dat → Prop} {x1 : Int32}
    (h : z_J G d mX11_begins (2, [.ref 223, .int x1, .int 0], [], S, v) Q) :
    z_J G d mX11_begins (0, [.ref 223, .int x1, .null], [], S, v) Q := by
  refine zj_iconst (x := 0) dX11_begins_0 rfl ?_
  refine zj_istore_n (ls2 := [.ref 223, .int x1, .int 0]) dX11_begins_1 rfl (by decide) rfl rfl ?_
  exact h
theorem sg_X11_begins_2 {G : z_G} {d : Nat} {S : z_Shp} {v : z_Dat} {Q : Option Value → z_Shp → z_Dat → Prop} {x1 : Int32} {x2 : Int32} (hL : z_L S)
    (h : (71 ≤ x2 → (∀ v1, v1 = z_u v 224 0 x1 → (z_J G d mX11_lays (0, [.ref 223, .null, .null, .null, .null], [], S, v1) (fun r S1 v2 => r = none ∧ S1 = S ∧ (Q none S v2))))) ∧ (¬ 71 ≤ x2 → ((22 ≤ x2 → (vp_in x2 71 ∧ (∀ v3, v3 = z_u v 224 x2.toNatClampNeg 1 → (z_J G (d + 1) mX11_begins (2, [.ref 223, .int x1, .int (x2 + 1)], [], S, v3) Q)))) ∧ (¬ 22 ≤ x2 → (vp_in x2 71 ∧ (∀ v4, v4 = z_u v 224 x2.toNatClampNeg 0 → (z_J G (d + 1) mX11_begins (2, [.ref 223, .int x1, .int (x2 + 1)], [], S, v4) Q))))))) :
    z_J G (d + 1) mX11_begins (2, [.ref 223, .int x1, .int x2], [], S, v) Q := by
  refine zj_iload_n dX11_begins_2 rfl rfl ?_
  refine zj_bipush (x := 71) dX11_begins_3 rfl ?_
  refine zj_icmp_ge (tgt := 31) dX11_begins_5 (by decide) (fun c => ?_) (fun c => ?_)
  · replace h := h.1 c
    refine zj_aload_n dX11_begins_31 rfl rfl ?_
    refine zj_getR (ci := 11) (j := 1) dX11_begins_32 wf_X11_13 (by decide) (by decide) (zk_223 hL) rfl (zr_223_1 hL) ?_
    refine zj_iconst (x := 0) dX11_begins_35 rfl ?_
    refine zj_iload_n dX11_begins_36 rfl rfl ?_
    refine zj_iastore dX11_begins_37 (zk_224 hL) (by rw [(zl_224 hL)]; exact z_vin (by decide)) (fun v1 ev1 => ?_)
    replace h := h v1 ev1
    refine zj_aload_n dX11_begins_38 rfl rfl ?_
    refine zj_callV (M' := mX11_lays) (avs := []) (st := []) (ci := 11) dX11_begins_39 wm_X11_lays wl_X11_131 wi_X11_lays ws_X11_lays (by decide) (zk_223 hL) rfl rfl (by decide) rfl (Nat.le_of_ble_eq_true rfl) (Nat.le_of_ble_eq_true rfl) ⟨Or.inl (z_k0 (zk_223 hL)), trivial⟩ trivial (z_J.mono h (fun r S1 v2 hq => ?_))
    obtain ⟨rfl, rfl, h⟩ := hq
    exact zj_vret dX11_begins_42 rfl h
  · replace h := h.2 c
    refine zj_aload_n dX11_begins_8 rfl rfl ?_
    refine zj_getR (ci := 11) (j := 1) dX11_begins_9 wf_X11_13 (by decide) (by decide) (zk_223 hL) rfl (zr_223_1 hL) ?_
    refine zj_iload_n dX11_begins_12 rfl rfl ?_
    refine zj_iload_n dX11_begins_13 rfl rfl ?_
    refine zj_bipush (x := 22) dX11_begins_14 rfl ?_
    refine zj_icmp_ge (tgt := 23) dX11_begins_16 (by decide) (fun c => ?_) (fun c => ?_)
    · replace h := h.1 c
      refine zj_iconst (x := 1) dX11_begins_23 rfl ?_
      refine zj_iastore dX11_begins_24 (zk_224 hL) (by rw [(zl_224 hL)]; exact h.1) (fun v3 ev3 => ?_)
      replace h := h.2 v3 ev3
      refine zj_iinc (y := x2 + 1) (ls2 := [.ref 223, .int x1, .int (x2 + 1)]) dX11_begins_25 rfl rfl (by decide) rfl rfl ?_
      refine zj_goto (tgt := 2) dX11_begins_28 (by decide) ?_
      exact h
    · replace h := h.2 c
      refine zj_iconst (x := 0) dX11_begins_19 rfl ?_
      refine zj_goto (tgt := 24) dX11_begins_20 (by decide) ?_
      refine zj_iastore dX11_begins_24 (zk_224 hL) (by rw [(zl_224 hL)]; exact h.1) (fun v4 ev4 => ?_)
      replace h := h.2 v4 ev4
      refine zj_iinc (y := x2 + 1) (ls2 := [.ref 223, .int x1, .int (x2 + 1)]) dX11_begins_25 rfl rfl (by decide) rfl rfl ?_
      refine zj_goto (tgt := 2) dX11_begins_28 (by decide) ?_
      exact h
theorem sg_X11_best_0 {G : z_G} {d : Nat} {S : z_Shp} {v : z_Dat} {Q : Option Value → z_Shp → z_Dat → Prop} {x1 : Int32} (hL : z_L S)
    (h : z_J G d mX11_lowest (0, [.int x1, .null], [], S, v) (fun r S1 v1 => ∃ y1 : Int32, r = some (.int y1) ∧ S1 = S ∧ (vp_in x1 16384 ∧ (∀ v2, v2 = z_u v1 244 x1.toNatClampNeg 1000000 → (vp_in x1 16384 ∧ (∀ v3, v3 = z_u v2 245 x1.toNatClampNeg 0 → (z_J G (d + 1) mX11_best (23, [.ref 223, .int x1, .int y1, .int (-1), .null, .null], [], S, v3) Q))))))) :
    z_J G (d + 1) mX11_best (0, [.ref 223, .int x1, .null, .null, .null, .null], [], S, v) Q := by
  refine zj_iload_n dX11_best_0 rfl rfl ?_
  refine zj_callS (M' := mX11_lowest) (avs := [.int x1]) (st := []) dX11_best_1 wm_X11_lowest wl_X11_292 wt_X11_lowest rfl (by decide) rfl (Nat.le_of_ble_eq_true rfl) (Nat.le_of_ble_eq_true rfl) ⟨Or.inl (z_k0 (zk_223 hL)), trivial⟩ trivial (z_J.mono h (fun r S1 v1 hq => ?_))
  obtain ⟨y1, rfl, rfl, h⟩ := hq
  refine zj_istore_n (ls2 := [.ref 223, .int x1, .int y1, .null, .null, .null]) dX11_best_4 rfl (by decide) rfl rfl ?_
  refine zj_aload_n dX11_best_5 rfl rfl ?_
  refine zj_getR (ci := 11) (j := 37) dX11_best_6 wf_X11_76 (by decide) (by decide) (zk_223 hL) rfl (zr_223_37 hL) ?_
  refine zj_iload_n dX11_best_9 rfl rfl ?_
  refine zj_ldcw (x := 1000000) dX11_best_10 wc_X11_263 ?_
  refine zj_iastore dX11_best_13 (zk_244 hL) (by rw [(zl_244 hL)]; exact h.1) (fun v2 ev2 => ?_)
  replace h := h.2 v2 ev2
  refine zj_aload_n dX11_best_14 rfl rfl ?_
  refine zj_getR (ci := 11) (j := 38) dX11_best_15 wf_X11_79 (by decide) (by decide) (zk_223 hL) rfl (zr_223_38 hL) ?_
  refine zj_iload_n dX11_best_18 rfl rfl ?_
  refine zj_iconst (x := 0) dX11_best_19 rfl ?_
  refine zj_iastore dX11_best_20 (zk_245 hL) (by rw [(zl_245 hL)]; exact h.1) (fun v3 ev3 => ?_)
  replace h := h.2 v3 ev3
  refine zj_iconst (x := (-1)) dX11_best_21 rfl ?_
  refine zj_istore_n (ls2 := [.ref 223, .int x1, .int y1, .int (-1), .null, .null]) dX11_best_22 rfl (by decide) rfl rfl ?_
  exact h
theorem sg_X11_best_23 {G : z_G} {d : Nat} {S : z_Shp} {v : z_Dat} {Q : Option Value → z_Shp → z_Dat → Prop} {x1 : Int32} {x2 : Int32} {x3 : Int32} (hL : z_L S)
    (h : ((v 223 33) ≤ x3 → (Q none S v)) ∧ (¬ (v 223 33) ≤ x3 → ((x3 < 0 → (z_J G d mX11_costOf (0, [.ref 223, .int x1, .int x2, .int x3], [], S, v) (fun r S1 v1 => ∃ y1 : Int32, r = some (.int y1) ∧ S1 = S ∧ ((0 ≤ x3 → ((vp_in ((x1 &&& (((1 : Int32) <<< (x2 &&& 31)) ^^^ (-1))) &&& (((1 : Int32) <<< (x3 &&& 31)) ^^^ (-1))) 16384) ∧ ((vp_in x1 16384) ∧ (((v1 244 x1.toNatClampNeg) ≤ y1 → ((vp_in x1 16384) ∧ ((¬ y1 = (v1 244 x1.toNatClampNeg) → (z_J G (d + 1) mX11_best (23, [.ref 223, .int x1, .int x2, .int (x3 + 1), .null, .null], [], S, v1) Q)) ∧ (y1 = (v1 244 x1.toNatClampNeg) → ((vp_in x1 16384) ∧ (vp_in x1 16384 ∧ (∀ v2, v2 = z_u v1 245 x1.toNatClampNeg ((v1 245 x1.toNatClampNeg) + (v1 245 ((x1 &&& (((1 : Int32) <<< (x2 &&& 31)) ^^^ (-1))) &&& (((1 : Int32) <<< (x3 &&& 31)) ^^^ (-1))).toNatClampNeg)) → (z_J G (d + 1) mX11_best (23, [.ref 223, .int x1, .int x2, .int (x3 + 1), .null, .null], [], S, v2) Q)))))))) ∧ (¬ (v1 244 x1.toNatClampNeg) ≤ y1 → (vp_in x1 16384 ∧ (∀ v3, v3 = z_u v1 244 x1.toNatClampNeg y1 → (vp_in x1 16384 ∧ (∀ v4, v4 = z_u v3 245 x1.toNatClampNeg (v1 245 ((x1 &&& (((1 : Int32) <<< (x2 &&& 31)) ^^^ (-1))) &&& (((1 : Int32) <<< (x3 &&& 31)) ^^^ (-1))).toNatClampNeg) → (z_J G (d + 1) mX11_best (23, [.ref 223, .int x1, .int x2, .int (x3 + 1), .null, .null], [], S, v4) Q)))))))))) ∧ (¬ 0 ≤ x3 → ((vp_in ((x1 &&& (((1 : Int32) <<< (x2 &&& 31)) ^^^ (-1))) &&& ((0 : Int32) ^^^ (-1))) 16384) ∧ ((vp_in x1 16384) ∧ (((v1 244 x1.toNatClampNeg) ≤ y1 → ((vp_in x1 16384) ∧ ((¬ y1 = (v1 244 x1.toNatClampNeg) → (z_J G (d + 1) mX11_best (23, [.ref 223, .int x1, .int x2, .int (x3 + 1), .null, .null], [], S, v1) Q)) ∧ (y1 = (v1 244 x1.toNatClampNeg) → ((vp_in x1 16384) ∧ (vp_in x1 16384 ∧ (∀ v5, v5 = z_u v1 245 x1.toNatClampNeg ((v1 245 x1.toNatClampNeg) + (v1 245 ((x1 &&& (((1 : Int32) <<< (x2 &&& 31)) ^^^ (-1))) &&& ((0 : Int32) ^^^ (-1))).toNatClampNeg)) → (z_J G (d + 1) mX11_best (23, [.ref 223, .int x1, .int x2, .int (x3 + 1), .null, .null], [], S, v5) Q)))))))) ∧ (¬ (v1 244 x1.toNatClampNeg) ≤ y1 → (vp_in x1 16384 ∧ (∀ v6, v6 = z_u v1 244 x1.toNatClampNeg y1 → (vp_in x1 16384 ∧ (∀ v7, v7 = z_u v6 245 x1.toNatClampNeg (v1 245 ((x1 &&& (((1 : Int32) <<< (x2 &&& 31)) ^^^ (-1))) &&& ((0 : Int32) ^^^ (-1))).toNatClampNeg) → (z_J G (d + 1) mX11_best (23, [.ref 223, .int x1, .int x2, .int (x3 + 1), .null, .null], [], S, v7) Q)))))))))))))) ∧ (¬ x3 < 0 → ((x3 = x2 → (z_J G (d + 1) mX11_best (23, [.ref 223, .int x1, .int x2, .int (x3 + 1), .null, .null], [], S, v) Q)) ∧ (¬ x3 = x2 → (((((x1 >>> (x3 &&& 31)) &&& 1) = 1) → (z_J G d mX11_costOf (0, [.ref 223, .int x1, .int x2, .int x3], [], S, v) (fun r S1 v8 => ∃ y2 : Int32, r = some (.int y2) ∧ S1 = S ∧ ((0 ≤ x3 → ((vp_in ((x1 &&& (((1 : Int32) <<< (x2 &&& 31)) ^^^ (-1))) &&& (((1 : Int32) <<< (x3 &&& 31)) ^^^ (-1))) 16384) ∧ ((vp_in x1 16384) ∧ (((v8 244 x1.toNatClampNeg) ≤ y2 → ((vp_in x1 16384) ∧ ((¬ y2 = (v8 244 x1.toNatClampNeg) → (z_J G (d + 1) mX11_best (23, [.ref 223, .int x1, .int x2, .int (x3 + 1), .null, .null], [], S, v8) Q)) ∧ (y2 = (v8 244 x1.toNatClampNeg) → ((vp_in x1 16384) ∧ (vp_in x1 16384 ∧ (∀ v9, v9 = z_u v8 245 x1.toNatClampNeg ((v8 245 x1.toNatClampNeg) + (v8 245 ((x1 &&& (((1 : Int32) <<< (x2 &&& 31)) ^^^ (-1))) &&& (((1 : Int32) <<< (x3 &&& 31)) ^^^ (-1))).toNatClampNeg)) → (z_J G (d + 1) mX11_best (23, [.ref 223, .int x1, .int x2, .int (x3 + 1), .null, .null], [], S, v9) Q)))))))) ∧ (¬ (v8 244 x1.toNatClampNeg) ≤ y2 → (vp_in x1 16384 ∧ (∀ v10, v10 = z_u v8 244 x1.toNatClampNeg y2 → (vp_in x1 16384 ∧ (∀ v11, v11 = z_u v10 245 x1.toNatClampNeg (v8 245 ((x1 &&& (((1 : Int32) <<< (x2 &&& 31)) ^^^ (-1))) &&& (((1 : Int32) <<< (x3 &&& 31)) ^^^ (-1))).toNatClampNeg) → (z_J G (d + 1) mX11_best (23, [.ref 223, .int x1, .int x2, .int (x3 + 1), .null, .null], [], S, v11) Q)))))))))) ∧ (¬ 0 ≤ x3 → ((vp_in ((x1 &&& (((1 : Int32) <<< (x2 &&& 31)) ^^^ (-1))) &&& ((0 : Int32) ^^^ (-1))) 16384) ∧ ((vp_in x1 16384) ∧ (((v8 244 x1.toNatClampNeg) ≤ y2 → ((vp_in x1 16384) ∧ ((¬ y2 = (v8 244 x1.toNatClampNeg) → (z_J G (d + 1) mX11_best (23, [.ref 223, .int x1, .int x2, .int (x3 + 1), .null, .null], [], S, v8) Q)) ∧ (y2 = (v8 244 x1.toNatClampNeg) → ((vp_in x1 16384) ∧ (vp_in x1 16384 ∧ (∀ v12, v12 = z_u v8 245 x1.toNatClampNeg ((v8 245 x1.toNatClampNeg) + (v8 245 ((x1 &&& (((1 : Int32) <<< (x2 &&& 31)) ^^^ (-1))) &&& ((0 : Int32) ^^^ (-1))).toNatClampNeg)) → (z_J G (d + 1) mX11_best (23, [.ref 223, .int x1, .int x2, .int (x3 + 1), .null, .null], [], S, v12) Q)))))))) ∧ (¬ (v8 244 x1.toNatClampNeg) ≤ y2 → (vp_in x1 16384 ∧ (∀ v13, v13 = z_u v8 244 x1.toNatClampNeg y2 → (vp_in x1 16384 ∧ (∀ v14, v14 = z_u v13 245 x1.toNatClampNeg (v8 245 ((x1 &&& (((1 : Int32) <<< (x2 &&& 31)) ^^^ (-1))) &&& ((0 : Int32) ^^^ (-1))).toNatClampNeg) → (z_J G (d + 1) mX11_best (23, [.ref 223, .int x1, .int x2, .int (x3 + 1), .null, .null], [], S, v14) Q)))))))))))))) ∧ (¬ (((x1 >>> (x3 &&& 31)) &&& 1) = 1) → (z_J G (d + 1) mX11_best (23, [.ref 223, .int x1, .int x2, .int (x3 + 1), .null, .null], [], S, v) Q))))))))) :
    z_J G (d + 1) mX11_best (23, [.ref 223, .int x1, .int x2, .int x3, .null, .null], [], S, v) Q := by
  refine zj_iload_n dX11_best_23 rfl rfl ?_
  refine zj_aload_n dX11_best_24 rfl rfl ?_
  refine zj_getI (ci := 11) (j := 33) dX11_best_25 wf_X11_257 (by decide) (by decide) (zk_223 hL) rfl ?_
  refine zj_icmp_ge (tgt := 146) dX11_best_28 (by decide) (fun c => ?_) (fun c => ?_)
  · replace h := h.1 c
    exact zj_vret dX11_best_146 rfl h
  · replace h := h.2 c
    refine zj_iload_n dX11_best_31 rfl rfl ?_
    refine zj_if_lt (tgt := 51) dX11_best_32 (by decide) (fun c => ?_) (fun c => ?_)
    · replace h := h.1 c
      refine zj_aload_n dX11_best_51 rfl rfl ?_
      refine zj_iload_n dX11_best_52 rfl rfl ?_
      refine zj_iload_n dX11_best_53 rfl rfl ?_
      refine zj_iload_n dX11_best_54 rfl rfl ?_
      refine zj_callV (M' := mX11_costOf) (avs := [.int x1, .int x2, .int x3]) (st := []) (ci := 11) dX11_best_55 wm_X11_costOf wl_X11_295 wi_X11_costOf ws_X11_costOf (by decide) (zk_223 hL) rfl rfl (by decide) rfl (Nat.le_of_ble_eq_true rfl) (Nat.le_of_ble_eq_true rfl) ⟨Or.inl (z_k0 (zk_223 hL)), trivial⟩ trivial (z_J.mono h (fun r S1 v1 hq => ?_))
      obtain ⟨y1, rfl, rfl, h⟩ := hq
      refine zj_istore (ls2 := [.ref 223, .int x1, .int x2, .int x3, .int y1, .null]) dX11_best_58 (by decide) rfl rfl ?_
      refine zj_aload_n dX11_best_60 rfl rfl ?_
      refine zj_getR (ci := 11) (j := 38) dX11_best_61 wf_X11_79 (by decide) (by decide) (zk_223 hL) rfl (zr_223_38 hL) ?_
      refine zj_iload_n dX11_best_64 rfl rfl ?_
      refine zj_iconst (x := 1) dX11_best_65 rfl ?_
      refine zj_iload_n dX11_best_66 rfl rfl ?_
      refine zj_ishl dX11_best_67 ?_
      refine zj_iconst (x := (-1)) dX11_best_68 rfl ?_
      refine zj_ixor dX11_best_69 ?_
      refine zj_iand dX11_best_70 ?_
      refine zj_iload_n dX11_best_71 rfl rfl ?_
      refine zj_if_ge (tgt := 79) dX11_best_72 (by decide) (fun c => ?_) (fun c => ?_)
      · replace h := h.1 c
        refine zj_iconst (x := 1) dX11_best_79 rfl ?_
        refine zj_iload_n dX11_best_80 rfl rfl ?_
        refine zj_ishl dX11_best_81 ?_
        refine zj_iconst (x := (-1)) dX11_best_82 rfl ?_
        refine zj_ixor dX11_best_83 ?_
        refine zj_iand dX11_best_84 ?_
        refine zj_iaload dX11_best_85 (zk_245 hL) (by rw [(zl_245 hL)]; exact h.1) ?_
        replace h := h.2
        refine zj_istore (ls2 := [.ref 223, .int x1, .int x2, .int x3, .int y1, .int (v1 245 ((x1 &&& (((1 : Int32) <<< (x2 &&& 31)) ^^^ (-1))) &&& (((1 : Int32) <<< (x3 &&& 31)) ^^^ (-1))).toNatClampNeg)]) dX11_best_86 (by decide) rfl rfl ?_
        refine zj_iload dX11_best_88 rfl ?_
        refine zj_aload_n dX11_best_90 rfl rfl ?_
        refine zj_getR (ci := 11) (j := 37) dX11_best_91 wf_X11_76 (by decide) (by decide) (zk_223 hL) rfl (zr_223_37 hL) ?_
        refine zj_iload_n dX11_best_94 rfl rfl ?_
        refine zj_iaload dX11_best_95 (zk_244 hL) (by rw [(zl_244 hL)]; exact h.1) ?_
        replace h := h.2
        refine zj_icmp_ge (tgt := 118) dX11_best_96 (by decide) (fun c => ?_) (fun c => ?_)
        · replace h := h.1 c
          refine zj_iload dX11_best_118 rfl ?_
          refine zj_aload_n dX11_best_120 rfl rfl ?_
          refine zj_getR (ci := 11) (j := 37) dX11_best_121 wf_X11_76 (by decide) (by decide) (zk_223 hL) rfl (zr_223_37 hL) ?_
          refine zj_iload_n dX11_best_124 rfl rfl ?_
          refine zj_iaload dX11_best_125 (zk_244 hL) (by rw [(zl_244 hL)]; exact h.1) ?_
          replace h := h.2
          refine zj_icmp_ne (tgt := 140) dX11_best_126 (by decide) (fun c => ?_) (fun c => ?_)
          · replace h := h.1 c
            refine zj_iinc (y := x3 + 1) (ls2 := [.ref 223, .int x1, .int x2, .int (x3 + 1), .int y1, .int (v1 245 ((x1 &&& (((1 : Int32) <<< (x2 &&& 31)) ^^^ (-1))) &&& (((1 : Int32) <<< (x3 &&& 31)) ^^^ (-1))).toNatClampNeg)]) dX11_best_140 rfl rfl (by decide) rfl rfl ?_
            refine zj_goto (tgt := 23) dX11_best_143 (by decide) ?_
            refine zj_forget (ls2 := [.ref 223, .int x1, .int x2, .int (x3 + 1), .null, .null]) ⟨Or.inr rfl, Or.inr rfl, Or.inr rfl, Or.inr rfl, Or.inl rfl, Or.inl rfl, trivial⟩ ?_
            exact h
          · replace h := h.2 c
            refine zj_aload_n dX11_best_129 rfl rfl ?_
            refine zj_getR (ci := 11) (j := 38) dX11_best_130 wf_X11_79 (by decide) (by decide) (zk_223 hL) rfl (zr_223_38 hL) ?_
            refine zj_iload_n dX11_best_133 rfl rfl ?_
            refine zj_dup2 dX11_best_134 rfl rfl ?_
            refine zj_iaload dX11_best_135 (zk_245 hL) (by rw [(zl_245 hL)]; exact h.1) ?_
            replace h := h.2
            refine zj_iload dX11_best_136 rfl ?_
            refine zj_iadd dX11_best_138 ?_
            refine zj_iastore dX11_best_139 (zk_245 hL) (by rw [(zl_245 hL)]; exact h.1) (fun v2 ev2 => ?_)
            replace h := h.2 v2 ev2
            refine zj_iinc (y := x3 + 1) (ls2 := [.ref 223, .int x1, .int x2, .int (x3 + 1), .int y1, .int (v1 245 ((x1 &&& (((1 : Int32) <<< (x2 &&& 31)) ^^^ (-1))) &&& (((1 : Int32) <<< (x3 &&& 31)) ^^^ (-1))).toNatClampNeg)]) dX11_best_140 rfl rfl (by decide) rfl rfl ?_
            refine zj_goto (tgt := 23) dX11_best_143 (by decide) ?_
            refine zj_forget (ls2 := [.ref 223, .int x1, .int x2, .int (x3 + 1), .null, .null]) ⟨Or.inr rfl, Or.inr rfl, Or.inr rfl, Or.inr rfl, Or.inl rfl, Or.inl rfl, trivial⟩ ?_
            exact h
        · replace h := h.2 c
          refine zj_aload_n dX11_best_99 rfl rfl ?_
          refine zj_getR (ci := 11) (j := 37) dX11_best_100 wf_X11_76 (by decide) (by decide) (zk_223 hL) rfl (zr_223_37 hL) ?_
          refine zj_iload_n dX11_best_103 rfl rfl ?_
          refine zj_iload dX11_best_104 rfl ?_
          refine zj_iastore dX11_best_106 (zk_244 hL) (by rw [(zl_244 hL)]; exact h.1) (fun v3 ev3 => ?_)
          replace h := h.2 v3 ev3
          refine zj_aload_n dX11_best_107 rfl rfl ?_
          refine zj_getR (ci := 11) (j := 38) dX11_best_108 wf_X11_79 (by decide) (by decide) (zk_223 hL) rfl (zr_223_38 hL) ?_
          refine zj_iload_n dX11_best_111 rfl rfl ?_
          refine zj_iload dX11_best_112 rfl ?_
          refine zj_iastore dX11_best_114 (zk_245 hL) (by rw [(zl_245 hL)]; exact h.1) (fun v4 ev4 => ?_)
          replace h := h.2 v4 ev4
          refine zj_goto (tgt := 140) dX11_best_115 (by decide) ?_
          refine zj_iinc (y := x3 + 1) (ls2 := [.ref 223, .int x1, .int x2, .int (x3 + 1), .int y1, .int (v1 245 ((x1 &&& (((1 : Int32) <<< (x2 &&& 31)) ^^^ (-1))) &&& (((1 : Int32) <<< (x3 &&& 31)) ^^^ (-1))).toNatClampNeg)]) dX11_best_140 rfl rfl (by decide) rfl rfl ?_
          refine zj_goto (tgt := 23) dX11_best_143 (by decide) ?_
          refine zj_forget (ls2 := [.ref 223, .int x1, .int x2, .int (x3 + 1), .null, .null]) ⟨Or.inr rfl, Or.inr rfl, Or.inr rfl, Or.inr rfl, Or.inl rfl, Or.inl rfl, trivial⟩ ?_
          exact h
      · replace h := h.2 c
        refine zj_iconst (x := 0) dX11_best_75 rfl ?_
        refine zj_goto (tgt := 82) dX11_best_76 (by decide) ?_
        refine zj_iconst (x := (-1)) dX11_best_82 rfl ?_
        refine zj_ixor dX11_best_83 ?_
        refine zj_iand dX11_best_84 ?_
        refine zj_iaload dX11_best_85 (zk_245 hL) (by rw [(zl_245 hL)]; exact h.1) ?_
        replace h := h.2
        refine zj_istore (ls2 := [.ref 223, .int x1, .int x2, .int x3, .int y1, .int (v1 245 ((x1 &&& (((1 : Int32) <<< (x2 &&& 31)) ^^^ (-1))) &&& ((0 : Int32) ^^^ (-1))).toNatClampNeg)]) dX11_best_86 (by decide) rfl rfl ?_
        refine zj_iload dX11_best_88 rfl ?_
        refine zj_aload_n dX11_best_90 rfl rfl ?_
        refine zj_getR (ci := 11) (j := 37) dX11_best_91 wf_X11_76 (by decide) (by decide) (zk_223 hL) rfl (zr_223_37 hL) ?_
        refine zj_iload_n dX11_best_94 rfl rfl ?_
        refine zj_iaload dX11_best_95 (zk_244 hL) (by rw [(zl_244 hL)]; exact h.1) ?_
        replace h := h.2
        refine zj_icmp_ge (tgt := 118) dX11_best_96 (by decide) (fun c => ?_) (fun c => ?_)
        · replace h := h.1 c
          refine zj_iload dX11_best_118 rfl ?_
          refine zj_aload_n dX11_best_120 rfl rfl ?_
          refine zj_getR (ci := 11) (j := 37) dX11_best_121 wf_X11_76 (by decide) (by decide) (zk_223 hL) rfl (zr_223_37 hL) ?_
          refine zj_iload_n dX11_best_124 rfl rfl ?_
          refine zj_iaload dX11_best_125 (zk_244 hL) (by rw [(zl_244 hL)]; exact h.1) ?_
          replace h := h.2
          refine zj_icmp_ne (tgt := 140) dX11_best_126 (by decide) (fun c => ?_) (fun c => ?_)
          · replace h := h.1 c
            refine zj_iinc (y := x3 + 1) (ls2 := [.ref 223, .int x1, .int x2, .int (x3 + 1), .int y1, .int (v1 245 ((x1 &&& (((1 : Int32) <<< (x2 &&& 31)) ^^^ (-1))) &&& ((0 : Int32) ^^^ (-1))).toNatClampNeg)]) dX11_best_140 rfl rfl (by decide) rfl rfl ?_
            refine zj_goto (tgt := 23) dX11_best_143 (by decide) ?_
            refine zj_forget (ls2 := [.ref 223, .int x1, .int x2, .int (x3 + 1), .null, .null]) ⟨Or.inr rfl, Or.inr rfl, Or.inr rfl, Or.inr rfl, Or.inl rfl, Or.inl rfl, trivial⟩ ?_
            exact h
          · replace h := h.2 c
            refine zj_aload_n dX11_best_129 rfl rfl ?_
            refine zj_getR (ci := 11) (j := 38) dX11_best_130 wf_X11_79 (by decide) (by decide) (zk_223 hL) rfl (zr_223_38 hL) ?_
            refine zj_iload_n dX11_best_133 rfl rfl ?_
            refine zj_dup2 dX11_best_134 rfl rfl ?_
            refine zj_iaload dX11_best_135 (zk_245 hL) (by rw [(zl_245 hL)]; exact h.1) ?_
            replace h := h.2
            refine zj_iload dX11_best_136 rfl ?_
            refine zj_iadd dX11_best_138 ?_
            refine zj_iastore dX11_best_139 (zk_245 hL) (by rw [(zl_245 hL)]; exact h.1) (fun v5 ev5 => ?_)
            replace h := h.2 v5 ev5
            refine zj_iinc (y := x3 + 1) (ls2 := [.ref 223, .int x1, .int x2, .int (x3 + 1), .int y1, .int (v1 245 ((x1 &&& (((1 : Int32) <<< (x2 &&& 31)) ^^^ (-1))) &&& ((0 : Int32) ^^^ (-1))).toNatClampNeg)]) dX11_best_140 rfl rfl (by decide) rfl rfl ?_
            refine zj_goto (tgt := 23) dX11_best_143 (by decide) ?_
            refine zj_forget (ls2 := [.ref 223, .int x1, .int x2, .int (x3 + 1), .null, .null]) ⟨Or.inr rfl, Or.inr rfl, Or.inr rfl, Or.inr rfl, Or.inl rfl, Or.inl rfl, trivial⟩ ?_
            exact h
        · replace h := h.2 c
          refine zj_aload_n dX11_best_99 rfl rfl ?_
          refine zj_getR (ci := 11) (j := 37) dX11_best_100 wf_X11_76 (by decide) (by decide) (zk_223 hL) rfl (zr_223_37 hL) ?_
          refine zj_iload_n dX11_best_103 rfl rfl ?_
          refine zj_iload dX11_best_104 rfl ?_
          refine zj_iastore dX11_best_106 (zk_244 hL) (by rw [(zl_244 hL)]; exact h.1) (fun v6 ev6 => ?_)
          replace h := h.2 v6 ev6
          refine zj_aload_n dX11_best_107 rfl rfl ?_
          refine zj_getR (ci := 11) (j := 38) dX11_best_108 wf_X11_79 (by decide) (by decide) (zk_223 hL) rfl (zr_223_38 hL) ?_
          refine zj_iload_n dX11_best_111 rfl rfl ?_
          refine zj_iload dX11_best_112 rfl ?_
          refine zj_iastore dX11_best_114 (zk_245 hL) (by rw [(zl_245 hL)]; exact h.1) (fun v7 ev7 => ?_)
          replace h := h.2 v7 ev7
          refine zj_goto (tgt := 140) dX11_best_115 (by decide) ?_
          refine zj_iinc (y := x3 + 1) (ls2 := [.ref 223, .int x1, .int x2, .int (x3 + 1), .int y1, .int (v1 245 ((x1 &&& (((1 : Int32) <<< (x2 &&& 31)) ^^^ (-1))) &&& ((0 : Int32) ^^^ (-1))).toNatClampNeg)]) dX11_best_140 rfl rfl (by decide) rfl rfl ?_
          refine zj_goto (tgt := 23) dX11_best_143 (by decide) ?_
          refine zj_forget (ls2 := [.ref 223, .int x1, .int x2, .int (x3 + 1), .null, .null]) ⟨Or.inr rfl, Or.inr rfl, Or.inr rfl, Or.inr rfl, Or.inl rfl, Or.inl rfl, trivial⟩ ?_
          exact h
    · replace h := h.2 c
      refine zj_iload_n dX11_best_35 rfl rfl ?_
      refine zj_iload_n dX11_best_36 rfl rfl ?_
      refine zj_icmp_eq (tgt := 140) dX11_best_37 (by decide) (fun c => ?_) (fun c => ?_)
      · replace h := h.1 c
        refine zj_iinc (y := x3 + 1) (ls2 := [.ref 223, .int x1, .int x2, .int (x3 + 1), .null, .null]) dX11_best_140 rfl rfl (by decide) rfl rfl ?_
        refine zj_goto (tgt := 23) dX11_best_143 (by decide) ?_
        exact h
      · replace h := h.2 c
        refine zj_iload_n dX11_best_40 rfl rfl ?_
        refine zj_iload_n dX11_best_41 rfl rfl ?_
        refine zj_callS (M' := mX11_bitOf) (avs := [.int x1, .int x3]) (st := []) dX11_best_42 wm_X11_bitOf wl_X11_161 wt_X11_bitOf rfl (by decide) rfl (Nat.le_of_ble_eq_true rfl) (Nat.le_of_ble_eq_true rfl) ⟨Or.inl (z_k0 (zk_223 hL)), trivial⟩ trivial (hp_X11_bitOf (fun c => ?_) (fun c => ?_))
        · replace h := h.1 c
          refine zj_if_ne (tgt := 51) dX11_best_45 (by decide) (fun _ => ?_) (fun q => absurd q (by decide))
          refine zj_aload_n dX11_best_51 rfl rfl ?_
          refine zj_iload_n dX11_best_52 rfl rfl ?_
          refine zj_iload_n dX11_best_53 rfl rfl ?_
          refine zj_iload_n dX11_best_54 rfl rfl ?_
          refine zj_callV (M' := mX11_costOf) (avs := [.int x1, .int x2, .int x3]) (st := []) (ci := 11) dX11_best_55 wm_X11_costOf wl_X11_295 wi_X11_costOf ws_X11_costOf (by decide) (zk_223 hL) rfl rfl (by decide) rfl (Nat.le_of_ble_eq_true rfl) (Nat.le_of_ble_eq_true rfl) ⟨Or.inl (z_k0 (zk_223 hL)), trivial⟩ trivial (z_J.mono h (fun r S1 v8 hq => ?_))
          obtain ⟨y2, rfl, rfl, h⟩ := hq
          refine zj_istore (ls2 := [.ref 223, .int x1, .int x2, .int x3, .int y2, .null]) dX11_best_58 (by decide) rfl rfl ?_
          refine zj_aload_n dX11_best_60 rfl rfl ?_
          refine zj_getR (ci := 11) (j := 38) dX11_best_61 wf_X11_79 (by decide) (by decide) (zk_223 hL) rfl (zr_223_38 hL) ?_
          refine zj_iload_n dX11_best_64 rfl rfl ?_
          refine zj_iconst (x := 1) dX11_best_65 rfl ?_
          refine zj_iload_n dX11_best_66 rfl rfl ?_
          refine zj_ishl dX11_best_67 ?_
          refine zj_iconst (x := (-1)) dX11_best_68 rfl ?_
          refine zj_ixor dX11_best_69 ?_
          refine zj_iand dX11_best_70 ?_
          refine zj_iload_n dX11_best_71 rfl rfl ?_
          refine zj_if_ge (tgt := 79) dX11_best_72 (by decide) (fun c => ?_) (fun c => ?_)
          · replace h := h.1 c
            refine zj_iconst (x := 1) dX11_best_79 rfl ?_
            refine zj_iload_n dX11_best_80 rfl rfl ?_
            refine zj_ishl dX11_best_81 ?_
            refine zj_iconst (x := (-1)) dX11_best_82 rfl ?_
            refine zj_ixor dX11_best_83 ?_
            refine zj_iand dX11_best_84 ?_
            refine zj_iaload dX11_best_85 (zk_245 hL) (by rw [(zl_245 hL)]; exact h.1) ?_
            replace h := h.2
            refine zj_istore (ls2 := [.ref 223, .int x1, .int x2, .int x3, .int y2, .int (v8 245 ((x1 &&& (((1 : Int32) <<< (x2 &&& 31)) ^^^ (-1))) &&& (((1 : Int32) <<< (x3 &&& 31)) ^^^ (-1))).toNatClampNeg)]) dX11_best_86 (by decide) rfl rfl ?_
            refine zj_iload dX11_best_88 rfl ?_
            refine zj_aload_n dX11_best_90 rfl rfl ?_
            refine zj_getR (ci := 11) (j := 37) dX11_best_91 wf_X11_76 (by decide) (by decide) (zk_223 hL) rfl (zr_223_37 hL) ?_
            refine zj_iload_n dX11_best_94 rfl rfl ?_
            refine zj_iaload dX11_best_95 (zk_244 hL) (by rw [(zl_244 hL)]; exact h.1) ?_
            replace h := h.2
            refine zj_icmp_ge (tgt := 118) dX11_best_96 (by decide) (fun c => ?_) (fun c => ?_)
            · replace h := h.1 c
              refine zj_iload dX11_best_118 rfl ?_
              refine zj_aload_n dX11_best_120 rfl rfl ?_
              refine zj_getR (ci := 11) (j := 37) dX11_best_121 wf_X11_76 (by decide) (by decide) (zk_223 hL) rfl (zr_223_37 hL) ?_
              refine zj_iload_n dX11_best_124 rfl rfl ?_
              refine zj_iaload dX11_best_125 (zk_244 hL) (by rw [(zl_244 hL)]; exact h.1) ?_
              replace h := h.2
              refine zj_icmp_ne (tgt := 140) dX11_best_126 (by decide) (fun c => ?_) (fun c => ?_)
              · replace h := h.1 c
                refine zj_iinc (y := x3 + 1) (ls2 := [.ref 223, .int x1, .int x2, .int (x3 + 1), .int y2, .int (v8 245 ((x1 &&& (((1 : Int32) <<< (x2 &&& 31)) ^^^ (-1))) &&& (((1 : Int32) <<< (x3 &&& 31)) ^^^ (-1))).toNatClampNeg)]) dX11_best_140 rfl rfl (by decide) rfl rfl ?_
                refine zj_goto (tgt := 23) dX11_best_143 (by decide) ?_
                refine zj_forget (ls2 := [.ref 223, .int x1, .int x2, .int (x3 + 1), .null, .null]) ⟨Or.inr rfl, Or.inr rfl, Or.inr rfl, Or.inr rfl, Or.inl rfl, Or.inl rfl, trivial⟩ ?_
                exact h
              · replace h := h.2 c
                refine zj_aload_n dX11_best_129 rfl rfl ?_
                refine zj_getR (ci := 11) (j := 38) dX11_best_130 wf_X11_79 (by decide) (by decide) (zk_223 hL) rfl (zr_223_38 hL) ?_
                refine zj_iload_n dX11_best_133 rfl rfl ?_
                refine zj_dup2 dX11_best_134 rfl rfl ?_
                refine zj_iaload dX11_best_135 (zk_245 hL) (by rw [(zl_245 hL)]; exact h.1) ?_
                replace h := h.2
                refine zj_iload dX11_best_136 rfl ?_
                refine zj_iadd dX11_best_138 ?_
                refine zj_iastore dX11_best_139 (zk_245 hL) (by rw [(zl_245 hL)]; exact h.1) (fun v9 ev9 => ?_)
                replace h := h.2 v9 ev9
                refine zj_iinc (y := x3 + 1) (ls2 := [.ref 223, .int x1, .int x2, .int (x3 + 1), .int y2, .int (v8 245 ((x1 &&& (((1 : Int32) <<< (x2 &&& 31)) ^^^ (-1))) &&& (((1 : Int32) <<< (x3 &&& 31)) ^^^ (-1))).toNatClampNeg)]) dX11_best_140 rfl rfl (by decide) rfl rfl ?_
                refine zj_goto (tgt := 23) dX11_best_143 (by decide) ?_
                refine zj_forget (ls2 := [.ref 223, .int x1, .int x2, .int (x3 + 1), .null, .null]) ⟨Or.inr rfl, Or.inr rfl, Or.inr rfl, Or.inr rfl, Or.inl rfl, Or.inl rfl, trivial⟩ ?_
                exact h
            · replace h := h.2 c
              refine zj_aload_n dX11_best_99 rfl rfl ?_
              refine zj_getR (ci := 11) (j := 37) dX11_best_100 wf_X11_76 (by decide) (by decide) (zk_223 hL) rfl (zr_223_37 hL) ?_
              refine zj_iload_n dX11_best_103 rfl rfl ?_
              refine zj_iload dX11_best_104 rfl ?_
              refine zj_iastore dX11_best_106 (zk_244 hL) (by rw [(zl_244 hL)]; exact h.1) (fun v10 ev10 => ?_)
              replace h := h.2 v10 ev10
              refine zj_aload_n dX11_best_107 rfl rfl ?_
              refine zj_getR (ci := 11) (j := 38) dX11_best_108 wf_X11_79 (by decide) (by decide) (zk_223 hL) rfl (zr_223_38 hL) ?_
              refine zj_iload_n dX11_best_111 rfl rfl ?_
              refine zj_iload dX11_best_112 rfl ?_
              refine zj_iastore dX11_best_114 (zk_245 hL) (by rw [(zl_245 hL)]; exact h.1) (fun v11 ev11 => ?_)
              replace h := h.2 v11 ev11
              refine zj_goto (tgt := 140) dX11_best_115 (by decide) ?_
              refine zj_iinc (y := x3 + 1) (ls2 := [.ref 223, .int x1, .int x2, .int (x3 + 1), .int y2, .int (v8 245 ((x1 &&& (((1 : Int32) <<< (x2 &&& 31)) ^^^ (-1))) &&& (((1 : Int32) <<< (x3 &&& 31)) ^^^ (-1))).toNatClampNeg)]) dX11_best_140 rfl rfl (by decide) rfl rfl ?_
              refine zj_goto (tgt := 23) dX11_best_143 (by decide) ?_
              refine zj_forget (ls2 := [.ref 223, .int x1, .int x2, .int (x3 + 1), .null, .null]) ⟨Or.inr rfl, Or.inr rfl, Or.inr rfl, Or.inr rfl, Or.inl rfl, Or.inl rfl, trivial⟩ ?_
              exact h
          · replace h := h.2 c
            refine zj_iconst (x := 0) dX11_best_75 rfl ?_
            refine zj_goto (tgt := 82) dX11_best_76 (by decide) ?_
            refine zj_iconst (x := (-1)) dX11_best_82 rfl ?_
            refine zj_ixor dX11_best_83 ?_
            refine zj_iand dX11_best_84 ?_
            refine zj_iaload dX11_best_85 (zk_245 hL) (by rw [(zl_245 hL)]; exact h.1) ?_
            replace h := h.2
            refine zj_istore (ls2 := [.ref 223, .int x1, .int x2, .int x3, .int y2, .int (v8 245 ((x1 &&& (((1 : Int32) <<< (x2 &&& 31)) ^^^ (-1))) &&& ((0 : Int32) ^^^ (-1))).toNatClampNeg)]) dX11_best_86 (by decide) rfl rfl ?_
            refine zj_iload dX11_best_88 rfl ?_
            refine zj_aload_n dX11_best_90 rfl rfl ?_
            refine zj_getR (ci := 11) (j := 37) dX11_best_91 wf_X11_76 (by decide) (by decide) (zk_223 hL) rfl (zr_223_37 hL) ?_
            refine zj_iload_n dX11_best_94 rfl rfl ?_
            refine zj_iaload dX11_best_95 (zk_244 hL) (by rw [(zl_244 hL)]; exact h.1) ?_
            replace h := h.2
            refine zj_icmp_ge (tgt := 118) dX11_best_96 (by decide) (fun c => ?_) (fun c => ?_)
            · replace h := h.1 c
              refine zj_iload dX11_best_118 rfl ?_
              refine zj_aload_n dX11_best_120 rfl rfl ?_
              refine zj_getR (ci := 11) (j := 37) dX11_best_121 wf_X11_76 (by decide) (by decide) (zk_223 hL) rfl (zr_223_37 hL) ?_
              refine zj_iload_n dX11_best_124 rfl rfl ?_
              refine zj_iaload dX11_best_125 (zk_244 hL) (by rw [(zl_244 hL)]; exact h.1) ?_
              replace h := h.2
              refine zj_icmp_ne (tgt := 140) dX11_best_126 (by decide) (fun c => ?_) (fun c => ?_)
              · replace h := h.1 c
                refine zj_iinc (y := x3 + 1) (ls2 := [.ref 223, .int x1, .int x2, .int (x3 + 1), .int y2, .int (v8 245 ((x1 &&& (((1 : Int32) <<< (x2 &&& 31)) ^^^ (-1))) &&& ((0 : Int32) ^^^ (-1))).toNatClampNeg)]) dX11_best_140 rfl rfl (by decide) rfl rfl ?_
                refine zj_goto (tgt := 23) dX11_best_143 (by decide) ?_
                refine zj_forget (ls2 := [.ref 223, .int x1, .int x2, .int (x3 + 1), .null, .null]) ⟨Or.inr rfl, Or.inr rfl, Or.inr rfl, Or.inr rfl, Or.inl rfl, Or.inl rfl, trivial⟩ ?_
                exact h
              · replace h := h.2 c
                refine zj_aload_n dX11_best_129 rfl rfl ?_
                refine zj_getR (ci := 11) (j := 38) dX11_best_130 wf_X11_79 (by decide) (by decide) (zk_223 hL) rfl (zr_223_38 hL) ?_
                refine zj_iload_n dX11_best_133 rfl rfl ?_
                refine zj_dup2 dX11_best_134 rfl rfl ?_
                refine zj_iaload dX11_best_135 (zk_245 hL) (by rw [(zl_245 hL)]; exact h.1) ?_
                replace h := h.2
                refine zj_iload dX11_best_136 rfl ?_
                refine zj_iadd dX11_best_138 ?_
                refine zj_iastore dX11_best_139 (zk_245 hL) (by rw [(zl_245 hL)]; exact h.1) (fun v12 ev12 => ?_)
                replace h := h.2 v12 ev12
                refine zj_iinc (y := x3 + 1) (ls2 := [.ref 223, .int x1, .int x2, .int (x3 + 1), .int y2, .int (v8 245 ((x1 &&& (((1 : Int32) <<< (x2 &&& 31)) ^^^ (-1))) &&& ((0 : Int32) ^^^ (-1))).toNatClampNeg)]) dX11_best_140 rfl rfl (by decide) rfl rfl ?_
                refine zj_goto (tgt := 23) dX11_best_143 (by decide) ?_
                refine zj_forget (ls2 := [.ref 223, .int x1, .int x2, .int (x3 + 1), .null, .null]) ⟨Or.inr rfl, Or.inr rfl, Or.inr rfl, Or.inr rfl, Or.inl rfl, Or.inl rfl, trivial⟩ ?_
                exact h
            · replace h := h.2 c
              refine zj_aload_n dX11_best_99 rfl rfl ?_
              refine zj_getR (ci := 11) (j := 37) dX11_best_100 wf_X11_76 (by decide) (by decide) (zk_223 hL) rfl (zr_223_37 hL) ?_
              refine zj_iload_n dX11_best_103 rfl rfl ?_
              refine zj_iload dX11_best_104 rfl ?_
              refine zj_iastore dX11_best_106 (zk_244 hL) (by rw [(zl_244 hL)]; exact h.1) (fun v13 ev13 => ?_)
              replace h := h.2 v13 ev13
              refine zj_aload_n dX11_best_107 rfl rfl ?_
              refine zj_getR (ci := 11) (j := 38) dX11_best_108 wf_X11_79 (by decide) (by decide) (zk_223 hL) rfl (zr_223_38 hL) ?_
              refine zj_iload_n dX11_best_111 rfl rfl ?_
              refine zj_iload dX11_best_112 rfl ?_
              refine zj_iastore dX11_best_114 (zk_245 hL) (by rw [(zl_245 hL)]; exact h.1) (fun v14 ev14 => ?_)
              replace h := h.2 v14 ev14
              refine zj_goto (tgt := 140) dX11_best_115 (by decide) ?_
              refine zj_iinc (y := x3 + 1) (ls2 := [.ref 223, .int x1, .int x2, .int (x3 + 1), .int y2, .int (v8 245 ((x1 &&& (((1 : Int32) <<< (x2 &&& 31)) ^^^ (-1))) &&& ((0 : Int32) ^^^ (-1))).toNatClampNeg)]) dX11_best_140 rfl rfl (by decide) rfl rfl ?_
              refine zj_goto (tgt := 23) dX11_best_143 (by decide) ?_
              refine zj_forget (ls2 := [.ref 223, .int x1, .int x2, .int (x3 + 1), .null, .null]) ⟨Or.inr rfl, Or.inr rfl, Or.inr rfl, Or.inr rfl, Or.inl rfl, Or.inl rfl, trivial⟩ ?_
              exact h
        · replace h := h.2 c
          refine zj_if_ne (tgt := 51) dX11_best_45 (by decide) (fun q => absurd (by decide) q) (fun _ => ?_)
          refine zj_goto (tgt := 140) dX11_best_48 (by decide) ?_
          refine zj_iinc (y := x3 + 1) (ls2 := [.ref 223, .int x1, .int x2, .int (x3 + 1), .null, .null]) dX11_best_140 rfl rfl (by decide) rfl rfl ?_
          refine zj_goto (tgt := 23) dX11_best_143 (by decide) ?_
          exact h
theorem sg_X11_bitsOn_0 {G : z_G} {d : Nat} {S : z_Shp} {v : z_Dat} {Q : Option Value → z_Shp → z_Dat → Prop} {x1 : Int32} {x2 : Int32}
    (h : z_J G d mX11_bitsOn (7, [.ref 223, .int x1, .int x2, .int 0, .int (x1 - 1), .null], [], S, v) Q) :
    z_J G d mX11_bitsOn (0, [.ref 223, .int x1, .int x2, .null, .null, .null], [], S, v) Q := by
  refine zj_iconst (x := 0) dX11_bitsOn_0 rfl ?_
  refine zj_istore_n (ls2 := [.ref 223, .int x1, .int x2, .int 0, .null, .null]) dX11_bitsOn_1 rfl (by decide) rfl rfl ?_
  refine zj_iload_n dX11_bitsOn_2 rfl rfl ?_
  refine zj_iconst (x := 1) dX11_bitsOn_3 rfl ?_
  refine zj_isub dX11_bitsOn_4 ?_
  refine zj_istore (ls2 := [.ref 223, .int x1, .int x2, .int 0, .int (x1 - 1), .null]) dX11_bitsOn_5 (by decide) rfl rfl ?_
  exact h
theorem sg_X11_bitsOn_7 {G : z_G} {d : Nat} {S : z_Shp} {v : z_Dat} {Q : Option Value → z_Shp → z_Dat → Prop} {x1 : Int32} {x2 : Int32} {x3 : Int32} {x4 : Int32}
    (h : (x1 < x4 → (Q (some (.int x3)) S v)) ∧ (¬ x1 < x4 → (z_J G d mX11_bitsOn (18, [.ref 223, .int x1, .int x2, .int x3, .int x4, .int (x2 - 1)], [], S, v) Q))) :
    z_J G d mX11_bitsOn (7, [.ref 223, .int x1, .int x2, .int x3, .int x4, .null], [], S, v) Q := by
  refine zj_iload dX11_bitsOn_7 rfl ?_
  refine zj_iload_n dX11_bitsOn_9 rfl rfl ?_
  refine zj_icmp_gt (tgt := 81) dX11_bitsOn_10 (by decide) (fun c => ?_) (fun c => ?_)
  · replace h := h.1 c
    refine zj_iload_n dX11_bitsOn_81 rfl rfl ?_
    exact zj_iret dX11_bitsOn_82 rfl rfl h
  · replace h := h.2 c
    refine zj_iload_n dX11_bitsOn_13 rfl rfl ?_
    refine zj_iconst (x := 1) dX11_bitsOn_14 rfl ?_
    refine zj_isub dX11_bitsOn_15 ?_
    refine zj_istore (ls2 := [.ref 223, .int x1, .int x2, .int x3, .int x4, .int (x2 - 1)]) dX11_bitsOn_16 (by decide) rfl rfl ?_
    exact h
theorem sg_X11_bitsOn_18 {G : z_G} {d : Nat} {S : z_Shp} {v : z_Dat} {Q : Option Value → z_Shp → z_Dat → Prop} {x1 : Int32} {x2 : Int32} {x3 : Int32} {x4 : Int32} {x5 : Int32} (hL : z_L S)
    (h : (x2 < x5 → (z_J G (d + 1) mX11_bitsOn (7, [.ref 223, .int x1, .int x2, .int x3, .int (x4 + 1), .null], [], S, v) Q)) ∧ (¬ x2 < x5 → (((0 ≤ x4 ∧ x4 ≤ ((v 224 0) - 1)) → (((0 ≤ x5 ∧ x5 ≤ ((v 224 0) - 1)) → (z_J G (d + 1) mX11_bitsOn (18, [.ref 223, .int x1, .int x2, .int (x3 ||| ((1 : Int32) <<< ((((v 224 0) * x4) + x5) &&& 31))), .int x4, .int (x5 + 1)], [], S, v) Q)) ∧ (¬ (0 ≤ x5 ∧ x5 ≤ ((v 224 0) - 1)) → (z_J G (d + 1) mX11_bitsOn (18, [.ref 223, .int x1, .int x2, .int x3, .int x4, .int (x5 + 1)], [], S, v) Q)))) ∧ (¬ (0 ≤ x4 ∧ x4 ≤ ((v 224 0) - 1)) → (z_J G (d + 1) mX11_bitsOn (18, [.ref 223, .int x1, .int x2, .int x3, .int x4, .int (x5 + 1)], [], S, v) Q))))) :
    z_J G (d + 1) mX11_bitsOn (18, [.ref 223, .int x1, .int x2, .int x3, .int x4, .int x5], [], S, v) Q := by
  refine zj_iload dX11_bitsOn_18 rfl ?_
  refine zj_iload_n dX11_bitsOn_20 rfl rfl ?_
  refine zj_icmp_gt (tgt := 75) dX11_bitsOn_21 (by decide) (fun c => ?_) (fun c => ?_)
  · replace h := h.1 c
    refine zj_iinc (y := x4 + 1) (ls2 := [.ref 223, .int x1, .int x2, .int x3, .int (x4 + 1), .int x5]) dX11_bitsOn_75 rfl rfl (by decide) rfl rfl ?_
    refine zj_goto (tgt := 7) dX11_bitsOn_78 (by decide) ?_
    refine zj_forget (ls2 := [.ref 223, .int x1, .int x2, .int x3, .int (x4 + 1), .null]) ⟨Or.inr rfl, Or.inr rfl, Or.inr rfl, Or.inr rfl, Or.inr rfl, Or.inl rfl, trivial⟩ ?_
    exact h
  · replace h := h.2 c
    refine zj_iload dX11_bitsOn_24 rfl ?_
    refine zj_iconst (x := 0) dX11_bitsOn_26 rfl ?_
    refine zj_aload_n dX11_bitsOn_27 rfl rfl ?_
    refine zj_callV (M' := mX11_d) (avs := []) (st := [.int 0, .int x4]) (ci := 11) dX11_bitsOn_28 wm_X11_d wl_X11_140 wi_X11_d ws_X11_d (by decide) (zk_223 hL) rfl rfl (by decide) rfl (Nat.le_of_ble_eq_true rfl) (Nat.le_of_ble_eq_true rfl) ⟨Or.inl (z_k0 (zk_223 hL)), trivial⟩ trivial (hp_X11_d hL ?_)
    refine zj_iconst (x := 1) dX11_bitsOn_31 rfl ?_
    refine zj_isub dX11_bitsOn_32 ?_
    refine zj_callS (M' := mX11_isIn) (avs := [.int x4, .int 0, .int ((v 224 0) - 1)]) (st := []) dX11_bitsOn_33 wm_X11_isIn wl_X11_144 wt_X11_isIn rfl (by decide) rfl (Nat.le_of_ble_eq_true rfl) (Nat.le_of_ble_eq_true rfl) ⟨Or.inl (z_k0 (zk_223 hL)), trivial⟩ trivial (hp_X11_isIn (fun c => ?_) (fun c => ?_))
    · replace h := h.1 c
      refine zj_if_eq (tgt := 69) dX11_bitsOn_36 (by decide) (fun q => absurd q (by decide)) (fun _ => ?_)
      refine zj_iload dX11_bitsOn_39 rfl ?_
      refine zj_iconst (x := 0) dX11_bitsOn_41 rfl ?_
      refine zj_aload_n dX11_bitsOn_42 rfl rfl ?_
      refine zj_callV (M' := mX11_d) (avs := []) (st := [.int 0, .int x5]) (ci := 11) dX11_bitsOn_43 wm_X11_d wl_X11_140 wi_X11_d ws_X11_d (by decide) (zk_223 hL) rfl rfl (by decide) rfl (Nat.le_of_ble_eq_true rfl) (Nat.le_of_ble_eq_true rfl) ⟨Or.inl (z_k0 (zk_223 hL)), trivial⟩ trivial (hp_X11_d hL ?_)
      refine zj_iconst (x := 1) dX11_bitsOn_46 rfl ?_
      refine zj_isub dX11_bitsOn_47 ?_
      refine zj_callS (M' := mX11_isIn) (avs := [.int x5, .int 0, .int ((v 224 0) - 1)]) (st := []) dX11_bitsOn_48 wm_X11_isIn wl_X11_144 wt_X11_isIn rfl (by decide) rfl (Nat.le_of_ble_eq_true rfl) (Nat.le_of_ble_eq_true rfl) ⟨Or.inl (z_k0 (zk_223 hL)), trivial⟩ trivial (hp_X11_isIn (fun c => ?_) (fun c => ?_))
      · replace h := h.1 c
        refine zj_if_eq (tgt := 69) dX11_bitsOn_51 (by decide) (fun q => absurd q (by decide)) (fun _ => ?_)
        refine zj_iload_n dX11_bitsOn_54 rfl rfl ?_
        refine zj_iconst (x := 1) dX11_bitsOn_55 rfl ?_
        refine zj_aload_n dX11_bitsOn_56 rfl rfl ?_
        refine zj_callV (M' := mX11_d) (avs := []) (st := [.int 1, .int x3]) (ci := 11) dX11_bitsOn_57 wm_X11_d wl_X11_140 wi_X11_d ws_X11_d (by decide) (zk_223 hL) rfl rfl (by decide) rfl (Nat.le_of_ble_eq_true rfl) (Nat.le_of_ble_eq_true rfl) ⟨Or.inl (z_k0 (zk_223 hL)), trivial⟩ trivial (hp_X11_d hL ?_)
        refine zj_iload dX11_bitsOn_60 rfl ?_
        refine zj_imul dX11_bitsOn_62 ?_
        refine zj_iload dX11_bitsOn_63 rfl ?_
        refine zj_iadd dX11_bitsOn_65 ?_
        refine zj_ishl dX11_bitsOn_66 ?_
        refine zj_ior dX11_bitsOn_67 ?_
        refine zj_istore_n (ls2 := [.ref 223, .int x1, .int x2, .int (x3 ||| ((1 : Int32) <<< ((((v 224 0) * x4) + x5) &&& 31))), .int x4, .int x5]) dX11_bitsOn_68 rfl (by decide) rfl rfl ?_
        refine zj_iinc (y := x5 + 1) (ls2 := [.ref 223, .int x1, .int x2, .int (x3 ||| ((1 : Int32) <<< ((((v 224 0) * x4) + x5) &&& 31))), .int x4, .int (x5 + 1)]) dX11_bitsOn_69 rfl rfl (by decide) rfl rfl ?_
        refine zj_goto (tgt := 18) dX11_bitsOn_72 (by decide) ?_
        exact h
      · replace h := h.2 c
        refine zj_if_eq (tgt := 69) dX11_bitsOn_51 (by decide) (fun _ => ?_) (fun q => absurd (by decide) q)
        refine zj_iinc (y := x5 + 1) (ls2 := [.ref 223, .int x1, .int x2, .int x3, .int x4, .int (x5 + 1)]) dX11_bitsOn_69 rfl rfl (by decide) rfl rfl ?_
        refine zj_goto (tgt := 18) dX11_bitsOn_72 (by decide) ?_
        exact h
    · replace h := h.2 c
      refine zj_if_eq (tgt := 69) dX11_bitsOn_36 (by decide) (fun _ => ?_) (fun q => absurd (by decide) q)
      refine zj_iinc (y := x5 + 1) (ls2 := [.ref 223, .int x1, .int x2, .int x3, .int x4, .int (x5 + 1)]) dX11_bitsOn_69 rfl rfl (by decide) rfl rfl ?_
      refine zj_goto (tgt := 18) dX11_bitsOn_72 (by decide) ?_
      exact h
theorem sg_X11_blame_0 {G : z_G} {d : Nat} {S : z_Shp} {v : z_Dat} {Q : Option Value → z_Shp → z_Dat → Prop} {x1 : Int32} {x2 : Int32} {x3 : Int32} (hL : z_L S)
    (h : ∀ v1, v1 = z_u v 223 0 0 → (((x1 = 0 ∨ x1 = 1) → (((0 ≤ x2 ∧ x2 ≤ 1) → (((0 ≤ x3 ∧ x3 ≤ ((v1 224 1) - 1)) → (z_J G d mX11_lays_ (0, [.ref 223, .int x1, .int x2, .null], [], S, v1) (fun r S1 v2 => ∃ y1 : Int32, r = some (.int y1) ∧ S1 = S ∧ ((¬ y1 = 0 → (z_J G d mX11_gone (0, [.ref 223, .int 0, .int x3, .null, .null, .null, .null], [], S, v2) (fun r S1 v3 => ∃ y2 : Int32, r = some (.int y2) ∧ S1 = S ∧ (Q (some (.int y2)) S v3)))) ∧ (y1 = 0 → (Q (some (.int (-1))) S v2)))))) ∧ (¬ (0 ≤ x3 ∧ x3 ≤ ((v1 224 1) - 1)) → (Q (some (.int (-1))) S v1)))) ∧ (¬ (0 ≤ x2 ∧ x2 ≤ 1) → (Q (some (.int (-1))) S v1)))) ∧ (¬ (x1 = 0 ∨ x1 = 1) → (Q (some (.int (-1))) S v1)))) :
    z_J G (d + 1) mX11_blame (0, [.ref 223, .int x1, .int x2, .int x3], [], S, v) Q := by
  refine zj_aload_n dX11_blame_0 rfl rfl ?_
  refine zj_iconst (x := 0) dX11_blame_1 rfl ?_
  refine zj_putI (ci := 11) (j := 0) dX11_blame_2 wf_X11_1 (by decide) (by decide) (zk_223 hL) rfl rfl rfl rfl (fun v1 ev1 => ?_)
  replace h := h v1 ev1
  refine zj_iload_n dX11_blame_5 rfl rfl ?_
  refine zj_callS (M' := mX11_isKind) (avs := [.int x1]) (st := []) dX11_blame_6 wm_X11_isKind wl_X11_165 wt_X11_isKind rfl (by decide) rfl (Nat.le_of_ble_eq_true rfl) (Nat.le_of_ble_eq_true rfl) ⟨Or.inl (z_k0 (zk_223 hL)), trivial⟩ trivial (hp_X11_isKind (fun c => ?_) (fun c => ?_))
  · replace h := h.1 c
    refine zj_if_eq (tgt := 46) dX11_blame_9 (by decide) (fun q => absurd q (by decide)) (fun _ => ?_)
    refine zj_iload_n dX11_blame_12 rfl rfl ?_
    refine zj_iconst (x := 0) dX11_blame_13 rfl ?_
    refine zj_iconst (x := 1) dX11_blame_14 rfl ?_
    refine zj_callS (M' := mX11_isIn) (avs := [.int x2, .int 0, .int 1]) (st := []) dX11_blame_15 wm_X11_isIn wl_X11_144 wt_X11_isIn rfl (by decide) rfl (Nat.le_of_ble_eq_true rfl) (Nat.le_of_ble_eq_true rfl) ⟨Or.inl (z_k0 (zk_223 hL)), trivial⟩ trivial (hp_X11_isIn (fun c => ?_) (fun c => ?_))
    · replace h := h.1 c
      refine zj_if_eq (tgt := 46) dX11_blame_18 (by decide) (fun q => absurd q (by decide)) (fun _ => ?_)
      refine zj_iload_n dX11_blame_21 rfl rfl ?_
      refine zj_iconst (x := 0) dX11_blame_22 rfl ?_
      refine zj_aload_n dX11_blame_23 rfl rfl ?_
      refine zj_getR (ci := 11) (j := 1) dX11_blame_24 wf_X11_13 (by decide) (by decide) (zk_223 hL) rfl (zr_223_1 hL) ?_
      refine zj_iconst (x := 1) dX11_blame_27 rfl ?_
      refine zj_iaload dX11_blame_28 (zk_224 hL) (by rw [(zl_224 hL)]; exact z_vin (by decide)) ?_
      refine zj_iconst (x := 1) dX11_blame_29 rfl ?_
      refine zj_isub dX11_blame_30 ?_
      refine zj_callS (M' := mX11_isIn) (avs := [.int x3, .int 0, .int ((v1 224 1) - 1)]) (st := []) dX11_blame_31 wm_X11_isIn wl_X11_144 wt_X11_isIn rfl (by decide) rfl (Nat.le_of_ble_eq_true rfl) (Nat.le_of_ble_eq_true rfl) ⟨Or.inl (z_k0 (zk_223 hL)), trivial⟩ trivial (hp_X11_isIn (fun c => ?_) (fun c => ?_))
      · replace h := h.1 c
        refine zj_if_eq (tgt := 46) dX11_blame_34 (by decide) (fun q => absurd q (by decide)) (fun _ => ?_)
        refine zj_aload_n dX11_blame_37 rfl rfl ?_
        refine zj_iload_n dX11_blame_38 rfl rfl ?_
        refine zj_iload_n dX11_blame_39 rfl rfl ?_
        refine zj_callV (M' := mX11_lays_) (avs := [.int x1, .int x2]) (st := []) (ci := 11) dX11_blame_40 wm_X11_lays_ wl_X11_349 wi_X11_lays_ ws_X11_lays_ (by decide) (zk_223 hL) rfl rfl (by decide) rfl (Nat.le_of_ble_eq_true rfl) (Nat.le_of_ble_eq_true rfl) ⟨Or.inl (z_k0 (zk_223 hL)), trivial⟩ trivial (z_J.mono h (fun r S1 v2 hq => ?_))
        obtain ⟨y1, rfl, rfl, h⟩ := hq
        refine zj_if_ne (tgt := 48) dX11_blame_43 (by decide) (fun c => ?_) (fun c => ?_)
        · replace h := h.1 c
          refine zj_aload_n dX11_blame_48 rfl rfl ?_
          refine zj_iconst (x := 0) dX11_blame_49 rfl ?_
          refine zj_iload_n dX11_blame_50 rfl rfl ?_
          refine zj_callV (M' := mX11_gone) (avs := [.int 0, .int x3]) (st := []) (ci := 11) dX11_blame_51 wm_X11_gone wl_X11_351 wi_X11_gone ws_X11_gone (by decide) (zk_223 hL) rfl rfl (by decide) rfl (Nat.le_of_ble_eq_true rfl) (Nat.le_of_ble_eq_true rfl) ⟨Or.inl (z_k0 (zk_223 hL)), trivial⟩ trivial (z_J.mono h (fun r S1 v3 hq => ?_))
          obtain ⟨y2, rfl, rfl, h⟩ := hq
          exact zj_iret dX11_blame_54 rfl rfl h
        · replace h := h.2 c
          refine zj_iconst (x := (-1)) dX11_blame_46 rfl ?_
          exact zj_iret dX11_blame_47 rfl rfl h
      · replace h := h.2 c
        refine zj_if_eq (tgt := 46) dX11_blame_34 (by decide) (fun _ => ?_) (fun q => absurd (by decide) q)
        refine zj_iconst (x := (-1)) dX11_blame_46 rfl ?_
        exact zj_iret dX11_blame_47 rfl rfl h
    · replace h := h.2 c
      refine zj_if_eq (tgt := 46) dX11_blame_18 (by decide) (fun _ => ?_) (fun q => absurd (by decide) q)
      refine zj_iconst (x := (-1)) dX11_blame_46 rfl ?_
      exact zj_iret dX11_blame_47 rfl rfl h
  · replace h := h.2 c
    refine zj_if_eq (tgt := 46) dX11_blame_9 (by decide) (fun _ => ?_) (fun q => absurd (by decide) q)
    refine zj_iconst (x := (-1)) dX11_blame_46 rfl ?_
    exact zj_iret dX11_blame_47 rfl rfl h
theorem sg_X11_byteAt_0 {G : z_G} {d : Nat} {S : z_Shp} {v : z_Dat} {Q : Option Value → z_Shp → z_Dat → Prop} {x1 : Int32} (hL : z_L S)
    (h : ∀ v1, v1 = z_u v 223 0 0 → (((0 ≤ x1 ∧ x1 ≤ ((v1 223 65) - 1)) → ((vp_in x1 11) ∧ (Q (some (.int (v1 260 x1.toNatClampNeg))) S v1))) ∧ (¬ (0 ≤ x1 ∧ x1 ≤ ((v1 223 65) - 1)) → (Q (some (.int (-1))) S v1)))) :
    z_J G (d + 1) mX11_byteAt (0, [.ref 223, .int x1], [], S, v) Q := by
  refine zj_aload_n dX11_byteAt_0 rfl rfl ?_
  refine zj_iconst (x := 0) dX11_byteAt_1 rfl ?_
  refine zj_putI (ci := 11) (j := 0) dX11_byteAt_2 wf_X11_1 (by decide) (by decide) (zk_223 hL) rfl rfl rfl rfl (fun v1 ev1 => ?_)
  replace h := h v1 ev1
  refine zj_iload_n dX11_byteAt_5 rfl rfl ?_
  refine zj_iconst (x := 0) dX11_byteAt_6 rfl ?_
  refine zj_aload_n dX11_byteAt_7 rfl rfl ?_
  refine zj_getI (ci := 11) (j := 65) dX11_byteAt_8 wf_X11_410 (by decide) (by decide) (zk_223 hL) rfl ?_
  refine zj_iconst (x := 1) dX11_byteAt_11 rfl ?_
  refine zj_isub dX11_byteAt_12 ?_
  refine zj_callS (M' := mX11_isIn) (avs := [.int x1, .int 0, .int ((v1 223 65) - 1)]) (st := []) dX11_byteAt_13 wm_X11_isIn wl_X11_144 wt_X11_isIn rfl (by decide) rfl (Nat.le_of_ble_eq_true rfl) (Nat.le_of_ble_eq_true rfl) ⟨Or.inl (z_k0 (zk_223 hL)), trivial⟩ trivial (hp_X11_isIn (fun c => ?_) (fun c => ?_))
  · replace h := h.1 c
    refine zj_if_eq (tgt := 28) dX11_byteAt_16 (by decide) (fun q => absurd q (by decide)) (fun _ => ?_)
    refine zj_aload_n dX11_byteAt_19 rfl rfl ?_
    refine zj_getR (ci := 11) (j := 64) dX11_byteAt_20 wf_X11_124 (by decide) (by decide) (zk_223 hL) rfl (zr_223_64 hL) ?_
    refine zj_iload_n dX11_byteAt_23 rfl rfl ?_
    refine zj_baload dX11_byteAt_24 (zk_260 hL) (by rw [(zl_260 hL)]; exact h.1) ?_
    replace h := h.2
    refine zj_goto (tgt := 29) dX11_byteAt_25 (by decide) ?_
    exact zj_iret dX11_byteAt_29 rfl rfl h
  · replace h := h.2 c
    refine zj_if_eq (tgt := 28) dX11_byteAt_16 (by decide) (fun _ => ?_) (fun q => absurd (by decide) q)
    refine zj_iconst (x := (-1)) dX11_byteAt_28 rfl ?_
    exact zj_iret dX11_byteAt_29 rfl rfl h
theorem sg_X11_canDraw_0 {G : z_G} {d : Nat} {S : z_Shp} {v : z_Dat} {Q : Option Value → z_Shp → z_Dat → Prop} {x1 : Int32} {x2 : Int32} (hL : z_L S)
    (h : ((1 ≤ x1 ∧ x1 ≤ 8) → (((0 ≤ x2 ∧ x2 ≤ 21) → ((8 < ((v 224 1) + x1) → (Q (some (.int 0)) S v)) ∧ (¬ 8 < ((v 224 1) + x1) → (Q (some (.int 1)) S v)))) ∧ (¬ (0 ≤ x2 ∧ x2 ≤ 21) → (Q (some (.int 0)) S v)))) ∧ (¬ (1 ≤ x1 ∧ x1 ≤ 8) → (Q (some (.int 0)) S v))) :
    z_J G (d + 1) mX11_canDraw (0, [.ref 223, .int x1, .int x2], [], S, v) Q := by
  refine zj_iload_n dX11_canDraw_0 rfl rfl ?_
  refine zj_iconst (x := 1) dX11_canDraw_1 rfl ?_
  refine zj_bipush (x := 8) dX11_canDraw_2 rfl ?_
  refine zj_callS (M' := mX11_isIn) (avs := [.int x1, .int 1, .int 8]) (st := []) dX11_canDraw_4 wm_X11_isIn wl_X11_144 wt_X11_isIn rfl (by decide) rfl (Nat.le_of_ble_eq_true rfl) (Nat.le_of_ble_eq_true rfl) ⟨Or.inl (z_k0 (zk_223 hL)), trivial⟩ trivial (hp_X11_isIn (fun c => ?_) (fun c => ?_))
  · replace h := h.1 c
    refine zj_if_eq (tgt := 37) dX11_canDraw_7 (by decide) (fun q => absurd q (by decide)) (fun _ => ?_)
    refine zj_iload_n dX11_canDraw_10 rfl rfl ?_
    refine zj_iconst (x := 0) dX11_canDraw_11 rfl ?_
    refine zj_bipush (x := 21) dX11_canDraw_12 rfl ?_
    refine zj_callS (M' := mX11_isIn) (avs := [.int x2, .int 0, .int 21]) (st := []) dX11_canDraw_14 wm_X11_isIn wl_X11_144 wt_X11_isIn rfl (by decide) rfl (Nat.le_of_ble_eq_true rfl) (Nat.le_of_ble_eq_true rfl) ⟨Or.inl (z_k0 (zk_223 hL)), trivial⟩ trivial (hp_X11_isIn (fun c => ?_) (fun c => ?_))
    · replace h := h.1 c
      refine zj_if_eq (tgt := 37) dX11_canDraw_17 (by decide) (fun q => absurd q (by decide)) (fun _ => ?_)
      refine zj_aload_n dX11_canDraw_20 rfl rfl ?_
      refine zj_getR (ci := 11) (j := 1) dX11_canDraw_21 wf_X11_13 (by decide) (by decide) (zk_223 hL) rfl (zr_223_1 hL) ?_
      refine zj_iconst (x := 1) dX11_canDraw_24 rfl ?_
      refine zj_iaload dX11_canDraw_25 (zk_224 hL) (by rw [(zl_224 hL)]; exact z_vin (by decide)) ?_
      refine zj_iload_n dX11_canDraw_26 rfl rfl ?_
      refine zj_iadd dX11_canDraw_27 ?_
      refine zj_bipush (x := 8) dX11_canDraw_28 rfl ?_
      refine zj_icmp_gt (tgt := 37) dX11_canDraw_30 (by decide) (fun c => ?_) (fun c => ?_)
      · replace h := h.1 c
        refine zj_iconst (x := 0) dX11_canDraw_37 rfl ?_
        exact zj_iret dX11_canDraw_38 rfl (by decide) h
      · replace h := h.2 c
        refine zj_iconst (x := 1) dX11_canDraw_33 rfl ?_
        refine zj_goto (tgt := 38) dX11_canDraw_34 (by decide) ?_
        exact zj_iret dX11_canDraw_38 rfl (by decide) h
    · replace h := h.2 c
      refine zj_if_eq (tgt := 37) dX11_canDraw_17 (by decide) (fun _ => ?_) (fun q => absurd (by decide) q)
      refine zj_iconst (x := 0) dX11_canDraw_37 rfl ?_
      exact zj_iret dX11_canDraw_38 rfl (by decide) h
  · replace h := h.2 c
    refine zj_if_eq (tgt := 37) dX11_canDraw_7 (by decide) (fun _ => ?_) (fun q => absurd (by decide) q)
    refine zj_iconst (x := 0) dX11_canDraw_37 rfl ?_
    exact zj_iret dX11_canDraw_38 rfl (by decide) h
theorem sg_X11_chain_0 {G : z_G} {d : Nat} {S : z_Shp} {v : z_Dat} {Q : Option Value → z_Shp → z_Dat → Prop} {x1 : Int32} (hL : z_L S)
    (h : ∀ v1, v1 = z_u v 223 0 0 → (((x1 = 0 ∨ x1 = 1) → (z_J G d mX11_keeps (0, [.ref 223, .null], [], S, v1) (fun r S1 v2 => r = none ∧ S1 = S ∧ ((vp_in ((2 : Int32) + x1) 71) ∧ (z_J G d mX11_chainOf (0, [.ref 223, .int x1], [], S, v2) (fun r S1 v3 => ∃ y1 : Int32, r = some (.int y1) ∧ S1 = S ∧ (vp_in ((2 : Int32) + x1) 71 ∧ (∀ v4, v4 = z_u v3 224 ((2 : Int32) + x1).toNatClampNeg ((v2 224 ((2 : Int32) + x1).toNatClampNeg) ^^^ y1) → ((vp_in ((2 : Int32) + x1) 71) ∧ (z_J G d mX11_logical (0, [.ref 223, .int x1, .int (v4 224 ((2 : Int32) + x1).toNatClampNeg)], [], S, v4) (fun r S1 v5 => ∃ y2 : Int32, r = some (.int y2) ∧ S1 = S ∧ (Q (some (.int y2)) S v5)))))))))))) ∧ (¬ (x1 = 0 ∨ x1 = 1) → (Q (some (.int (-1))) S v1)))) :
    z_J G (d + 1) mX11_chain (0, [.ref 223, .int x1], [], S, v) Q := by
  refine zj_aload_n dX11_chain_0 rfl rfl ?_
  refine zj_iconst (x := 0) dX11_chain_1 rfl ?_
  refine zj_putI (ci := 11) (j := 0) dX11_chain_2 wf_X11_1 (by decide) (by decide) (zk_223 hL) rfl rfl rfl rfl (fun v1 ev1 => ?_)
  replace h := h v1 ev1
  refine zj_iload_n dX11_chain_5 rfl rfl ?_
  refine zj_callS (M' := mX11_isKind) (avs := [.int x1]) (st := []) dX11_chain_6 wm_X11_isKind wl_X11_165 wt_X11_isKind rfl (by decide) rfl (Nat.le_of_ble_eq_true rfl) (Nat.le_of_ble_eq_true rfl) ⟨Or.inl (z_k0 (zk_223 hL)), trivial⟩ trivial (hp_X11_isKind (fun c => ?_) (fun c => ?_))
  · replace h := h.1 c
    refine zj_if_ne (tgt := 14) dX11_chain_9 (by decide) (fun _ => ?_) (fun q => absurd q (by decide))
    refine zj_aload_n dX11_chain_14 rfl rfl ?_
    refine zj_callV (M' := mX11_keeps) (avs := []) (st := []) (ci := 11) dX11_chain_15 wm_X11_keeps wl_X11_242 wi_X11_keeps ws_X11_keeps (by decide) (zk_223 hL) rfl rfl (by decide) rfl (Nat.le_of_ble_eq_true rfl) (Nat.le_of_ble_eq_true rfl) ⟨Or.inl (z_k0 (zk_223 hL)), trivial⟩ trivial (z_J.mono h (fun r S1 v2 hq => ?_))
    obtain ⟨rfl, rfl, h⟩ := hq
    refine zj_aload_n dX11_chain_18 rfl rfl ?_
    refine zj_getR (ci := 11) (j := 1) dX11_chain_19 wf_X11_13 (by decide) (by decide) (zk_223 hL) rfl (zr_223_1 hL) ?_
    refine zj_iconst (x := 2) dX11_chain_22 rfl ?_
    refine zj_iload_n dX11_chain_23 rfl rfl ?_
    refine zj_iadd dX11_chain_24 ?_
    refine zj_dup2 dX11_chain_25 rfl rfl ?_
    refine zj_iaload dX11_chain_26 (zk_224 hL) (by rw [(zl_224 hL)]; exact h.1) ?_
    replace h := h.2
    refine zj_aload_n dX11_chain_27 rfl rfl ?_
    refine zj_iload_n dX11_chain_28 rfl rfl ?_
    refine zj_callV (M' := mX11_chainOf) (avs := [.int x1]) (st := [.int (v2 224 ((2 : Int32) + x1).toNatClampNeg), .int ((2 : Int32) + x1), .ref 224]) (ci := 11) dX11_chain_29 wm_X11_chainOf wl_X11_367 wi_X11_chainOf ws_X11_chainOf (by decide) (zk_223 hL) rfl rfl (by decide) rfl (Nat.le_of_ble_eq_true rfl) (Nat.le_of_ble_eq_true rfl) ⟨Or.inl (z_k0 (zk_223 hL)), trivial⟩ ⟨Or.inl (z_k0 (zk_224 hL)), trivial⟩ (z_J.mono h (fun r S1 v3 hq => ?_))
    obtain ⟨y1, rfl, rfl, h⟩ := hq
    refine zj_ixor dX11_chain_32 ?_
    refine zj_iastore dX11_chain_33 (zk_224 hL) (by rw [(zl_224 hL)]; exact h.1) (fun v4 ev4 => ?_)
    replace h := h.2 v4 ev4
    refine zj_aload_n dX11_chain_34 rfl rfl ?_
    refine zj_iload_n dX11_chain_35 rfl rfl ?_
    refine zj_aload_n dX11_chain_36 rfl rfl ?_
    refine zj_getR (ci := 11) (j := 1) dX11_chain_37 wf_X11_13 (by decide) (by decide) (zk_223 hL) rfl (zr_223_1 hL) ?_
    refine zj_iconst (x := 2) dX11_chain_40 rfl ?_
    refine zj_iload_n dX11_chain_41 rfl rfl ?_
    refine zj_iadd dX11_chain_42 ?_
    refine zj_iaload dX11_chain_43 (zk_224 hL) (by rw [(zl_224 hL)]; exact h.1) ?_
    replace h := h.2
    refine zj_callV (M' := mX11_logical) (avs := [.int x1, .int (v4 224 ((2 : Int32) + x1).toNatClampNeg)]) (st := []) (ci := 11) dX11_chain_44 wm_X11_logical wl_X11_370 wi_X11_logical ws_X11_logical (by decide) (zk_223 hL) rfl rfl (by decide) rfl (Nat.le_of_ble_eq_true rfl) (Nat.le_of_ble_eq_true rfl) ⟨Or.inl (z_k0 (zk_223 hL)), trivial⟩ trivial (z_J.mono h (fun r S1 v5 hq => ?_))
    obtain ⟨y2, rfl, rfl, h⟩ := hq
    exact zj_iret dX11_chain_47 rfl rfl h
  · replace h := h.2 c
    refine zj_if_ne (tgt := 14) dX11_chain_9 (by decide) (fun q => absurd (by decide) q) (fun _ => ?_)
    refine zj_iconst (x := (-1)) dX11_chain_12 rfl ?_
    exact zj_iret dX11_chain_13 rfl rfl h
theorem sg_X11_chainOf_0 {G : z_G} {d : Nat} {S : z_Shp} {v : z_Dat} {Q : Option Value → z_Shp → z_Dat → Prop} {x1 : Int32} (hL : z_L S)
    (h : (¬ x1 = 1 → (z_J G d mX11_rowOrColumn (0, [.ref 223, .int 0, .null, .null], [], S, v) (fun r S1 v1 => ∃ y1 : Int32, r = some (.int y1) ∧ S1 = S ∧ (Q (some (.int y1)) S v1)))) ∧ (x1 = 1 → (z_J G d mX11_rowOrColumn (0, [.ref 223, .int 1, .null, .null], [], S, v) (fun r S1 v2 => ∃ y2 : Int32, r = some (.int y2) ∧ S1 = S ∧ (Q (some (.int y2)) S v2))))) :
    z_J G (d + 1) mX11_chainOf (0, [.ref 223, .int x1], [], S, v) Q := by
  refine zj_aload_n dX11_chainOf_0 rfl rfl ?_
  refine zj_iload_n dX11_chainOf_1 rfl rfl ?_
  refine zj_iconst (x := 1) dX11_chainOf_2 rfl ?_
  refine zj_icmp_ne (tgt := 10) dX11_chainOf_3 (by decide) (fun c => ?_) (fun c => ?_)
  · replace h := h.1 c
    refine zj_iconst (x := 0) dX11_chainOf_10 rfl ?_
    refine zj_callV (M' := mX11_rowOrColumn) (avs := [.int 0]) (st := []) (ci := 11) dX11_chainOf_11 wm_X11_rowOrColumn wl_X11_173 wi_X11_rowOrColumn ws_X11_rowOrColumn (by decide) (zk_223 hL) rfl rfl (by decide) rfl (Nat.le_of_ble_eq_true rfl) (Nat.le_of_ble_eq_true rfl) ⟨Or.inl (z_k0 (zk_223 hL)), trivial⟩ trivial (z_J.mono h (fun r S1 v1 hq => ?_))
    obtain ⟨y1, rfl, rfl, h⟩ := hq
    exact zj_iret dX11_chainOf_14 rfl rfl h
  · replace h := h.2 c
    refine zj_iconst (x := 1) dX11_chainOf_6 rfl ?_
    refine zj_goto (tgt := 11) dX11_chainOf_7 (by decide) ?_
    refine zj_callV (M' := mX11_rowOrColumn) (avs := [.int 1]) (st := []) (ci := 11) dX11_chainOf_11 wm_X11_rowOrColumn wl_X11_173 wi_X11_rowOrColumn ws_X11_rowOrColumn (by decide) (zk_223 hL) rfl rfl (by decide) rfl (Nat.le_of_ble_eq_true rfl) (Nat.le_of_ble_eq_true rfl) ⟨Or.inl (z_k0 (zk_223 hL)), trivial⟩ trivial (z_J.mono h (fun r S1 v2 hq => ?_))
    obtain ⟨y2, rfl, rfl, h⟩ := hq
    exact zj_iret dX11_chainOf_14 rfl rfl h
theorem sg_X11_check_0 {G : z_G} {d : Nat} {S : z_Shp} {v : z_Dat} {Q : Option Value → z_Shp → z_Dat → Prop} {x1 : Int32} {x2 : Int32} {x3 : Int32} (hL : z_L S)
    (h : z_J G d mX11_isCheck (0, [.ref 223, .int x1, .int x2], [], S, v) (fun r S1 v1 => ∃ y1 : Int32, r = some (.int y1) ∧ S1 = S ∧ ((y1 = 0 → (z_J G d mX11_throwsIf (0, [.ref 223, .int 1], [], S, v1) (fun r S1 v2 => ∃ y2 : Int32, r = some (.int y2) ∧ S1 = S ∧ ((y2 = 0 → ((¬ x3 = 0 → ((¬ x3 = 1 → ((¬ x3 = 2 → ((vp_in (((47 : Int32) + ((12 : Int32) * x1)) + x2) 71) ∧ (Q (some (.int (v2 224 (((47 : Int32) + ((12 : Int32) * x1)) + x2).toNatClampNeg))) S v2))) ∧ (x3 = 2 → ((vp_in (((12 : Int32) * x1) + x2) 24) ∧ (Q (some (.int (v2 232 (((12 : Int32) * x1) + x2).toNatClampNeg))) S v2))))) ∧ (x3 = 1 → ((vp_in (((12 : Int32) * x1) + x2) 24) ∧ (Q (some (.int (v2 231 (((12 : Int32) * x1) + x2).toNatClampNeg))) S v2))))) ∧ (x3 = 0 → ((vp_in (((12 : Int32) * x1) + x2) 24) ∧ (Q (some (.int (v2 230 (((12 : Int32) * x1) + x2).toNatClampNeg))) S v2))))) ∧ (¬ y2 = 0 → (Q (some (.int 0)) S v2)))))) ∧ (¬ y1 = 0 → (((0 ≤ x3 ∧ x3 ≤ 3) → (z_J G d mX11_throwsIf (0, [.ref 223, .int 0], [], S, v1) (fun r S1 v3 => ∃ y3 : Int32, r = some (.int y3) ∧ S1 = S ∧ ((y3 = 0 → ((¬ x3 = 0 → ((¬ x3 = 1 → ((¬ x3 = 2 → ((vp_in (((47 : Int32) + ((12 : Int32) * x1)) + x2) 71) ∧ (Q (some (.int (v3 224 (((47 : Int32) + ((12 : Int32) * x1)) + x2).toNatClampNeg))) S v3))) ∧ (x3 = 2 → ((vp_in (((12 : Int32) * x1) + x2) 24) ∧ (Q (some (.int (v3 232 (((12 : Int32) * x1) + x2).toNatClampNeg))) S v3))))) ∧ (x3 = 1 → ((vp_in (((12 : Int32) * x1) + x2) 24) ∧ (Q (some (.int (v3 231 (((12 : Int32) * x1) + x2).toNatClampNeg))) S v3))))) ∧ (x3 = 0 → ((vp_in (((12 : Int32) * x1) + x2) 24) ∧ (Q (some (.int (v3 230 (((12 : Int32) * x1) + x2).toNatClampNeg))) S v3))))) ∧ (¬ y3 = 0 → (Q (some (.int 0)) S v3)))))) ∧ (¬ (0 ≤ x3 ∧ x3 ≤ 3) → (z_J G d mX11_throwsIf (0, [.ref 223, .int 1], [], S, v1) (fun r S1 v4 => ∃ y4 : Int32, r = some (.int y4) ∧ S1 = S ∧ ((y4 = 0 → ((¬ x3 = 0 → ((¬ x3 = 1 → ((¬ x3 = 2 → ((vp_in (((47 : Int32) + ((12 : Int32) * x1)) + x2) 71) ∧ (Q (some (.int (v4 224 (((47 : Int32) + ((12 : Int32) * x1)) + x2).toNatClampNeg))) S v4))) ∧ (x3 = 2 → ((vp_in (((12 : Int32) * x1) + x2) 24) ∧ (Q (some (.int (v4 232 (((12 : Int32) * x1) + x2).toNatClampNeg))) S v4))))) ∧ (x3 = 1 → ((vp_in (((12 : Int32) * x1) + x2) 24) ∧ (Q (some (.int (v4 231 (((12 : Int32) * x1) + x2).toNatClampNeg))) S v4))))) ∧ (x3 = 0 → ((vp_in (((12 : Int32) * x1) + x2) 24) ∧ (Q (some (.int (v4 230 (((12 : Int32) * x1) + x2).toNatClampNeg))) S v4))))) ∧ (¬ y4 = 0 → (Q (some (.int 0)) S v4))))))))))) :
    z_J G (d + 1) mX11_check (0, [.ref 223, .int x1, .int x2, .int x3], [], S, v) Q := by
  refine zj_aload_n dX11_check_0 rfl rfl ?_
  refine zj_aload_n dX11_check_1 rfl rfl ?_
  refine zj_iload_n dX11_check_2 rfl rfl ?_
  refine zj_iload_n dX11_check_3 rfl rfl ?_
  refine zj_callV (M' := mX11_isCheck) (avs := [.int x1, .int x2]) (st := [.ref 223]) (ci := 11) dX11_check_4 wm_X11_isCheck wl_X11_394 wi_X11_isCheck ws_X11_isCheck (by decide) (zk_223 hL) rfl rfl (by decide) rfl (Nat.le_of_ble_eq_true rfl) (Nat.le_of_ble_eq_true rfl) ⟨Or.inl (z_k0 (zk_223 hL)), trivial⟩ ⟨Or.inl (z_k0 (zk_223 hL)), trivial⟩ (z_J.mono h (fun r S1 v1 hq => ?_))
  obtain ⟨y1, rfl, rfl, h⟩ := hq
  refine zj_if_eq (tgt := 19) dX11_check_7 (by decide) (fun c => ?_) (fun c => ?_)
  · replace h := h.1 c
    refine zj_iconst (x := 1) dX11_check_19 rfl ?_
    refine zj_goto (tgt := 24) dX11_check_20 (by decide) ?_
    refine zj_callV (M' := mX11_throwsIf) (avs := [.int 1]) (st := []) (ci := 11) dX11_check_24 wm_X11_throwsIf wl_X11_285 wi_X11_throwsIf ws_X11_throwsIf (by decide) (zk_223 hL) rfl rfl (by decide) rfl (Nat.le_of_ble_eq_true rfl) (Nat.le_of_ble_eq_true rfl) ⟨Or.inl (z_k0 (zk_223 hL)), trivial⟩ trivial (z_J.mono h (fun r S1 v2 hq => ?_))
    obtain ⟨y2, rfl, rfl, h⟩ := hq
    refine zj_if_eq (tgt := 32) dX11_check_27 (by decide) (fun c => ?_) (fun c => ?_)
    · replace h := h.1 c
      refine zj_iload_n dX11_check_32 rfl rfl ?_
      refine zj_if_ne (tgt := 50) dX11_check_33 (by decide) (fun c => ?_) (fun c => ?_)
      · replace h := h.1 c
        refine zj_iload_n dX11_check_50 rfl rfl ?_
        refine zj_iconst (x := 1) dX11_check_51 rfl ?_
        refine zj_icmp_ne (tgt := 69) dX11_check_52 (by decide) (fun c => ?_) (fun c => ?_)
        · replace h := h.1 c
          refine zj_iload_n dX11_check_69 rfl rfl ?_
          refine zj_iconst (x := 2) dX11_check_70 rfl ?_
          refine zj_icmp_ne (tgt := 88) dX11_check_71 (by decide) (fun c => ?_) (fun c => ?_)
          · replace h := h.1 c
            refine zj_aload_n dX11_check_88 rfl rfl ?_
            refine zj_getR (ci := 11) (j := 1) dX11_check_89 wf_X11_13 (by decide) (by decide) (zk_223 hL) rfl (zr_223_1 hL) ?_
            refine zj_bipush (x := 47) dX11_check_92 rfl ?_
            refine zj_bipush (x := 12) dX11_check_94 rfl ?_
            refine zj_iload_n dX11_check_96 rfl rfl ?_
            refine zj_imul dX11_check_97 ?_
            refine zj_iadd dX11_check_98 ?_
            refine zj_iload_n dX11_check_99 rfl rfl ?_
            refine zj_iadd dX11_check_100 ?_
            refine zj_iaload dX11_check_101 (zk_224 hL) (by rw [(zl_224 hL)]; exact h.1) ?_
            replace h := h.2
            exact zj_iret dX11_check_102 rfl rfl h
          · replace h := h.2 c
            refine zj_aload_n dX11_check_74 rfl rfl ?_
            refine zj_getR (ci := 11) (j := 12) dX11_check_75 wf_X11_40 (by decide) (by decide) (zk_223 hL) rfl (zr_223_12 hL) ?_
            refine zj_bipush (x := 12) dX11_check_78 rfl ?_
            refine zj_iload_n dX11_check_80 rfl rfl ?_
            refine zj_imul dX11_check_81 ?_
            refine zj_iload_n dX11_check_82 rfl rfl ?_
            refine zj_iadd dX11_check_83 ?_
            refine zj_iaload dX11_check_84 (zk_232 hL) (by rw [(zl_232 hL)]; exact h.1) ?_
            replace h := h.2
            refine zj_goto (tgt := 102) dX11_check_85 (by decide) ?_
            exact zj_iret dX11_check_102 rfl rfl h
        · replace h := h.2 c
          refine zj_aload_n dX11_check_55 rfl rfl ?_
          refine zj_getR (ci := 11) (j := 11) dX11_check_56 wf_X11_37 (by decide) (by decide) (zk_223 hL) rfl (zr_223_11 hL) ?_
          refine zj_bipush (x := 12) dX11_check_59 rfl ?_
          refine zj_iload_n dX11_check_61 rfl rfl ?_
          refine zj_imul dX11_check_62 ?_
          refine zj_iload_n dX11_check_63 rfl rfl ?_
          refine zj_iadd dX11_check_64 ?_
          refine zj_iaload dX11_check_65 (zk_231 hL) (by rw [(zl_231 hL)]; exact h.1) ?_
          replace h := h.2
          refine zj_goto (tgt := 102) dX11_check_66 (by decide) ?_
          exact zj_iret dX11_check_102 rfl rfl h
      · replace h := h.2 c
        refine zj_aload_n dX11_check_36 rfl rfl ?_
        refine zj_getR (ci := 11) (j := 10) dX11_check_37 wf_X11_34 (by decide) (by decide) (zk_223 hL) rfl (zr_223_10 hL) ?_
        refine zj_bipush (x := 12) dX11_check_40 rfl ?_
        refine zj_iload_n dX11_check_42 rfl rfl ?_
        refine zj_imul dX11_check_43 ?_
        refine zj_iload_n dX11_check_44 rfl rfl ?_
        refine zj_iadd dX11_check_45 ?_
        refine zj_iaload dX11_check_46 (zk_230 hL) (by rw [(zl_230 hL)]; exact h.1) ?_
        replace h := h.2
        refine zj_goto (tgt := 102) dX11_check_47 (by decide) ?_
        exact zj_iret dX11_check_102 rfl rfl h
    · replace h := h.2 c
      refine zj_iconst (x := 0) dX11_check_30 rfl ?_
      exact zj_iret dX11_check_31 rfl rfl h
  · replace h := h.2 c
    refine zj_iload_n dX11_check_10 rfl rfl ?_
    refine zj_iconst (x := 0) dX11_check_11 rfl ?_
    refine zj_iconst (x := 3) dX11_check_12 rfl ?_
    refine zj_callS (M' := mX11_isIn) (avs := [.int x3, .int 0, .int 3]) (st := [.ref 223]) dX11_check_13 wm_X11_isIn wl_X11_144 wt_X11_isIn rfl (by decide) rfl (Nat.le_of_ble_eq_true rfl) (Nat.le_of_ble_eq_true rfl) ⟨Or.inl (z_k0 (zk_223 hL)), trivial⟩ ⟨Or.inl (z_k0 (zk_223 hL)), trivial⟩ (hp_X11_isIn (fun c => ?_) (fun c => ?_))
    · replace h := h.1 c
      refine zj_if_ne (tgt := 23) dX11_check_16 (by decide) (fun _ => ?_) (fun q => absurd q (by decide))
      refine zj_iconst (x := 0) dX11_check_23 rfl ?_
      refine zj_callV (M' := mX11_throwsIf) (avs := [.int 0]) (st := []) (ci := 11) dX11_check_24 wm_X11_throwsIf wl_X11_285 wi_X11_throwsIf ws_X11_throwsIf (by decide) (zk_223 hL) rfl rfl (by decide) rfl (Nat.le_of_ble_eq_true rfl) (Nat.le_of_ble_eq_true rfl) ⟨Or.inl (z_k0 (zk_223 hL)), trivial⟩ trivial (z_J.mono h (fun r S1 v3 hq => ?_))
      obtain ⟨y3, rfl, rfl, h⟩ := hq
      refine zj_if_eq (tgt := 32) dX11_check_27 (by decide) (fun c => ?_) (fun c => ?_)
      · replace h := h.1 c
        refine zj_iload_n dX11_check_32 rfl rfl ?_
        refine zj_if_ne (tgt := 50) dX11_check_33 (by decide) (fun c => ?_) (fun c => ?_)
        · replace h := h.1 c
          refine zj_iload_n dX11_check_50 rfl rfl ?_
          refine zj_iconst (x := 1) dX11_check_51 rfl ?_
          refine zj_icmp_ne (tgt := 69) dX11_check_52 (by decide) (fun c => ?_) (fun c => ?_)
          · replace h := h.1 c
            refine zj_iload_n dX11_check_69 rfl rfl ?_
            refine zj_iconst (x := 2) dX11_check_70 rfl ?_
            refine zj_icmp_ne (tgt := 88) dX11_check_71 (by decide) (fun c => ?_) (fun c => ?_)
            · replace h := h.1 c
              refine zj_aload_n dX11_check_88 rfl rfl ?_
              refine zj_getR (ci := 11) (j := 1) dX11_check_89 wf_X11_13 (by decide) (by decide) (zk_223 hL) rfl (zr_223_1 hL) ?_
              refine zj_bipush (x := 47) dX11_check_92 rfl ?_
              refine zj_bipush (x := 12) dX11_check_94 rfl ?_
              refine zj_iload_n dX11_check_96 rfl rfl ?_
              refine zj_imul dX11_check_97 ?_
              refine zj_iadd dX11_check_98 ?_
              refine zj_iload_n dX11_check_99 rfl rfl ?_
              refine zj_iadd dX11_check_100 ?_
              refine zj_iaload dX11_check_101 (zk_224 hL) (by rw [(zl_224 hL)]; exact h.1) ?_
              replace h := h.2
              exact zj_iret dX11_check_102 rfl rfl h
            · replace h := h.2 c
              refine zj_aload_n dX11_check_74 rfl rfl ?_
              refine zj_getR (ci := 11) (j := 12) dX11_check_75 wf_X11_40 (by decide) (by decide) (zk_223 hL) rfl (zr_223_12 hL) ?_
              refine zj_bipush (x := 12) dX11_check_78 rfl ?_
              refine zj_iload_n dX11_check_80 rfl rfl ?_
              refine zj_imul dX11_check_81 ?_
              refine zj_iload_n dX11_check_82 rfl rfl ?_
              refine zj_iadd dX11_check_83 ?_
              refine zj_iaload dX11_check_84 (zk_232 hL) (by rw [(zl_232 hL)]; exact h.1) ?_
              replace h := h.2
              refine zj_goto (tgt := 102) dX11_check_85 (by decide) ?_
              exact zj_iret dX11_check_102 rfl rfl h
          · replace h := h.2 c
            refine zj_aload_n dX11_check_55 rfl rfl ?_
            refine zj_getR (ci := 11) (j := 11) dX11_check_56 wf_X11_37 (by decide) (by decide) (zk_223 hL) rfl (zr_223_11 hL) ?_
            refine zj_bipush (x := 12) dX11_check_59 rfl ?_
            refine zj_iload_n dX11_check_61 rfl rfl ?_
            refine zj_imul dX11_check_62 ?_
            refine zj_iload_n dX11_check_63 rfl rfl ?_
            refine zj_iadd dX11_check_64 ?_
            refine zj_iaload dX11_check_65 (zk_231 hL) (by rw [(zl_231 hL)]; exact h.1) ?_
            replace h := h.2
            refine zj_goto (tgt := 102) dX11_check_66 (by decide) ?_
            exact zj_iret dX11_check_102 rfl rfl h
        · replace h := h.2 c
          refine zj_aload_n dX11_check_36 rfl rfl ?_
          refine zj_getR (ci := 11) (j := 10) dX11_check_37 wf_X11_34 (by decide) (by decide) (zk_223 hL) rfl (zr_223_10 hL) ?_
          refine zj_bipush (x := 12) dX11_check_40 rfl ?_
          refine zj_iload_n dX11_check_42 rfl rfl ?_
          refine zj_imul dX11_check_43 ?_
          refine zj_iload_n dX11_check_44 rfl rfl ?_
          refine zj_iadd dX11_check_45 ?_
          refine zj_iaload dX11_check_46 (zk_230 hL) (by rw [(zl_230 hL)]; exact h.1) ?_
          replace h := h.2
          refine zj_goto (tgt := 102) dX11_check_47 (by decide) ?_
          exact zj_iret dX11_check_102 rfl rfl h
      · replace h := h.2 c
        refine zj_iconst (x := 0) dX11_check_30 rfl ?_
        exact zj_iret dX11_check_31 rfl rfl h
    · replace h := h.2 c
      refine zj_if_ne (tgt := 23) dX11_check_16 (by decide) (fun q => absurd (by decide) q) (fun _ => ?_)
      refine zj_iconst (x := 1) dX11_check_19 rfl ?_
      refine zj_goto (tgt := 24) dX11_check_20 (by decide) ?_
      refine zj_callV (M' := mX11_throwsIf) (avs := [.int 1]) (st := []) (ci := 11) dX11_check_24 wm_X11_throwsIf wl_X11_285 wi_X11_throwsIf ws_X11_throwsIf (by decide) (zk_223 hL) rfl rfl (by decide) rfl (Nat.le_of_ble_eq_true rfl) (Nat.le_of_ble_eq_true rfl) ⟨Or.inl (z_k0 (zk_223 hL)), trivial⟩ trivial (z_J.mono h (fun r S1 v4 hq => ?_))
      obtain ⟨y4, rfl, rfl, h⟩ := hq
      refine zj_if_eq (tgt := 32) dX11_check_27 (by decide) (fun c => ?_) (fun c => ?_)
      · replace h := h.1 c
        refine zj_iload_n dX11_check_32 rfl rfl ?_
        refine zj_if_ne (tgt := 50) dX11_check_33 (by decide) (fun c => ?_) (fun c => ?_)
        · replace h := h.1 c
          refine zj_iload_n dX11_check_50 rfl rfl ?_
          refine zj_iconst (x := 1) dX11_check_51 rfl ?_
          refine zj_icmp_ne (tgt := 69) dX11_check_52 (by decide) (fun c => ?_) (fun c => ?_)
          · replace h := h.1 c
            refine zj_iload_n dX11_check_69 rfl rfl ?_
            refine zj_iconst (x := 2) dX11_check_70 rfl ?_
            refine zj_icmp_ne (tgt := 88) dX11_check_71 (by decide) (fun c => ?_) (fun c => ?_)
            · replace h := h.1 c
              refine zj_aload_n dX11_check_88 rfl rfl ?_
              refine zj_getR (ci := 11) (j := 1) dX11_check_89 wf_X11_13 (by decide) (by decide) (zk_223 hL) rfl (zr_223_1 hL) ?_
              refine zj_bipush (x := 47) dX11_check_92 rfl ?_
              refine zj_bipush (x := 12) dX11_check_94 rfl ?_
              refine zj_iload_n dX11_check_96 rfl rfl ?_
              refine zj_imul dX11_check_97 ?_
              refine zj_iadd dX11_check_98 ?_
              refine zj_iload_n dX11_check_99 rfl rfl ?_
              refine zj_iadd dX11_check_100 ?_
              refine zj_iaload dX11_check_101 (zk_224 hL) (by rw [(zl_224 hL)]; exact h.1) ?_
              replace h := h.2
              exact zj_iret dX11_check_102 rfl rfl h
            · replace h := h.2 c
              refine zj_aload_n dX11_check_74 rfl rfl ?_
              refine zj_getR (ci := 11) (j := 12) dX11_check_75 wf_X11_40 (by decide) (by decide) (zk_223 hL) rfl (zr_223_12 hL) ?_
              refine zj_bipush (x := 12) dX11_check_78 rfl ?_
              refine zj_iload_n dX11_check_80 rfl rfl ?_
              refine zj_imul dX11_check_81 ?_
              refine zj_iload_n dX11_check_82 rfl rfl ?_
              refine zj_iadd dX11_check_83 ?_
              refine zj_iaload dX11_check_84 (zk_232 hL) (by rw [(zl_232 hL)]; exact h.1) ?_
              replace h := h.2
              refine zj_goto (tgt := 102) dX11_check_85 (by decide) ?_
              exact zj_iret dX11_check_102 rfl rfl h
          · replace h := h.2 c
            refine zj_aload_n dX11_check_55 rfl rfl ?_
            refine zj_getR (ci := 11) (j := 11) dX11_check_56 wf_X11_37 (by decide) (by decide) (zk_223 hL) rfl (zr_223_11 hL) ?_
            refine zj_bipush (x := 12) dX11_check_59 rfl ?_
            refine zj_iload_n dX11_check_61 rfl rfl ?_
            refine zj_imul dX11_check_62 ?_
            refine zj_iload_n dX11_check_63 rfl rfl ?_
            refine zj_iadd dX11_check_64 ?_
            refine zj_iaload dX11_check_65 (zk_231 hL) (by rw [(zl_231 hL)]; exact h.1) ?_
            replace h := h.2
            refine zj_goto (tgt := 102) dX11_check_66 (by decide) ?_
            exact zj_iret dX11_check_102 rfl rfl h
        · replace h := h.2 c
          refine zj_aload_n dX11_check_36 rfl rfl ?_
          refine zj_getR (ci := 11) (j := 10) dX11_check_37 wf_X11_34 (by decide) (by decide) (zk_223 hL) rfl (zr_223_10 hL) ?_
          refine zj_bipush (x := 12) dX11_check_40 rfl ?_
          refine zj_iload_n dX11_check_42 rfl rfl ?_
          refine zj_imul dX11_check_43 ?_
          refine zj_iload_n dX11_check_44 rfl rfl ?_
          refine zj_iadd dX11_check_45 ?_
          refine zj_iaload dX11_check_46 (zk_230 hL) (by rw [(zl_230 hL)]; exact h.1) ?_
          replace h := h.2
          refine zj_goto (tgt := 102) dX11_check_47 (by decide) ?_
          exact zj_iret dX11_check_102 rfl rfl h
      · replace h := h.2 c
        refine zj_iconst (x := 0) dX11_check_30 rfl ?_
        exact zj_iret dX11_check_31 rfl rfl h
theorem sg_X11_chooses_0 {G : z_G} {d : Nat} {S : z_Shp} {v : z_Dat} {Q : Option Value → z_Shp → z_Dat → Prop} (hL : z_L S)
    (h : z_J G d mX11_chooses (9, [.ref 223, .int (((1 : Int32) <<< ((v 223 33) &&& 31)) - 1), .null, .null], [], S, v) Q) :
    z_J G d mX11_chooses (0, [.ref 223, .null, .null, .null], [], S, v) Q := by
  refine zj_iconst (x := 1) dX11_chooses_0 rfl ?_
  refine zj_aload_n dX11_chooses_1 rfl rfl ?_
  refine zj_getI (ci := 11) (j := 33) dX11_chooses_2 wf_X11_257 (by decide) (by decide) (zk_223 hL) rfl ?_
  refine zj_ishl dX11_chooses_5 ?_
  refine zj_iconst (x := 1) dX11_chooses_6 rfl ?_
  refine zj_isub dX11_chooses_7 ?_
  refine zj_istore_n (ls2 := [.ref 223, .int (((1 : Int32) <<< ((v 223 33) &&& 31)) - 1), .null, .null]) dX11_chooses_8 rfl (by decide) rfl rfl ?_
  exact h
theorem sg_X11_chooses_9 {G : z_G} {d : Nat} {S : z_Shp} {v : z_Dat} {Q : Option Value → z_Shp → z_Dat → Prop} {x1 : Int32} (hL : z_L S)
    (h : (x1 = 0 → (Q none S v)) ∧ (¬ x1 = 0 → (z_J G d mX11_lowest (0, [.int x1, .null], [], S, v) (fun r S1 v1 => ∃ y1 : Int32, r = some (.int y1) ∧ S1 = S ∧ (z_J G (d + 1) mX11_chooses (22, [.ref 223, .int x1, .int y1, .int (y1 + 1)], [], S, v1) Q))))) :
    z_J G (d + 1) mX11_chooses (9, [.ref 223, .int x1, .null, .null], [], S, v) Q := by
  refine zj_iload_n dX11_chooses_9 rfl rfl ?_
  refine zj_if_eq (tgt := 112) dX11_chooses_10 (by decide) (fun c => ?_) (fun c => ?_)
  · replace h := h.1 c
    exact zj_vret dX11_chooses_112 rfl h
  · replace h := h.2 c
    refine zj_iload_n dX11_chooses_13 rfl rfl ?_
    refine zj_callS (M' := mX11_lowest) (avs := [.int x1]) (st := []) dX11_chooses_14 wm_X11_lowest wl_X11_292 wt_X11_lowest rfl (by decide) rfl (Nat.le_of_ble_eq_true rfl) (Nat.le_of_ble_eq_true rfl) ⟨Or.inl (z_k0 (zk_223 hL)), trivial⟩ trivial (z_J.mono h (fun r S1 v1 hq => ?_))
    obtain ⟨y1, rfl, rfl, h⟩ := hq
    refine zj_istore_n (ls2 := [.ref 223, .int x1, .int y1, .null]) dX11_chooses_17 rfl (by decide) rfl rfl ?_
    refine zj_iload_n dX11_chooses_18 rfl rfl ?_
    refine zj_iconst (x := 1) dX11_chooses_19 rfl ?_
    refine zj_iadd dX11_chooses_20 ?_
    refine zj_istore_n (ls2 := [.ref 223, .int x1, .int y1, .int (y1 + 1)]) dX11_chooses_21 rfl (by decide) rfl rfl ?_
    exact h
theorem sg_X11_chooses_22 {G : z_G} {d : Nat} {S : z_Shp} {v : z_Dat} {Q : Option Value → z_Shp → z_Dat → Prop} {x1 : Int32} {x2 : Int32} {x3 : Int32} (hL : z_L S)
    (h : ((v 223 33) ≤ x3 → (vp_in x2 14 ∧ (∀ v1, v1 = z_u v 247 x2.toNatClampNeg (-2) → ((¬ x3 = (v1 223 33) → (vp_in x2 14 ∧ (∀ v2, v2 = z_u v1 247 x2.toNatClampNeg x3 → (vp_in x3 14 ∧ (∀ v3, v3 = z_u v2 247 x3.toNatClampNeg x2 → (z_J G (d + 1) mX11_chooses (9, [.ref 223, .int ((x1 &&& (((1 : Int32) <<< (x2 &&& 31)) ^^^ (-1))) &&& (((1 : Int32) <<< (x3 &&& 31)) ^^^ (-1))), .null, .null], [], S, v3) Q)))))) ∧ (x3 = (v1 223 33) → (z_J G (d + 1) mX11_chooses (9, [.ref 223, .int (x1 &&& (((1 : Int32) <<< (x2 &&& 31)) ^^^ (-1))), .null, .null], [], S, v1) Q)))))) ∧ (¬ (v 223 33) ≤ x3 → (((((x1 >>> (x3 &&& 31)) &&& 1) = 1) → (z_J G d mX11_costOf (0, [.ref 223, .int x1, .int x2, .int x3], [], S, v) (fun r S1 v4 => ∃ y1 : Int32, r = some (.int y1) ∧ S1 = S ∧ ((vp_in x1 16384) ∧ ((y1 = (v4 244 x1.toNatClampNeg) → (vp_in x2 14 ∧ (∀ v5, v5 = z_u v4 247 x2.toNatClampNeg (-2) → ((¬ x3 = (v5 223 33) → (vp_in x2 14 ∧ (∀ v6, v6 = z_u v5 247 x2.toNatClampNeg x3 → (vp_in x3 14 ∧ (∀ v7, v7 = z_u v6 247 x3.toNatClampNeg x2 → (z_J G (d + 1) mX11_chooses (9, [.ref 223, .int ((x1 &&& (((1 : Int32) <<< (x2 &&& 31)) ^^^ (-1))) &&& (((1 : Int32) <<< (x3 &&& 31)) ^^^ (-1))), .null, .null], [], S, v7) Q)))))) ∧ (x3 = (v5 223 33) → (z_J G (d + 1) mX11_chooses (9, [.ref 223, .int (x1 &&& (((1 : Int32) <<< (x2 &&& 31)) ^^^ (-1))), .null, .null], [], S, v5) Q)))))) ∧ (¬ y1 = (v4 244 x1.toNatClampNeg) → (z_J G (d + 1) mX11_chooses (22, [.ref 223, .int x1, .int x2, .int (x3 + 1)], [], S, v4) Q))))))) ∧ (¬ (((x1 >>> (x3 &&& 31)) &&& 1) = 1) → (z_J G (d + 1) mX11_chooses (22, [.ref 223, .int x1, .int x2, .int (x3 + 1)], [], S, v) Q))))) :
    z_J G (d + 1) mX11_chooses (22, [.ref 223, .int x1, .int x2, .int x3], [], S, v) Q := by
  refine zj_iload_n dX11_chooses_22 rfl rfl ?_
  refine zj_aload_n dX11_chooses_23 rfl rfl ?_
  refine zj_getI (ci := 11) (j := 33) dX11_chooses_24 wf_X11_257 (by decide) (by decide) (zk_223 hL) rfl ?_
  refine zj_icmp_ge (tgt := 60) dX11_chooses_27 (by decide) (fun c => ?_) (fun c => ?_)
  · replace h := h.1 c
    refine zj_iload_n dX11_chooses_60 rfl rfl ?_
    refine zj_iconst (x := 1) dX11_chooses_61 rfl ?_
    refine zj_iload_n dX11_chooses_62 rfl rfl ?_
    refine zj_ishl dX11_chooses_63 ?_
    refine zj_iconst (x := (-1)) dX11_chooses_64 rfl ?_
    refine zj_ixor dX11_chooses_65 ?_
    refine zj_iand dX11_chooses_66 ?_
    refine zj_istore_n (ls2 := [.ref 223, .int (x1 &&& (((1 : Int32) <<< (x2 &&& 31)) ^^^ (-1))), .int x2, .int x3]) dX11_chooses_67 rfl (by decide) rfl rfl ?_
    refine zj_aload_n dX11_chooses_68 rfl rfl ?_
    refine zj_getR (ci := 11) (j := 40) dX11_chooses_69 wf_X11_85 (by decide) (by decide) (zk_223 hL) rfl (zr_223_40 hL) ?_
    refine zj_iload_n dX11_chooses_72 rfl rfl ?_
    refine zj_bipush (x := (-2)) dX11_chooses_73 rfl ?_
    refine zj_iastore dX11_chooses_75 (zk_247 hL) (by rw [(zl_247 hL)]; exact h.1) (fun v1 ev1 => ?_)
    replace h := h.2 v1 ev1
    refine zj_iload_n dX11_chooses_76 rfl rfl ?_
    refine zj_aload_n dX11_chooses_77 rfl rfl ?_
    refine zj_getI (ci := 11) (j := 33) dX11_chooses_78 wf_X11_257 (by decide) (by decide) (zk_223 hL) rfl ?_
    refine zj_icmp_ne (tgt := 87) dX11_chooses_81 (by decide) (fun c => ?_) (fun c => ?_)
    · replace h := h.1 c
      refine zj_aload_n dX11_chooses_87 rfl rfl ?_
      refine zj_getR (ci := 11) (j := 40) dX11_chooses_88 wf_X11_85 (by decide) (by decide) (zk_223 hL) rfl (zr_223_40 hL) ?_
      refine zj_iload_n dX11_chooses_91 rfl rfl ?_
      refine zj_iload_n dX11_chooses_92 rfl rfl ?_
      refine zj_iastore dX11_chooses_93 (zk_247 hL) (by rw [(zl_247 hL)]; exact h.1) (fun v2 ev2 => ?_)
      replace h := h.2 v2 ev2
      refine zj_aload_n dX11_chooses_94 rfl rfl ?_
      refine zj_getR (ci := 11) (j := 40) dX11_chooses_95 wf_X11_85 (by decide) (by decide) (zk_223 hL) rfl (zr_223_40 hL) ?_
      refine zj_iload_n dX11_chooses_98 rfl rfl ?_
      refine zj_iload_n dX11_chooses_99 rfl rfl ?_
      refine zj_iastore dX11_chooses_100 (zk_247 hL) (by rw [(zl_247 hL)]; exact h.1) (fun v3 ev3 => ?_)
      replace h := h.2 v3 ev3
      refine zj_iload_n dX11_chooses_101 rfl rfl ?_
      refine zj_iconst (x := 1) dX11_chooses_102 rfl ?_
      refine zj_iload_n dX11_chooses_103 rfl rfl ?_
      refine zj_ishl dX11_chooses_104 ?_
      refine zj_iconst (x := (-1)) dX11_chooses_105 rfl ?_
      refine zj_ixor dX11_chooses_106 ?_
      refine zj_iand dX11_chooses_107 ?_
      refine zj_istore_n (ls2 := [.ref 223, .int ((x1 &&& (((1 : Int32) <<< (x2 &&& 31)) ^^^ (-1))) &&& (((1 : Int32) <<< (x3 &&& 31)) ^^^ (-1))), .int x2, .int x3]) dX11_chooses_108 rfl (by decide) rfl rfl ?_
      refine zj_goto (tgt := 9) dX11_chooses_109 (by decide) ?_
      refine zj_forget (ls2 := [.ref 223, .int ((x1 &&& (((1 : Int32) <<< (x2 &&& 31)) ^^^ (-1))) &&& (((1 : Int32) <<< (x3 &&& 31)) ^^^ (-1))), .null, .null]) ⟨Or.inr rfl, Or.inr rfl, Or.inl rfl, Or.inl rfl, trivial⟩ ?_
      exact h
    · replace h := h.2 c
      refine zj_goto (tgt := 9) dX11_chooses_84 (by decide) ?_
      refine zj_forget (ls2 := [.ref 223, .int (x1 &&& (((1 : Int32) <<< (x2 &&& 31)) ^^^ (-1))), .null, .null]) ⟨Or.inr rfl, Or.inr rfl, Or.inl rfl, Or.inl rfl, trivial⟩ ?_
      exact h
  · replace h := h.2 c
    refine zj_iload_n dX11_chooses_30 rfl rfl ?_
    refine zj_iload_n dX11_chooses_31 rfl rfl ?_
    refine zj_callS (M' := mX11_bitOf) (avs := [.int x1, .int x3]) (st := []) dX11_chooses_32 wm_X11_bitOf wl_X11_161 wt_X11_bitOf rfl (by decide) rfl (Nat.le_of_ble_eq_true rfl) (Nat.le_of_ble_eq_true rfl) ⟨Or.inl (z_k0 (zk_223 hL)), trivial⟩ trivial (hp_X11_bitOf (fun c => ?_) (fun c => ?_))
    · replace h := h.1 c
      refine zj_if_eq (tgt := 54) dX11_chooses_35 (by decide) (fun q => absurd q (by decide)) (fun _ => ?_)
      refine zj_aload_n dX11_chooses_38 rfl rfl ?_
      refine zj_iload_n dX11_chooses_39 rfl rfl ?_
      refine zj_iload_n dX11_chooses_40 rfl rfl ?_
      refine zj_iload_n dX11_chooses_41 rfl rfl ?_
      refine zj_callV (M' := mX11_costOf) (avs := [.int x1, .int x2, .int x3]) (st := []) (ci := 11) dX11_chooses_42 wm_X11_costOf wl_X11_295 wi_X11_costOf ws_X11_costOf (by decide) (zk_223 hL) rfl rfl (by decide) rfl (Nat.le_of_ble_eq_true rfl) (Nat.le_of_ble_eq_true rfl) ⟨Or.inl (z_k0 (zk_223 hL)), trivial⟩ trivial (z_J.mono h (fun r S1 v4 hq => ?_))
      obtain ⟨y1, rfl, rfl, h⟩ := hq
      refine zj_aload_n dX11_chooses_45 rfl rfl ?_
      refine zj_getR (ci := 11) (j := 37) dX11_chooses_46 wf_X11_76 (by decide) (by decide) (zk_223 hL) rfl (zr_223_37 hL) ?_
      refine zj_iload_n dX11_chooses_49 rfl rfl ?_
      refine zj_iaload dX11_chooses_50 (zk_244 hL) (by rw [(zl_244 hL)]; exact h.1) ?_
      replace h := h.2
      refine zj_icmp_eq (tgt := 60) dX11_chooses_51 (by decide) (fun c => ?_) (fun c => ?_)
      · replace h := h.1 c
        refine zj_iload_n dX11_chooses_60 rfl rfl ?_
        refine zj_iconst (x := 1) dX11_chooses_61 rfl ?_
        refine zj_iload_n dX11_chooses_62 rfl rfl ?_
        refine zj_ishl dX11_chooses_63 ?_
        refine zj_iconst (x := (-1)) dX11_chooses_64 rfl ?_
        refine zj_ixor dX11_chooses_65 ?_
        refine zj_iand dX11_chooses_66 ?_
        refine zj_istore_n (ls2 := [.ref 223, .int (x1 &&& (((1 : Int32) <<< (x2 &&& 31)) ^^^ (-1))), .int x2, .int x3]) dX11_chooses_67 rfl (by decide) rfl rfl ?_
        refine zj_aload_n dX11_chooses_68 rfl rfl ?_
        refine zj_getR (ci := 11) (j := 40) dX11_chooses_69 wf_X11_85 (by decide) (by decide) (zk_223 hL) rfl (zr_223_40 hL) ?_
        refine zj_iload_n dX11_chooses_72 rfl rfl ?_
        refine zj_bipush (x := (-2)) dX11_chooses_73 rfl ?_
        refine zj_iastore dX11_chooses_75 (zk_247 hL) (by rw [(zl_247 hL)]; exact h.1) (fun v5 ev5 => ?_)
        replace h := h.2 v5 ev5
        refine zj_iload_n dX11_chooses_76 rfl rfl ?_
        refine zj_aload_n dX11_chooses_77 rfl rfl ?_
        refine zj_getI (ci := 11) (j := 33) dX11_chooses_78 wf_X11_257 (by decide) (by decide) (zk_223 hL) rfl ?_
        refine zj_icmp_ne (tgt := 87) dX11_chooses_81 (by decide) (fun c => ?_) (fun c => ?_)
        · replace h := h.1 c
          refine zj_aload_n dX11_chooses_87 rfl rfl ?_
          refine zj_getR (ci := 11) (j := 40) dX11_chooses_88 wf_X11_85 (by decide) (by decide) (zk_223 hL) rfl (zr_223_40 hL) ?_
          refine zj_iload_n dX11_chooses_91 rfl rfl ?_
          refine zj_iload_n dX11_chooses_92 rfl rfl ?_
          refine zj_iastore dX11_chooses_93 (zk_247 hL) (by rw [(zl_247 hL)]; exact h.1) (fun v6 ev6 => ?_)
          replace h := h.2 v6 ev6
          refine zj_aload_n dX11_chooses_94 rfl rfl ?_
          refine zj_getR (ci := 11) (j := 40) dX11_chooses_95 wf_X11_85 (by decide) (by decide) (zk_223 hL) rfl (zr_223_40 hL) ?_
          refine zj_iload_n dX11_chooses_98 rfl rfl ?_
          refine zj_iload_n dX11_chooses_99 rfl rfl ?_
          refine zj_iastore dX11_chooses_100 (zk_247 hL) (by rw [(zl_247 hL)]; exact h.1) (fun v7 ev7 => ?_)
          replace h := h.2 v7 ev7
          refine zj_iload_n dX11_chooses_101 rfl rfl ?_
          refine zj_iconst (x := 1) dX11_chooses_102 rfl ?_
          refine zj_iload_n dX11_chooses_103 rfl rfl ?_
          refine zj_ishl dX11_chooses_104 ?_
          refine zj_iconst (x := (-1)) dX11_chooses_105 rfl ?_
          refine zj_ixor dX11_chooses_106 ?_
          refine zj_iand dX11_chooses_107 ?_
          refine zj_istore_n (ls2 := [.ref 223, .int ((x1 &&& (((1 : Int32) <<< (x2 &&& 31)) ^^^ (-1))) &&& (((1 : Int32) <<< (x3 &&& 31)) ^^^ (-1))), .int x2, .int x3]) dX11_chooses_108 rfl (by decide) rfl rfl ?_
          refine zj_goto (tgt := 9) dX11_chooses_109 (by decide) ?_
          refine zj_forget (ls2 := [.ref 223, .int ((x1 &&& (((1 : Int32) <<< (x2 &&& 31)) ^^^ (-1))) &&& (((1 : Int32) <<< (x3 &&& 31)) ^^^ (-1))), .null, .null]) ⟨Or.inr rfl, Or.inr rfl, Or.inl rfl, Or.inl rfl, trivial⟩ ?_
          exact h
        · replace h := h.2 c
          refine zj_goto (tgt := 9) dX11_chooses_84 (by decide) ?_
          refine zj_forget (ls2 := [.ref 223, .int (x1 &&& (((1 : Int32) <<< (x2 &&& 31)) ^^^ (-1))), .null, .null]) ⟨Or.inr rfl, Or.inr rfl, Or.inl rfl, Or.inl rfl, trivial⟩ ?_
          exact h
      · replace h := h.2 c
        refine zj_iinc (y := x3 + 1) (ls2 := [.ref 223, .int x1, .int x2, .int (x3 + 1)]) dX11_chooses_54 rfl rfl (by decide) rfl rfl ?_
        refine zj_goto (tgt := 22) dX11_chooses_57 (by decide) ?_
        exact h
    · replace h := h.2 c
      refine zj_if_eq (tgt := 54) dX11_chooses_35 (by decide) (fun _ => ?_) (fun q => absurd (by decide) q)
      refine zj_iinc (y := x3 + 1) (ls2 := [.ref 223, .int x1, .int x2, .int (x3 + 1)]) dX11_chooses_54 rfl rfl (by decide) rfl rfl ?_
      refine zj_goto (tgt := 22) dX11_chooses_57 (by decide) ?_
      exact h
