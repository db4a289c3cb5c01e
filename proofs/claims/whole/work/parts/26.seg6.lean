theorem sg_X5_between_0 {G : z_G} {d : Nat} {S : z_Shp} {v : z_Dat} {Q : Option Value → z_Shp → z_Dat → Prop} {x1 : Int32} {x2 : Int32} (hL : z_L S)
    (h : (vp_in x2 15) ∧ ((vp_in x1 14) ∧ ((vp_in (v 167 x1.toNatClampNeg) 109) ∧ (Q (some (.int (v (169 + x2.toNatClampNeg) (v 167 x1.toNatClampNeg).toNatClampNeg))) S v)))) :
    z_J G d mX5_between (0, [.ref 164, .int x1, .int x2], [], S, v) Q := by
  refine zj_aload_n dX5_between_0 rfl rfl ?_
  refine zj_getR (ci := 5) (j := 6) dX5_between_1 wf_X5_23 (by decide) (by decide) (zk_164 hL) rfl (zr_164_6 hL) ?_
  refine zj_iload_n dX5_between_4 rfl rfl ?_
  obtain ⟨hi1, h⟩ := h
  refine zj_aaload0 dX5_between_5 (zk_168 hL) (by rw [(zl_168 hL)]; exact hi1) (zRor hL hi1) ?_
  refine zj_aload_n dX5_between_6 rfl rfl ?_
  refine zj_getR (ci := 5) (j := 5) dX5_between_7 wf_X5_18 (by decide) (by decide) (zk_164 hL) rfl (zr_164_5 hL) ?_
  refine zj_iload_n dX5_between_10 rfl rfl ?_
  refine zj_iaload dX5_between_11 (zk_167 hL) (by rw [(zl_167 hL)]; exact h.1) ?_
  replace h := h.2
  refine zj_iaload dX5_between_12 (zRok hL hi1) (by rw [(zRol hL hi1)]; exact h.1) ?_
  replace h := h.2
  exact zj_iret dX5_between_13 rfl rfl h
theorem sg_X5_choosePartners_0 {G : z_G} {d : Nat} {S : z_Shp} {v : z_Dat} {Q : Option Value → z_Shp → z_Dat → Prop} {x1 : Int32}
    (h : z_J G d mX5_choosePartners (4, [.ref 164, .int x1, .int x1, .int 0, .null], [], S, v) Q) :
    z_J G d mX5_choosePartners (0, [.ref 164, .int x1, .null, .null, .null], [], S, v) Q := by
  refine zj_iload_n dX5_choosePartners_0 rfl rfl ?_
  refine zj_istore_n (ls2 := [.ref 164, .int x1, .int x1, .null, .null]) dX5_choosePartners_1 rfl (by decide) rfl rfl ?_
  refine zj_iconst (x := 0) dX5_choosePartners_2 rfl ?_
  refine zj_istore_n (ls2 := [.ref 164, .int x1, .int x1, .int 0, .null]) dX5_choosePartners_3 rfl (by decide) rfl rfl ?_
  exact h
theorem sg_X5_choosePartners_4 {G : z_G} {d : Nat} {S : z_Shp} {v : z_Dat} {Q : Option Value → z_Shp → z_Dat → Prop} {x1 : Int32} {x2 : Int32} {x3 : Int32} (hL : z_L S)
    (h : ((v 164 0) ≤ x3 → (Q none S v)) ∧ (¬ (v 164 0) ≤ x3 → ((¬ ((x2 >>> (x3 &&& 31)) &&& 1) = 1 → (z_J G (d + 1) mX5_choosePartners (4, [.ref 164, .int x1, .int x2, .int (x3 + 1), .null], [], S, v) Q)) ∧ (((x2 >>> (x3 &&& 31)) &&& 1) = 1 → (z_J G d mX5_firstPartner (0, [.ref 164, .int x3, .int x2, .null, .null], [], S, v) (fun r S1 v1 => ∃ y1 : Int32, r = some (.int y1) ∧ S1 = S ∧ (vp_in x3 14 ∧ (∀ v2, v2 = z_u v1 165 x3.toNatClampNeg y1 → ((y1 = (-2) → (z_J G (d + 1) mX5_choosePartners (4, [.ref 164, .int x1, .int (x2 &&& (x2 - 1)), .int (x3 + 1), .null], [], S, v2) Q)) ∧ (¬ y1 = (-2) → (vp_in y1 14 ∧ (∀ v3, v3 = z_u v2 165 y1.toNatClampNeg x3 → (z_J G (d + 1) mX5_choosePartners (4, [.ref 164, .int x1, .int ((x2 &&& (x2 - 1)) ^^^ ((1 : Int32) <<< (y1 &&& 31))), .int (x3 + 1), .null], [], S, v3) Q))))))))))))) :
    z_J G (d + 1) mX5_choosePartners (4, [.ref 164, .int x1, .int x2, .int x3, .null], [], S, v) Q := by
  refine zj_iload_n dX5_choosePartners_4 rfl rfl ?_
  refine zj_aload_n dX5_choosePartners_5 rfl rfl ?_
  refine zj_getI (ci := 5) (j := 0) dX5_choosePartners_6 wf_X5_44 (by decide) (by decide) (zk_164 hL) rfl ?_
  refine zj_icmp_ge (tgt := 71) dX5_choosePartners_9 (by decide) (fun c => ?_) (fun c => ?_)
  · replace h := h.1 c
    exact zj_vret dX5_choosePartners_71 rfl h
  · replace h := h.2 c
    refine zj_iload_n dX5_choosePartners_12 rfl rfl ?_
    refine zj_iload_n dX5_choosePartners_13 rfl rfl ?_
    refine zj_ishr dX5_choosePartners_14 ?_
    refine zj_iconst (x := 1) dX5_choosePartners_15 rfl ?_
    refine zj_iand dX5_choosePartners_16 ?_
    refine zj_iconst (x := 1) dX5_choosePartners_17 rfl ?_
    refine zj_icmp_ne (tgt := 65) dX5_choosePartners_18 (by decide) (fun c => ?_) (fun c => ?_)
    · replace h := h.1 c
      refine zj_iinc (y := x3 + 1) (ls2 := [.ref 164, .int x1, .int x2, .int (x3 + 1), .null]) dX5_choosePartners_65 rfl rfl (by decide) rfl rfl ?_
      refine zj_goto (tgt := 4) dX5_choosePartners_68 (by decide) ?_
      exact h
    · replace h := h.2 c
      refine zj_aload_n dX5_choosePartners_21 rfl rfl ?_
      refine zj_iload_n dX5_choosePartners_22 rfl rfl ?_
      refine zj_iload_n dX5_choosePartners_23 rfl rfl ?_
      refine zj_callV (M' := mX5_firstPartner) (avs := [.int x3, .int x2]) (st := []) (ci := 5) dX5_choosePartners_24 wm_X5_firstPartner wl_X5_87 wi_X5_firstPartner ws_X5_firstPartner (by decide) (zk_164 hL) rfl rfl (by decide) rfl (Nat.le_of_ble_eq_true rfl) (Nat.le_of_ble_eq_true rfl) ⟨Or.inl (z_k0 (zk_164 hL)), trivial⟩ trivial (z_J.mono h (fun r S1 v1 hq => ?_))
      obtain ⟨y1, rfl, rfl, h⟩ := hq
      refine zj_istore (ls2 := [.ref 164, .int x1, .int x2, .int x3, .int y1]) dX5_choosePartners_27 (by decide) rfl rfl ?_
      refine zj_aload_n dX5_choosePartners_29 rfl rfl ?_
      refine zj_getR (ci := 5) (j := 3) dX5_choosePartners_30 wf_X5_9 (by decide) (by decide) (zk_164 hL) rfl (zr_164_3 hL) ?_
      refine zj_iload_n dX5_choosePartners_33 rfl rfl ?_
      refine zj_iload dX5_choosePartners_34 rfl ?_
      refine zj_iastore dX5_choosePartners_36 (zk_165 hL) (by rw [(zl_165 hL)]; exact h.1) (fun v2 ev2 => ?_)
      replace h := h.2 v2 ev2
      refine zj_iload_n dX5_choosePartners_37 rfl rfl ?_
      refine zj_iload_n dX5_choosePartners_38 rfl rfl ?_
      refine zj_iconst (x := 1) dX5_choosePartners_39 rfl ?_
      refine zj_isub dX5_choosePartners_40 ?_
      refine zj_iand dX5_choosePartners_41 ?_
      refine zj_istore_n (ls2 := [.ref 164, .int x1, .int (x2 &&& (x2 - 1)), .int x3, .int y1]) dX5_choosePartners_42 rfl (by decide) rfl rfl ?_
      refine zj_iload dX5_choosePartners_43 rfl ?_
      refine zj_bipush (x := (-2)) dX5_choosePartners_45 rfl ?_
      refine zj_icmp_eq (tgt := 65) dX5_choosePartners_47 (by decide) (fun c => ?_) (fun c => ?_)
      · replace h := h.1 c
        refine zj_iinc (y := x3 + 1) (ls2 := [.ref 164, .int x1, .int (x2 &&& (x2 - 1)), .int (x3 + 1), .int y1]) dX5_choosePartners_65 rfl rfl (by decide) rfl rfl ?_
        refine zj_goto (tgt := 4) dX5_choosePartners_68 (by decide) ?_
        refine zj_forget (ls2 := [.ref 164, .int x1, .int (x2 &&& (x2 - 1)), .int (x3 + 1), .null]) ⟨Or.inr rfl, Or.inr rfl, Or.inr rfl, Or.inr rfl, Or.inl rfl, trivial⟩ ?_
        exact h
      · replace h := h.2 c
        refine zj_aload_n dX5_choosePartners_50 rfl rfl ?_
        refine zj_getR (ci := 5) (j := 3) dX5_choosePartners_51 wf_X5_9 (by decide) (by decide) (zk_164 hL) rfl (zr_164_3 hL) ?_
        refine zj_iload dX5_choosePartners_54 rfl ?_
        refine zj_iload_n dX5_choosePartners_56 rfl rfl ?_
        refine zj_iastore dX5_choosePartners_57 (zk_165 hL) (by rw [(zl_165 hL)]; exact h.1) (fun v3 ev3 => ?_)
        replace h := h.2 v3 ev3
        refine zj_iload_n dX5_choosePartners_58 rfl rfl ?_
        refine zj_iconst (x := 1) dX5_choosePartners_59 rfl ?_
        refine zj_iload dX5_choosePartners_60 rfl ?_
        refine zj_ishl dX5_choosePartners_62 ?_
        refine zj_ixor dX5_choosePartners_63 ?_
        refine zj_istore_n (ls2 := [.ref 164, .int x1, .int ((x2 &&& (x2 - 1)) ^^^ ((1 : Int32) <<< (y1 &&& 31))), .int x3, .int y1]) dX5_choosePartners_64 rfl (by decide) rfl rfl ?_
        refine zj_iinc (y := x3 + 1) (ls2 := [.ref 164, .int x1, .int ((x2 &&& (x2 - 1)) ^^^ ((1 : Int32) <<< (y1 &&& 31))), .int (x3 + 1), .int y1]) dX5_choosePartners_65 rfl rfl (by decide) rfl rfl ?_
        refine zj_goto (tgt := 4) dX5_choosePartners_68 (by decide) ?_
        refine zj_forget (ls2 := [.ref 164, .int x1, .int ((x2 &&& (x2 - 1)) ^^^ ((1 : Int32) <<< (y1 &&& 31))), .int (x3 + 1), .null]) ⟨Or.inr rfl, Or.inr rfl, Or.inr rfl, Or.inr rfl, Or.inl rfl, trivial⟩ ?_
        exact h
theorem sg_X5_firstPartner_0 {G : z_G} {d : Nat} {S : z_Shp} {v : z_Dat} {Q : Option Value → z_Shp → z_Dat → Prop} {x1 : Int32} {x2 : Int32}
    (h : z_J G d mX5_firstPartner (11, [.ref 164, .int x1, .int x2, .int (x2 &&& (x2 - 1)), .int (x1 + 1)], [], S, v) Q) :
    z_J G d mX5_firstPartner (0, [.ref 164, .int x1, .int x2, .null, .null], [], S, v) Q := by
  refine zj_iload_n dX5_firstPartner_0 rfl rfl ?_
  refine zj_iload_n dX5_firstPartner_1 rfl rfl ?_
  refine zj_iconst (x := 1) dX5_firstPartner_2 rfl ?_
  refine zj_isub dX5_firstPartner_3 ?_
  refine zj_iand dX5_firstPartner_4 ?_
  refine zj_istore_n (ls2 := [.ref 164, .int x1, .int x2, .int (x2 &&& (x2 - 1)), .null]) dX5_firstPartner_5 rfl (by decide) rfl rfl ?_
  refine zj_iload_n dX5_firstPartner_6 rfl rfl ?_
  refine zj_iconst (x := 1) dX5_firstPartner_7 rfl ?_
  refine zj_iadd dX5_firstPartner_8 ?_
  refine zj_istore (ls2 := [.ref 164, .int x1, .int x2, .int (x2 &&& (x2 - 1)), .int (x1 + 1)]) dX5_firstPartner_9 (by decide) rfl rfl ?_
  exact h
theorem sg_X5_firstPartner_11 {G : z_G} {d : Nat} {S : z_Shp} {v : z_Dat} {Q : Option Value → z_Shp → z_Dat → Prop} {x1 : Int32} {x2 : Int32} {x3 : Int32} {x4 : Int32} {aL : Nat} (hL : z_L S) (raL : z_r S 164 7 = some aL) (kaL : z_k S aL = 21)
    (h : ((v 164 0) ≤ x4 → (Q (some (.int (-2))) S v)) ∧ (¬ (v 164 0) ≤ x4 → ((¬ ((x3 >>> (x4 &&& 31)) &&& 1) = 1 → (z_J G (d + 1) mX5_firstPartner (11, [.ref 164, .int x1, .int x2, .int x3, .int (x4 + 1)], [], S, v) Q)) ∧ (((x3 >>> (x4 &&& 31)) &&& 1) = 1 → (z_J G d mX5_between (0, [.ref 164, .int x1, .int x4], [], S, v) (fun r S1 v1 => ∃ y1 : Int32, r = some (.int y1) ∧ S1 = S ∧ ((vp_in (x3 ^^^ ((1 : Int32) <<< (x4 &&& 31))) (z_l S aL)) ∧ ((vp_in x2 (z_l S aL)) ∧ ((¬ (y1 + (v1 aL (x3 ^^^ ((1 : Int32) <<< (x4 &&& 31))).toNatClampNeg)) = (v1 aL x2.toNatClampNeg) → (z_J G (d + 1) mX5_firstPartner (11, [.ref 164, .int x1, .int x2, .int x3, .int (x4 + 1)], [], S, v1) Q)) ∧ ((y1 + (v1 aL (x3 ^^^ ((1 : Int32) <<< (x4 &&& 31))).toNatClampNeg)) = (v1 aL x2.toNatClampNeg) → (Q (some (.int x4)) S v1))))))))))) :
    z_J G (d + 1) mX5_firstPartner (11, [.ref 164, .int x1, .int x2, .int x3, .int x4], [], S, v) Q := by
  refine zj_iload dX5_firstPartner_11 rfl ?_
  refine zj_aload_n dX5_firstPartner_13 rfl rfl ?_
  refine zj_getI (ci := 5) (j := 0) dX5_firstPartner_14 wf_X5_44 (by decide) (by decide) (zk_164 hL) rfl ?_
  refine zj_icmp_ge (tgt := 67) dX5_firstPartner_17 (by decide) (fun c => ?_) (fun c => ?_)
  · replace h := h.1 c
    refine zj_bipush (x := (-2)) dX5_firstPartner_67 rfl ?_
    exact zj_iret dX5_firstPartner_69 rfl rfl h
  · replace h := h.2 c
    refine zj_iload_n dX5_firstPartner_20 rfl rfl ?_
    refine zj_iload dX5_firstPartner_21 rfl ?_
    refine zj_ishr dX5_firstPartner_23 ?_
    refine zj_iconst (x := 1) dX5_firstPartner_24 rfl ?_
    refine zj_iand dX5_firstPartner_25 ?_
    refine zj_iconst (x := 1) dX5_firstPartner_26 rfl ?_
    refine zj_icmp_ne (tgt := 61) dX5_firstPartner_27 (by decide) (fun c => ?_) (fun c => ?_)
    · replace h := h.1 c
      refine zj_iinc (y := x4 + 1) (ls2 := [.ref 164, .int x1, .int x2, .int x3, .int (x4 + 1)]) dX5_firstPartner_61 rfl rfl (by decide) rfl rfl ?_
      refine zj_goto (tgt := 11) dX5_firstPartner_64 (by decide) ?_
      exact h
    · replace h := h.2 c
      refine zj_aload_n dX5_firstPartner_30 rfl rfl ?_
      refine zj_iload_n dX5_firstPartner_31 rfl rfl ?_
      refine zj_iload dX5_firstPartner_32 rfl ?_
      refine zj_callV (M' := mX5_between) (avs := [.int x1, .int x4]) (st := []) (ci := 5) dX5_firstPartner_34 wm_X5_between wl_X5_84 wi_X5_between ws_X5_between (by decide) (zk_164 hL) rfl rfl (by decide) rfl (Nat.le_of_ble_eq_true rfl) (Nat.le_of_ble_eq_true rfl) ⟨Or.inl (z_k0 (zk_164 hL)), trivial⟩ trivial (z_J.mono h (fun r S1 v1 hq => ?_))
      obtain ⟨y1, rfl, rfl, h⟩ := hq
      refine zj_aload_n dX5_firstPartner_37 rfl rfl ?_
      refine zj_getR (ci := 5) (j := 7) dX5_firstPartner_38 wf_X5_26 (by decide) (by decide) (zk_164 hL) rfl raL ?_
      refine zj_iload_n dX5_firstPartner_41 rfl rfl ?_
      refine zj_iconst (x := 1) dX5_firstPartner_42 rfl ?_
      refine zj_iload dX5_firstPartner_43 rfl ?_
      refine zj_ishl dX5_firstPartner_45 ?_
      refine zj_ixor dX5_firstPartner_46 ?_
      refine zj_iaload dX5_firstPartner_47 kaL h.1 ?_
      replace h := h.2
      refine zj_iadd dX5_firstPartner_48 ?_
      refine zj_aload_n dX5_firstPartner_49 rfl rfl ?_
      refine zj_getR (ci := 5) (j := 7) dX5_firstPartner_50 wf_X5_26 (by decide) (by decide) (zk_164 hL) rfl raL ?_
      refine zj_iload_n dX5_firstPartner_53 rfl rfl ?_
      refine zj_iaload dX5_firstPartner_54 kaL h.1 ?_
      replace h := h.2
      refine zj_icmp_ne (tgt := 61) dX5_firstPartner_55 (by decide) (fun c => ?_) (fun c => ?_)
      · replace h := h.1 c
        refine zj_iinc (y := x4 + 1) (ls2 := [.ref 164, .int x1, .int x2, .int x3, .int (x4 + 1)]) dX5_firstPartner_61 rfl rfl (by decide) rfl rfl ?_
        refine zj_goto (tgt := 11) dX5_firstPartner_64 (by decide) ?_
        exact h
      · replace h := h.2 c
        refine zj_iload dX5_firstPartner_58 rfl ?_
        exact zj_iret dX5_firstPartner_60 rfl rfl h
theorem sg_X5_flipAlong_0 {G : z_G} {d : Nat} {S : z_Shp} {v : z_Dat} {Q : Option Value → z_Shp → z_Dat → Prop}
    (h : z_J G d mX5_flipAlong (2, [.ref 164, .ref 158, .int 0], [], S, v) Q) :
    z_J G d mX5_flipAlong (0, [.ref 164, .ref 158, .null], [], S, v) Q := by
  refine zj_iconst (x := 0) dX5_flipAlong_0 rfl ?_
  refine zj_istore_n (ls2 := [.ref 164, .ref 158, .int 0]) dX5_flipAlong_1 rfl (by decide) rfl rfl ?_
  exact h
theorem sg_X5_flipAlong_2 {G : z_G} {d : Nat} {S : z_Shp} {v : z_Dat} {Q : Option Value → z_Shp → z_Dat → Prop} {x2 : Int32} (hL : z_L S)
    (h : ((v 158 1) ≤ x2 → (Q none S v)) ∧ (¬ (v 158 1) ≤ x2 → ((vp_in x2 256) ∧ ((vp_in (v 159 x2.toNatClampNeg) 321) ∧ (vp_in (v 159 x2.toNatClampNeg) 321 ∧ (∀ v1, v1 = z_u v 166 (v 159 x2.toNatClampNeg).toNatClampNeg ((v 166 (v 159 x2.toNatClampNeg).toNatClampNeg) ^^^ 1) → (z_J G d mX5_flipAlong (2, [.ref 164, .ref 158, .int (x2 + 1)], [], S, v1) Q))))))) :
    z_J G d mX5_flipAlong (2, [.ref 164, .ref 158, .int x2], [], S, v) Q := by
  refine zj_iload_n dX5_flipAlong_2 rfl rfl ?_
  refine zj_aload_n dX5_flipAlong_3 rfl rfl ?_
  refine zj_getI (ci := 8) (j := 1) dX5_flipAlong_4 wf_X5_104 (by decide) (by decide) (zk_158 hL) rfl ?_
  refine zj_icmp_ge (tgt := 31) dX5_flipAlong_7 (by decide) (fun c => ?_) (fun c => ?_)
  · replace h := h.1 c
    exact zj_vret dX5_flipAlong_31 rfl h
  · replace h := h.2 c
    refine zj_aload_n dX5_flipAlong_10 rfl rfl ?_
    refine zj_getR (ci := 5) (j := 4) dX5_flipAlong_11 wf_X5_15 (by decide) (by decide) (zk_164 hL) rfl (zr_164_4 hL) ?_
    refine zj_aload_n dX5_flipAlong_14 rfl rfl ?_
    refine zj_getR (ci := 8) (j := 2) dX5_flipAlong_15 wf_X5_107 (by decide) (by decide) (zk_158 hL) rfl (zr_158_2 hL) ?_
    refine zj_iload_n dX5_flipAlong_18 rfl rfl ?_
    refine zj_iaload dX5_flipAlong_19 (zk_159 hL) (by rw [(zl_159 hL)]; exact h.1) ?_
    replace h := h.2
    refine zj_dup2 dX5_flipAlong_20 rfl rfl ?_
    refine zj_iaload dX5_flipAlong_21 (zk_166 hL) (by rw [(zl_166 hL)]; exact h.1) ?_
    replace h := h.2
    refine zj_iconst (x := 1) dX5_flipAlong_22 rfl ?_
    refine zj_ixor dX5_flipAlong_23 ?_
    refine zj_iastore dX5_flipAlong_24 (zk_166 hL) (by rw [(zl_166 hL)]; exact h.1) (fun v1 ev1 => ?_)
    replace h := h.2 v1 ev1
    refine zj_iinc (y := x2 + 1) (ls2 := [.ref 164, .ref 158, .int (x2 + 1)]) dX5_flipAlong_25 rfl rfl (by decide) rfl rfl ?_
    refine zj_goto (tgt := 2) dX5_flipAlong_28 (by decide) ?_
    exact h
theorem sg_X5_leastFor_0 {G : z_G} {d : Nat} {S : z_Shp} {v : z_Dat} {Q : Option Value → z_Shp → z_Dat → Prop} {x1 : Int32} {x2 : Int32} {aL : Nat} {aO : Nat} (hL : z_L S) (raL : z_r S 164 7 = some aL) (kaL : z_k S aL = 21) (raO : z_r S 164 8 = some aO) (kaO : z_k S aO = 21)
    (h : (x1 = 0 → (vp_in 0 (z_l S aL) ∧ (∀ v1, v1 = z_u v aL 0 0 → (vp_in 0 (z_l S aO) ∧ (∀ v2, v2 = z_u v1 aO 0 1 → (Q (some (.int 0)) S v2)))))) ∧ (¬ x1 = 0 → ((x2 ≤ 14 → ((vp_in x1 (z_l S aL)) ∧ (((v aL x1.toNatClampNeg) = (-1) → (z_J G d mX5_toBorder (0, [.ref 164, .int (z_tz x1)], [], S, v) (fun r S1 v3 => ∃ y1 : Int32, r = some (.int y1) ∧ S1 = S ∧ (z_J G d mX5_leastFor (0, [.ref 164, .int (x1 &&& (x1 - 1)), .int (x2 + 1), .null, .null, .null, .null, .null, .null, .null], [], S, v3) (fun r S1 v4 => ∃ y2 : Int32, r = some (.int y2) ∧ S1 = S ∧ ((vp_in (x1 &&& (x1 - 1)) (z_l S aO)) ∧ (z_J G (d + 1) mX5_leastFor (86, [.ref 164, .int x1, .int x2, .int (z_tz x1), .int (x1 &&& (x1 - 1)), .int (y1 + y2), .int (v4 aO (x1 &&& (x1 - 1)).toNatClampNeg), .int ((z_tz x1) + 1), .null, .null], [], S, v4) Q))))))) ∧ (¬ (v aL x1.toNatClampNeg) = (-1) → ((vp_in x1 (z_l S aL)) ∧ (Q (some (.int (v aL x1.toNatClampNeg))) S v)))))) ∧ (¬ x2 ≤ 14 → (vp_in 0 (z_l S aL) ∧ (∀ v5, v5 = z_u v aL 0 0 → (vp_in 0 (z_l S aO) ∧ (∀ v6, v6 = z_u v5 aO 0 1 → (Q (some (.int 0)) S v6))))))))) :
    z_J G (d + 1) mX5_leastFor (0, [.ref 164, .int x1, .int x2, .null, .null, .null, .null, .null, .null, .null], [], S, v) Q := by
  refine zj_iload_n dX5_leastFor_0 rfl rfl ?_
  refine zj_if_eq (tgt := 10) dX5_leastFor_1 (by decide) (fun c => ?_) (fun c => ?_)
  · replace h := h.1 c
    refine zj_aload_n dX5_leastFor_10 rfl rfl ?_
    refine zj_getR (ci := 5) (j := 7) dX5_leastFor_11 wf_X5_26 (by decide) (by decide) (zk_164 hL) rfl raL ?_
    refine zj_iconst (x := 0) dX5_leastFor_14 rfl ?_
    refine zj_iconst (x := 0) dX5_leastFor_15 rfl ?_
    refine zj_iastore dX5_leastFor_16 kaL h.1 (fun v1 ev1 => ?_)
    replace h := h.2 v1 ev1
    refine zj_aload_n dX5_leastFor_17 rfl rfl ?_
    refine zj_getR (ci := 5) (j := 8) dX5_leastFor_18 wf_X5_29 (by decide) (by decide) (zk_164 hL) rfl raO ?_
    refine zj_iconst (x := 0) dX5_leastFor_21 rfl ?_
    refine zj_iconst (x := 1) dX5_leastFor_22 rfl ?_
    refine zj_iastore dX5_leastFor_23 kaO h.1 (fun v2 ev2 => ?_)
    replace h := h.2 v2 ev2
    refine zj_iconst (x := 0) dX5_leastFor_24 rfl ?_
    exact zj_iret dX5_leastFor_25 rfl rfl h
  · replace h := h.2 c
    refine zj_iload_n dX5_leastFor_4 rfl rfl ?_
    refine zj_bipush (x := 14) dX5_leastFor_5 rfl ?_
    refine zj_icmp_le (tgt := 26) dX5_leastFor_7 (by decide) (fun c => ?_) (fun c => ?_)
    · replace h := h.1 c
      refine zj_aload_n dX5_leastFor_26 rfl rfl ?_
      refine zj_getR (ci := 5) (j := 7) dX5_leastFor_27 wf_X5_26 (by decide) (by decide) (zk_164 hL) rfl raL ?_
      refine zj_iload_n dX5_leastFor_30 rfl rfl ?_
      refine zj_iaload dX5_leastFor_31 kaL h.1 ?_
      replace h := h.2
      refine zj_iconst (x := (-1)) dX5_leastFor_32 rfl ?_
      refine zj_icmp_eq (tgt := 43) dX5_leastFor_33 (by decide) (fun c => ?_) (fun c => ?_)
      · replace h := h.1 c
        refine zj_iload_n dX5_leastFor_43 rfl rfl ?_
        refine zj_callS (M' := mJ6_numberOfTrailingZeros_0f7a4) (avs := [.int x1]) (st := []) dX5_leastFor_44 wm_J6_numberOfTrailingZeros_0f7a4 wl_X5_75 wt_J6_numberOfTrailingZeros_0f7a4 rfl (by decide) rfl (Nat.le_of_ble_eq_true rfl) (Nat.le_of_ble_eq_true rfl) ⟨Or.inl (z_k0 (zk_164 hL)), trivial⟩ trivial (hp_J6_numberOfTrailingZeros_0f7a4 ?_)
        refine zj_istore_n (ls2 := [.ref 164, .int x1, .int x2, .int (z_tz x1), .null, .null, .null, .null, .null, .null]) dX5_leastFor_47 rfl (by decide) rfl rfl ?_
        refine zj_iload_n dX5_leastFor_48 rfl rfl ?_
        refine zj_iload_n dX5_leastFor_49 rfl rfl ?_
        refine zj_iconst (x := 1) dX5_leastFor_50 rfl ?_
        refine zj_isub dX5_leastFor_51 ?_
        refine zj_iand dX5_leastFor_52 ?_
        refine zj_istore (ls2 := [.ref 164, .int x1, .int x2, .int (z_tz x1), .int (x1 &&& (x1 - 1)), .null, .null, .null, .null, .null]) dX5_leastFor_53 (by decide) rfl rfl ?_
        refine zj_aload_n dX5_leastFor_55 rfl rfl ?_
        refine zj_iload_n dX5_leastFor_56 rfl rfl ?_
        refine zj_callV (M' := mX5_toBorder) (avs := [.int (z_tz x1)]) (st := []) (ci := 5) dX5_leastFor_57 wm_X5_toBorder wl_X5_81 wi_X5_toBorder ws_X5_toBorder (by decide) (zk_164 hL) rfl rfl (by decide) rfl (Nat.le_of_ble_eq_true rfl) (Nat.le_of_ble_eq_true rfl) ⟨Or.inl (z_k0 (zk_164 hL)), trivial⟩ trivial (z_J.mono h (fun r S1 v3 hq => ?_))
        obtain ⟨y1, rfl, rfl, h⟩ := hq
        refine zj_aload_n dX5_leastFor_60 rfl rfl ?_
        refine zj_iload dX5_leastFor_61 rfl ?_
        refine zj_iload_n dX5_leastFor_63 rfl rfl ?_
        refine zj_iconst (x := 1) dX5_leastFor_64 rfl ?_
        refine zj_iadd dX5_leastFor_65 ?_
        refine zj_callV (M' := mX5_leastFor) (avs := [.int (x1 &&& (x1 - 1)), .int (x2 + 1)]) (st := [.int y1]) (ci := 5) dX5_leastFor_66 wm_X5_leastFor wl_X5_63 wi_X5_leastFor ws_X5_leastFor (by decide) (zk_164 hL) rfl rfl (by decide) rfl (Nat.le_of_ble_eq_true rfl) (Nat.le_of_ble_eq_true rfl) ⟨Or.inl (z_k0 (zk_164 hL)), trivial⟩ trivial (z_J.mono h (fun r S1 v4 hq => ?_))
        obtain ⟨y2, rfl, rfl, h⟩ := hq
        refine zj_iadd dX5_leastFor_69 ?_
        refine zj_istore (ls2 := [.ref 164, .int x1, .int x2, .int (z_tz x1), .int (x1 &&& (x1 - 1)), .int (y1 + y2), .null, .null, .null, .null]) dX5_leastFor_70 (by decide) rfl rfl ?_
        refine zj_aload_n dX5_leastFor_72 rfl rfl ?_
        refine zj_getR (ci := 5) (j := 8) dX5_leastFor_73 wf_X5_29 (by decide) (by decide) (zk_164 hL) rfl raO ?_
        refine zj_iload dX5_leastFor_76 rfl ?_
        refine zj_iaload dX5_leastFor_78 kaO h.1 ?_
        replace h := h.2
        refine zj_istore (ls2 := [.ref 164, .int x1, .int x2, .int (z_tz x1), .int (x1 &&& (x1 - 1)), .int (y1 + y2), .int (v4 aO (x1 &&& (x1 - 1)).toNatClampNeg), .null, .null, .null]) dX5_leastFor_79 (by decide) rfl rfl ?_
        refine zj_iload_n dX5_leastFor_81 rfl rfl ?_
        refine zj_iconst (x := 1) dX5_leastFor_82 rfl ?_
        refine zj_iadd dX5_leastFor_83 ?_
        refine zj_istore (ls2 := [.ref 164, .int x1, .int x2, .int (z_tz x1), .int (x1 &&& (x1 - 1)), .int (y1 + y2), .int (v4 aO (x1 &&& (x1 - 1)).toNatClampNeg), .int ((z_tz x1) + 1), .null, .null]) dX5_leastFor_84 (by decide) rfl rfl ?_
        exact h
      · replace h := h.2 c
        refine zj_aload_n dX5_leastFor_36 rfl rfl ?_
        refine zj_getR (ci := 5) (j := 7) dX5_leastFor_37 wf_X5_26 (by decide) (by decide) (zk_164 hL) rfl raL ?_
        refine zj_iload_n dX5_leastFor_40 rfl rfl ?_
        refine zj_iaload dX5_leastFor_41 kaL h.1 ?_
        replace h := h.2
        exact zj_iret dX5_leastFor_42 rfl rfl h
    · replace h := h.2 c
      refine zj_aload_n dX5_leastFor_10 rfl rfl ?_
      refine zj_getR (ci := 5) (j := 7) dX5_leastFor_11 wf_X5_26 (by decide) (by decide) (zk_164 hL) rfl raL ?_
      refine zj_iconst (x := 0) dX5_leastFor_14 rfl ?_
      refine zj_iconst (x := 0) dX5_leastFor_15 rfl ?_
      refine zj_iastore dX5_leastFor_16 kaL h.1 (fun v5 ev5 => ?_)
      replace h := h.2 v5 ev5
      refine zj_aload_n dX5_leastFor_17 rfl rfl ?_
      refine zj_getR (ci := 5) (j := 8) dX5_leastFor_18 wf_X5_29 (by decide) (by decide) (zk_164 hL) rfl raO ?_
      refine zj_iconst (x := 0) dX5_leastFor_21 rfl ?_
      refine zj_iconst (x := 1) dX5_leastFor_22 rfl ?_
      refine zj_iastore dX5_leastFor_23 kaO h.1 (fun v6 ev6 => ?_)
      replace h := h.2 v6 ev6
      refine zj_iconst (x := 0) dX5_leastFor_24 rfl ?_
      exact zj_iret dX5_leastFor_25 rfl rfl h
theorem sg_X5_leastFor_86 {G : z_G} {d : Nat} {S : z_Shp} {v : z_Dat} {Q : Option Value → z_Shp → z_Dat → Prop} {x1 : Int32} {x2 : Int32} {x3 : Int32} {x4 : Int32} {x5 : Int32} {x6 : Int32} {x7 : Int32} {aL : Nat} {aO : Nat} (hL : z_L S) (raL : z_r S 164 7 = some aL) (kaL : z_k S aL = 21) (raO : z_r S 164 8 = some aO) (kaO : z_k S aO = 21)
    (h : ((v 164 0) ≤ x7 → (vp_in x1 (z_l S aL) ∧ (∀ v1, v1 = z_u v aL x1.toNatClampNeg x5 → (vp_in x1 (z_l S aO) ∧ (∀ v2, v2 = z_u v1 aO x1.toNatClampNeg x6 → (Q (some (.int x5)) S v2)))))) ∧ (¬ (v 164 0) ≤ x7 → ((¬ ((x4 >>> (x7 &&& 31)) &&& 1) = 1 → (z_J G (d + 1) mX5_leastFor (86, [.ref 164, .int x1, .int x2, .int x3, .int x4, .int x5, .int x6, .int (x7 + 1), .null, .null], [], S, v) Q)) ∧ (((x4 >>> (x7 &&& 31)) &&& 1) = 1 → (z_J G d mX5_between (0, [.ref 164, .int x3, .int x7], [], S, v) (fun r S1 v3 => ∃ y1 : Int32, r = some (.int y1) ∧ S1 = S ∧ (z_J G d mX5_leastFor (0, [.ref 164, .int (x4 ^^^ ((1 : Int32) <<< (x7 &&& 31))), .int (x2 + 1), .null, .null, .null, .null, .null, .null, .null], [], S, v3) (fun r S1 v4 => ∃ y2 : Int32, r = some (.int y2) ∧ S1 = S ∧ ((x5 ≤ (y1 + y2) → ((¬ (y1 + y2) = x5 → (z_J G (d + 1) mX5_leastFor (86, [.ref 164, .int x1, .int x2, .int x3, .int x4, .int x5, .int (x6 + 0), .int (x7 + 1), .null, .null], [], S, v4) Q)) ∧ ((y1 + y2) = x5 → ((vp_in (x4 ^^^ ((1 : Int32) <<< (x7 &&& 31))) (z_l S aO)) ∧ (z_J G (d + 1) mX5_leastFor (86, [.ref 164, .int x1, .int x2, .int x3, .int x4, .int x5, .int (x6 + (v4 aO (x4 ^^^ ((1 : Int32) <<< (x7 &&& 31))).toNatClampNeg)), .int (x7 + 1), .null, .null], [], S, v4) Q))))) ∧ (¬ x5 ≤ (y1 + y2) → ((¬ (y1 + y2) = (y1 + y2) → (z_J G (d + 1) mX5_leastFor (86, [.ref 164, .int x1, .int x2, .int x3, .int x4, .int (y1 + y2), .int ((0 : Int32) + 0), .int (x7 + 1), .null, .null], [], S, v4) Q)) ∧ ((y1 + y2) = (y1 + y2) → ((vp_in (x4 ^^^ ((1 : Int32) <<< (x7 &&& 31))) (z_l S aO)) ∧ (z_J G (d + 1) mX5_leastFor (86, [.ref 164, .int x1, .int x2, .int x3, .int x4, .int (y1 + y2), .int ((0 : Int32) + (v4 aO (x4 ^^^ ((1 : Int32) <<< (x7 &&& 31))).toNatClampNeg)), .int (x7 + 1), .null, .null], [], S, v4) Q)))))))))))))) :
    z_J G (d + 1) mX5_leastFor (86, [.ref 164, .int x1, .int x2, .int x3, .int x4, .int x5, .int x6, .int x7, .null, .null], [], S, v) Q := by
  refine zj_iload dX5_leastFor_86 rfl ?_
  refine zj_aload_n dX5_leastFor_88 rfl rfl ?_
  refine zj_getI (ci := 5) (j := 0) dX5_leastFor_89 wf_X5_44 (by decide) (by decide) (zk_164 hL) rfl ?_
  refine zj_icmp_ge (tgt := 177) dX5_leastFor_92 (by decide) (fun c => ?_) (fun c => ?_)
  · replace h := h.1 c
    refine zj_aload_n dX5_leastFor_177 rfl rfl ?_
    refine zj_getR (ci := 5) (j := 7) dX5_leastFor_178 wf_X5_26 (by decide) (by decide) (zk_164 hL) rfl raL ?_
    refine zj_iload_n dX5_leastFor_181 rfl rfl ?_
    refine zj_iload dX5_leastFor_182 rfl ?_
    refine zj_iastore dX5_leastFor_184 kaL h.1 (fun v1 ev1 => ?_)
    replace h := h.2 v1 ev1
    refine zj_aload_n dX5_leastFor_185 rfl rfl ?_
    refine zj_getR (ci := 5) (j := 8) dX5_leastFor_186 wf_X5_29 (by decide) (by decide) (zk_164 hL) rfl raO ?_
    refine zj_iload_n dX5_leastFor_189 rfl rfl ?_
    refine zj_iload dX5_leastFor_190 rfl ?_
    refine zj_iastore dX5_leastFor_192 kaO h.1 (fun v2 ev2 => ?_)
    replace h := h.2 v2 ev2
    refine zj_iload dX5_leastFor_193 rfl ?_
    exact zj_iret dX5_leastFor_195 rfl rfl h
  · replace h := h.2 c
    refine zj_iload dX5_leastFor_95 rfl ?_
    refine zj_iload dX5_leastFor_97 rfl ?_
    refine zj_ishr dX5_leastFor_99 ?_
    refine zj_iconst (x := 1) dX5_leastFor_100 rfl ?_
    refine zj_iand dX5_leastFor_101 ?_
    refine zj_iconst (x := 1) dX5_leastFor_102 rfl ?_
    refine zj_icmp_ne (tgt := 171) dX5_leastFor_103 (by decide) (fun c => ?_) (fun c => ?_)
    · replace h := h.1 c
      refine zj_iinc (y := x7 + 1) (ls2 := [.ref 164, .int x1, .int x2, .int x3, .int x4, .int x5, .int x6, .int (x7 + 1), .null, .null]) dX5_leastFor_171 rfl rfl (by decide) rfl rfl ?_
      refine zj_goto (tgt := 86) dX5_leastFor_174 (by decide) ?_
      exact h
    · replace h := h.2 c
      refine zj_iload dX5_leastFor_106 rfl ?_
      refine zj_iconst (x := 1) dX5_leastFor_108 rfl ?_
      refine zj_iload dX5_leastFor_109 rfl ?_
      refine zj_ishl dX5_leastFor_111 ?_
      refine zj_ixor dX5_leastFor_112 ?_
      refine zj_istore (ls2 := [.ref 164, .int x1, .int x2, .int x3, .int x4, .int x5, .int x6, .int x7, .int (x4 ^^^ ((1 : Int32) <<< (x7 &&& 31))), .null]) dX5_leastFor_113 (by decide) rfl rfl ?_
      refine zj_aload_n dX5_leastFor_115 rfl rfl ?_
      refine zj_iload_n dX5_leastFor_116 rfl rfl ?_
      refine zj_iload dX5_leastFor_117 rfl ?_
      refine zj_callV (M' := mX5_between) (avs := [.int x3, .int x7]) (st := []) (ci := 5) dX5_leastFor_119 wm_X5_between wl_X5_84 wi_X5_between ws_X5_between (by decide) (zk_164 hL) rfl rfl (by decide) rfl (Nat.le_of_ble_eq_true rfl) (Nat.le_of_ble_eq_true rfl) ⟨Or.inl (z_k0 (zk_164 hL)), trivial⟩ trivial (z_J.mono h (fun r S1 v3 hq => ?_))
      obtain ⟨y1, rfl, rfl, h⟩ := hq
      refine zj_aload_n dX5_leastFor_122 rfl rfl ?_
      refine zj_iload dX5_leastFor_123 rfl ?_
      refine zj_iload_n dX5_leastFor_125 rfl rfl ?_
      refine zj_iconst (x := 1) dX5_leastFor_126 rfl ?_
      refine zj_iadd dX5_leastFor_127 ?_
      refine zj_callV (M' := mX5_leastFor) (avs := [.int (x4 ^^^ ((1 : Int32) <<< (x7 &&& 31))), .int (x2 + 1)]) (st := [.int y1]) (ci := 5) dX5_leastFor_128 wm_X5_leastFor wl_X5_63 wi_X5_leastFor ws_X5_leastFor (by decide) (zk_164 hL) rfl rfl (by decide) rfl (Nat.le_of_ble_eq_true rfl) (Nat.le_of_ble_eq_true rfl) ⟨Or.inl (z_k0 (zk_164 hL)), trivial⟩ trivial (z_J.mono h (fun r S1 v4 hq => ?_))
      obtain ⟨y2, rfl, rfl, h⟩ := hq
      refine zj_iadd dX5_leastFor_131 ?_
      refine zj_istore (ls2 := [.ref 164, .int x1, .int x2, .int x3, .int x4, .int x5, .int x6, .int x7, .int (x4 ^^^ ((1 : Int32) <<< (x7 &&& 31))), .int (y1 + y2)]) dX5_leastFor_132 (by decide) rfl rfl ?_
      refine zj_iload dX5_leastFor_134 rfl ?_
      refine zj_iload dX5_leastFor_136 rfl ?_
      refine zj_icmp_ge (tgt := 148) dX5_leastFor_138 (by decide) (fun c => ?_) (fun c => ?_)
      · replace h := h.1 c
        refine zj_iload dX5_leastFor_148 rfl ?_
        refine zj_iload dX5_leastFor_150 rfl ?_
        refine zj_iload dX5_leastFor_152 rfl ?_
        refine zj_icmp_ne (tgt := 167) dX5_leastFor_154 (by decide) (fun c => ?_) (fun c => ?_)
        · replace h := h.1 c
          refine zj_iconst (x := 0) dX5_leastFor_167 rfl ?_
          refine zj_iadd dX5_leastFor_168 ?_
          refine zj_istore (ls2 := [.ref 164, .int x1, .int x2, .int x3, .int x4, .int x5, .int (x6 + 0), .int x7, .int (x4 ^^^ ((1 : Int32) <<< (x7 &&& 31))), .int (y1 + y2)]) dX5_leastFor_169 (by decide) rfl rfl ?_
          refine zj_iinc (y := x7 + 1) (ls2 := [.ref 164, .int x1, .int x2, .int x3, .int x4, .int x5, .int (x6 + 0), .int (x7 + 1), .int (x4 ^^^ ((1 : Int32) <<< (x7 &&& 31))), .int (y1 + y2)]) dX5_leastFor_171 rfl rfl (by decide) rfl rfl ?_
          refine zj_goto (tgt := 86) dX5_leastFor_174 (by decide) ?_
          refine zj_forget (ls2 := [.ref 164, .int x1, .int x2, .int x3, .int x4, .int x5, .int (x6 + 0), .int (x7 + 1), .null, .null]) ⟨Or.inr rfl, Or.inr rfl, Or.inr rfl, Or.inr rfl, Or.inr rfl, Or.inr rfl, Or.inr rfl, Or.inr rfl, Or.inl rfl, Or.inl rfl, trivial⟩ ?_
          exact h
        · replace h := h.2 c
          refine zj_aload_n dX5_leastFor_157 rfl rfl ?_
          refine zj_getR (ci := 5) (j := 8) dX5_leastFor_158 wf_X5_29 (by decide) (by decide) (zk_164 hL) rfl raO ?_
          refine zj_iload dX5_leastFor_161 rfl ?_
          refine zj_iaload dX5_leastFor_163 kaO h.1 ?_
          replace h := h.2
          refine zj_goto (tgt := 168) dX5_leastFor_164 (by decide) ?_
          refine zj_iadd dX5_leastFor_168 ?_
          refine zj_istore (ls2 := [.ref 164, .int x1, .int x2, .int x3, .int x4, .int x5, .int (x6 + (v4 aO (x4 ^^^ ((1 : Int32) <<< (x7 &&& 31))).toNatClampNeg)), .int x7, .int (x4 ^^^ ((1 : Int32) <<< (x7 &&& 31))), .int (y1 + y2)]) dX5_leastFor_169 (by decide) rfl rfl ?_
          refine zj_iinc (y := x7 + 1) (ls2 := [.ref 164, .int x1, .int x2, .int x3, .int x4, .int x5, .int (x6 + (v4 aO (x4 ^^^ ((1 : Int32) <<< (x7 &&& 31))).toNatClampNeg)), .int (x7 + 1), .int (x4 ^^^ ((1 : Int32) <<< (x7 &&& 31))), .int (y1 + y2)]) dX5_leastFor_171 rfl rfl (by decide) rfl rfl ?_
          refine zj_goto (tgt := 86) dX5_leastFor_174 (by decide) ?_
          refine zj_forget (ls2 := [.ref 164, .int x1, .int x2, .int x3, .int x4, .int x5, .int (x6 + (v4 aO (x4 ^^^ ((1 : Int32) <<< (x7 &&& 31))).toNatClampNeg)), .int (x7 + 1), .null, .null]) ⟨Or.inr rfl, Or.inr rfl, Or.inr rfl, Or.inr rfl, Or.inr rfl, Or.inr rfl, Or.inr rfl, Or.inr rfl, Or.inl rfl, Or.inl rfl, trivial⟩ ?_
          exact h
      · replace h := h.2 c
        refine zj_iload dX5_leastFor_141 rfl ?_
        refine zj_istore (ls2 := [.ref 164, .int x1, .int x2, .int x3, .int x4, .int (y1 + y2), .int x6, .int x7, .int (x4 ^^^ ((1 : Int32) <<< (x7 &&& 31))), .int (y1 + y2)]) dX5_leastFor_143 (by decide) rfl rfl ?_
        refine zj_iconst (x := 0) dX5_leastFor_145 rfl ?_
        refine zj_istore (ls2 := [.ref 164, .int x1, .int x2, .int x3, .int x4, .int (y1 + y2), .int 0, .int x7, .int (x4 ^^^ ((1 : Int32) <<< (x7 &&& 31))), .int (y1 + y2)]) dX5_leastFor_146 (by decide) rfl rfl ?_
        refine zj_iload dX5_leastFor_148 rfl ?_
        refine zj_iload dX5_leastFor_150 rfl ?_
        refine zj_iload dX5_leastFor_152 rfl ?_
        refine zj_icmp_ne (tgt := 167) dX5_leastFor_154 (by decide) (fun c => ?_) (fun c => ?_)
        · replace h := h.1 c
          refine zj_iconst (x := 0) dX5_leastFor_167 rfl ?_
          refine zj_iadd dX5_leastFor_168 ?_
          refine zj_istore (ls2 := [.ref 164, .int x1, .int x2, .int x3, .int x4, .int (y1 + y2), .int ((0 : Int32) + 0), .int x7, .int (x4 ^^^ ((1 : Int32) <<< (x7 &&& 31))), .int (y1 + y2)]) dX5_leastFor_169 (by decide) rfl rfl ?_
          refine zj_iinc (y := x7 + 1) (ls2 := [.ref 164, .int x1, .int x2, .int x3, .int x4, .int (y1 + y2), .int ((0 : Int32) + 0), .int (x7 + 1), .int (x4 ^^^ ((1 : Int32) <<< (x7 &&& 31))), .int (y1 + y2)]) dX5_leastFor_171 rfl rfl (by decide) rfl rfl ?_
          refine zj_goto (tgt := 86) dX5_leastFor_174 (by decide) ?_
          refine zj_forget (ls2 := [.ref 164, .int x1, .int x2, .int x3, .int x4, .int (y1 + y2), .int ((0 : Int32) + 0), .int (x7 + 1), .null, .null]) ⟨Or.inr rfl, Or.inr rfl, Or.inr rfl, Or.inr rfl, Or.inr rfl, Or.inr rfl, Or.inr rfl, Or.inr rfl, Or.inl rfl, Or.inl rfl, trivial⟩ ?_
          exact h
        · replace h := h.2 c
          refine zj_aload_n dX5_leastFor_157 rfl rfl ?_
          refine zj_getR (ci := 5) (j := 8) dX5_leastFor_158 wf_X5_29 (by decide) (by decide) (zk_164 hL) rfl raO ?_
          refine zj_iload dX5_leastFor_161 rfl ?_
          refine zj_iaload dX5_leastFor_163 kaO h.1 ?_
          replace h := h.2
          refine zj_goto (tgt := 168) dX5_leastFor_164 (by decide) ?_
          refine zj_iadd dX5_leastFor_168 ?_
          refine zj_istore (ls2 := [.ref 164, .int x1, .int x2, .int x3, .int x4, .int (y1 + y2), .int ((0 : Int32) + (v4 aO (x4 ^^^ ((1 : Int32) <<< (x7 &&& 31))).toNatClampNeg)), .int x7, .int (x4 ^^^ ((1 : Int32) <<< (x7 &&& 31))), .int (y1 + y2)]) dX5_leastFor_169 (by decide) rfl rfl ?_
          refine zj_iinc (y := x7 + 1) (ls2 := [.ref 164, .int x1, .int x2, .int x3, .int x4, .int (y1 + y2), .int ((0 : Int32) + (v4 aO (x4 ^^^ ((1 : Int32) <<< (x7 &&& 31))).toNatClampNeg)), .int (x7 + 1), .int (x4 ^^^ ((1 : Int32) <<< (x7 &&& 31))), .int (y1 + y2)]) dX5_leastFor_171 rfl rfl (by decide) rfl rfl ?_
          refine zj_goto (tgt := 86) dX5_leastFor_174 (by decide) ?_
          refine zj_forget (ls2 := [.ref 164, .int x1, .int x2, .int x3, .int x4, .int (y1 + y2), .int ((0 : Int32) + (v4 aO (x4 ^^^ ((1 : Int32) <<< (x7 &&& 31))).toNatClampNeg)), .int (x7 + 1), .null, .null]) ⟨Or.inr rfl, Or.inr rfl, Or.inr rfl, Or.inr rfl, Or.inr rfl, Or.inr rfl, Or.inr rfl, Or.inr rfl, Or.inl rfl, Or.inl rfl, trivial⟩ ?_
          exact h
theorem sg_X5_solve_0 {G : z_G} {d : Nat} {S : z_Shp} {v : z_Dat} {Q : Option Value → z_Shp → z_Dat → Prop} (hL : z_L S)
    (h : ∀ v1, v1 = z_u v 164 0 (if (v 149 3) < 14 then (v 149 3) else 14) → (z_J G (d + 1) mX5_solve (15, [.ref 164, .ref 149, .ref 158, .int 0], [], S, v1) Q)) :
    z_J G (d + 1) mX5_solve (0, [.ref 164, .ref 149, .ref 158, .null], [], S, v) Q := by
  refine zj_aload_n dX5_solve_0 rfl rfl ?_
  refine zj_bipush (x := 14) dX5_solve_1 rfl ?_
  refine zj_aload_n dX5_solve_3 rfl rfl ?_
  refine zj_getI (ci := 4) (j := 3) dX5_solve_4 wf_X5_32 (by decide) (by decide) (zk_149 hL) rfl ?_
  refine zj_mmin dX5_solve_7 wl_X5_38 (Nat.le_of_ble_eq_true rfl) ?_
  refine zj_putI (ci := 5) (j := 0) dX5_solve_10 wf_X5_44 (by decide) (by decide) (zk_164 hL) rfl rfl rfl rfl (fun v1 ev1 => ?_)
  replace h := h v1 ev1
  refine zj_iconst (x := 0) dX5_solve_13 rfl ?_
  refine zj_istore_n (ls2 := [.ref 164, .ref 149, .ref 158, .int 0]) dX5_solve_14 rfl (by decide) rfl rfl ?_
  exact h
theorem sg_X5_solve_15 {G : z_G} {d : Nat} {S : z_Shp} {v : z_Dat} {Q : Option Value → z_Shp → z_Dat → Prop} {x3 : Int32} (hL : z_L S)
    (h : ((v 164 0) ≤ x3 → (z_J G d mX8_measure (0, [.ref 158, .ref 149, .int (v 149 1), .ref 183, .null, .null, .null, .null], [], S, v) (fun r S1 v1 => r = none ∧ S1 = S ∧ (z_J G d mX5_forgetSets (0, [.ref 164, .int (((1 : Int32) <<< ((v1 164 0) &&& 31)) - 1), .null], [], S, v1) (fun r S1 v2 => r = none ∧ z_J G (d + 1) mX5_solve (88, [.ref 164, .ref 149, .ref 158, .int (((1 : Int32) <<< ((v1 164 0) &&& 31)) - 1)], [], S1, v2) Q))))) ∧ (¬ (v 164 0) ≤ x3 → ((vp_in x3 108) ∧ (vp_in x3 14 ∧ (∀ v3, v3 = z_u v 167 x3.toNatClampNeg (v 157 x3.toNatClampNeg) → ((vp_in x3 14) ∧ ((vp_in x3 15) ∧ (z_J G d mX8_measure (0, [.ref 158, .ref 149, .int (v3 167 x3.toNatClampNeg), .ref (169 + x3.toNatClampNeg), .null, .null, .null, .null], [], S, v3) (fun r S1 v4 => r = none ∧ S1 = S ∧ (z_J G (d + 1) mX5_solve (15, [.ref 164, .ref 149, .ref 158, .int (x3 + 1)], [], S, v4) Q)))))))))) :
    z_J G (d + 1) mX5_solve (15, [.ref 164, .ref 149, .ref 158, .int x3], [], S, v) Q := by
  refine zj_iload_n dX5_solve_15 rfl rfl ?_
  refine zj_aload_n dX5_solve_16 rfl rfl ?_
  refine zj_getI (ci := 5) (j := 0) dX5_solve_17 wf_X5_44 (by decide) (by decide) (zk_164 hL) rfl ?_
  refine zj_icmp_ge (tgt := 58) dX5_solve_20 (by decide) (fun c => ?_) (fun c => ?_)
  · replace h := h.1 c
    refine zj_aload_n dX5_solve_58 rfl rfl ?_
    refine zj_aload_n dX5_solve_59 rfl rfl ?_
    refine zj_aload_n dX5_solve_60 rfl rfl ?_
    refine zj_getI (ci := 4) (j := 1) dX5_solve_61 wf_X5_56 (by decide) (by decide) (zk_149 hL) rfl ?_
    refine zj_aload_n dX5_solve_64 rfl rfl ?_
    refine zj_getR (ci := 5) (j := 6) dX5_solve_65 wf_X5_23 (by decide) (by decide) (zk_164 hL) rfl (zr_164_6 hL) ?_
    refine zj_bipush (x := 14) dX5_solve_68 rfl ?_
    refine zj_aaload0 dX5_solve_70 (zk_168 hL) (by rw [(zl_168 hL)]; exact z_vin (by decide)) (zr_168_14 hL) ?_
    refine zj_callV (M' := mX8_measure) (avs := [.ref 149, .int (v 149 1), .ref 183]) (st := []) (ci := 8) dX5_solve_71 wm_X8_measure wl_X5_50 wi_X8_measure ws_X8_measure (by decide) (zk_158 hL) rfl rfl (by decide) rfl (Nat.le_of_ble_eq_true rfl) (Nat.le_of_ble_eq_true rfl) ⟨Or.inl (z_k0 (zk_164 hL)), Or.inl (z_k0 (zk_149 hL)), Or.inl (z_k0 (zk_158 hL)), trivial⟩ trivial (z_J.mono h (fun r S1 v1 hq => ?_))
    obtain ⟨rfl, rfl, h⟩ := hq
    refine zj_iconst (x := 1) dX5_solve_74 rfl ?_
    refine zj_aload_n dX5_solve_75 rfl rfl ?_
    refine zj_getI (ci := 5) (j := 0) dX5_solve_76 wf_X5_44 (by decide) (by decide) (zk_164 hL) rfl ?_
    refine zj_ishl dX5_solve_79 ?_
    refine zj_iconst (x := 1) dX5_solve_80 rfl ?_
    refine zj_isub dX5_solve_81 ?_
    refine zj_istore_n (ls2 := [.ref 164, .ref 149, .ref 158, .int (((1 : Int32) <<< ((v1 164 0) &&& 31)) - 1)]) dX5_solve_82 rfl (by decide) rfl rfl ?_
    refine zj_aload_n dX5_solve_83 rfl rfl ?_
    refine zj_iload_n dX5_solve_84 rfl rfl ?_
    refine zj_callV (M' := mX5_forgetSets) (avs := [.int (((1 : Int32) <<< ((v1 164 0) &&& 31)) - 1)]) (st := []) (ci := 5) dX5_solve_85 wm_X5_forgetSets wl_X5_59 wi_X5_forgetSets ws_X5_forgetSets (by decide) (zk_164 hL) rfl rfl (by decide) rfl (Nat.le_of_ble_eq_true rfl) (Nat.le_of_ble_eq_true rfl) ⟨Or.inl (z_k0 (zk_164 hL)), Or.inl (z_k0 (zk_149 hL)), Or.inl (z_k0 (zk_158 hL)), trivial⟩ trivial (z_J.mono h (fun r S1 v2 hq => ?_))
    obtain ⟨rfl, h⟩ := hq
    exact h
  · replace h := h.2 c
    refine zj_aload_n dX5_solve_23 rfl rfl ?_
    refine zj_getR (ci := 5) (j := 5) dX5_solve_24 wf_X5_18 (by decide) (by decide) (zk_164 hL) rfl (zr_164_5 hL) ?_
    refine zj_iload_n dX5_solve_27 rfl rfl ?_
    refine zj_aload_n dX5_solve_28 rfl rfl ?_
    refine zj_getR (ci := 4) (j := 11) dX5_solve_29 wf_X5_47 (by decide) (by decide) (zk_149 hL) rfl (zr_149_11 hL) ?_
    refine zj_iload_n dX5_solve_32 rfl rfl ?_
    refine zj_iaload dX5_solve_33 (zk_157 hL) (by rw [(zl_157 hL)]; exact h.1) ?_
    replace h := h.2
    refine zj_iastore dX5_solve_34 (zk_167 hL) (by rw [(zl_167 hL)]; exact h.1) (fun v3 ev3 => ?_)
    replace h := h.2 v3 ev3
    refine zj_aload_n dX5_solve_35 rfl rfl ?_
    refine zj_aload_n dX5_solve_36 rfl rfl ?_
    refine zj_aload_n dX5_solve_37 rfl rfl ?_
    refine zj_getR (ci := 5) (j := 5) dX5_solve_38 wf_X5_18 (by decide) (by decide) (zk_164 hL) rfl (zr_164_5 hL) ?_
    refine zj_iload_n dX5_solve_41 rfl rfl ?_
    refine zj_iaload dX5_solve_42 (zk_167 hL) (by rw [(zl_167 hL)]; exact h.1) ?_
    replace h := h.2
    refine zj_aload_n dX5_solve_43 rfl rfl ?_
    refine zj_getR (ci := 5) (j := 6) dX5_solve_44 wf_X5_23 (by decide) (by decide) (zk_164 hL) rfl (zr_164_6 hL) ?_
    refine zj_iload_n dX5_solve_47 rfl rfl ?_
    obtain ⟨hi1, h⟩ := h
    refine zj_aaload0 dX5_solve_48 (zk_168 hL) (by rw [(zl_168 hL)]; exact hi1) (zRor hL hi1) ?_
    refine zj_callV (M' := mX8_measure) (avs := [.ref 149, .int (v3 167 x3.toNatClampNeg), .ref (169 + x3.toNatClampNeg)]) (st := []) (ci := 8) dX5_solve_49 wm_X8_measure wl_X5_50 wi_X8_measure ws_X8_measure (by decide) (zk_158 hL) rfl rfl (by decide) rfl (Nat.le_of_ble_eq_true rfl) (Nat.le_of_ble_eq_true rfl) ⟨Or.inl (z_k0 (zk_164 hL)), Or.inl (z_k0 (zk_149 hL)), Or.inl (z_k0 (zk_158 hL)), trivial⟩ trivial (z_J.mono h (fun r S1 v4 hq => ?_))
    obtain ⟨rfl, rfl, h⟩ := hq
    refine zj_iinc (y := x3 + 1) (ls2 := [.ref 164, .ref 149, .ref 158, .int (x3 + 1)]) dX5_solve_52 rfl rfl (by decide) rfl rfl ?_
    refine zj_goto (tgt := 15) dX5_solve_55 (by decide) ?_
    exact h
theorem sg_X5_solve_88 {G : z_G} {d : Nat} {S : z_Shp} {v : z_Dat} {Q : Option Value → z_Shp → z_Dat → Prop} {x3 : Int32} {aO : Nat} (hL : z_L S) (raO : z_r S 164 8 = some aO) (kaO : z_k S aO = 21)
    (h : z_J G d mX5_leastFor (0, [.ref 164, .int x3, .int 0, .null, .null, .null, .null, .null, .null, .null], [], S, v) (fun r S1 v1 => ∃ y1 : Int32, r = some (.int y1) ∧ S1 = S ∧ (∀ v2, v2 = z_u v1 164 1 y1 → ((vp_in x3 (z_l S aO)) ∧ (∀ v3, v3 = z_u v2 164 2 (v2 aO x3.toNatClampNeg) → (z_J G d mX5_choosePartners (0, [.ref 164, .int x3, .null, .null, .null], [], S, v3) (fun r S1 v4 => r = none ∧ S1 = S ∧ (Q none S v4)))))))) :
    z_J G (d + 1) mX5_solve (88, [.ref 164, .ref 149, .ref 158, .int x3], [], S, v) Q := by
  refine zj_aload_n dX5_solve_88 rfl rfl ?_
  refine zj_aload_n dX5_solve_89 rfl rfl ?_
  refine zj_iload_n dX5_solve_90 rfl rfl ?_
  refine zj_iconst (x := 0) dX5_solve_91 rfl ?_
  refine zj_callV (M' := mX5_leastFor) (avs := [.int x3, .int 0]) (st := [.ref 164]) (ci := 5) dX5_solve_92 wm_X5_leastFor wl_X5_63 wi_X5_leastFor ws_X5_leastFor (by decide) (zk_164 hL) rfl rfl (by decide) rfl (Nat.le_of_ble_eq_true rfl) (Nat.le_of_ble_eq_true rfl) ⟨Or.inl (z_k0 (zk_164 hL)), Or.inl (z_k0 (zk_149 hL)), Or.inl (z_k0 (zk_158 hL)), trivial⟩ ⟨Or.inl (z_k0 (zk_164 hL)), trivial⟩ (z_J.mono h (fun r S1 v1 hq => ?_))
  obtain ⟨y1, rfl, rfl, h⟩ := hq
  refine zj_putI (ci := 5) (j := 1) dX5_solve_95 wf_X5_66 (by decide) (by decide) (zk_164 hL) rfl rfl rfl rfl (fun v2 ev2 => ?_)
  replace h := h v2 ev2
  refine zj_aload_n dX5_solve_98 rfl rfl ?_
  refine zj_aload_n dX5_solve_99 rfl rfl ?_
  refine zj_getR (ci := 5) (j := 8) dX5_solve_100 wf_X5_29 (by decide) (by decide) (zk_164 hL) rfl raO ?_
  refine zj_iload_n dX5_solve_103 rfl rfl ?_
  refine zj_iaload dX5_solve_104 kaO h.1 ?_
  replace h := h.2
  refine zj_putI (ci := 5) (j := 2) dX5_solve_105 wf_X5_69 (by decide) (by decide) (zk_164 hL) rfl rfl rfl rfl (fun v3 ev3 => ?_)
  replace h := h v3 ev3
  refine zj_aload_n dX5_solve_108 rfl rfl ?_
  refine zj_iload_n dX5_solve_109 rfl rfl ?_
  refine zj_callV (M' := mX5_choosePartners) (avs := [.int x3]) (st := []) (ci := 5) dX5_solve_110 wm_X5_choosePartners wl_X5_72 wi_X5_choosePartners ws_X5_choosePartners (by decide) (zk_164 hL) rfl rfl (by decide) rfl (Nat.le_of_ble_eq_true rfl) (Nat.le_of_ble_eq_true rfl) ⟨Or.inl (z_k0 (zk_164 hL)), Or.inl (z_k0 (zk_149 hL)), Or.inl (z_k0 (zk_158 hL)), trivial⟩ trivial (z_J.mono h (fun r S1 v4 hq => ?_))
  obtain ⟨rfl, rfl, h⟩ := hq
  exact zj_vret dX5_solve_113 rfl h
theorem sg_X5_toBorder_0 {G : z_G} {d : Nat} {S : z_Shp} {v : z_Dat} {Q : Option Value → z_Shp → z_Dat → Prop} {x1 : Int32} (hL : z_L S)
    (h : (vp_in x1 14) ∧ ((vp_in (v 167 x1.toNatClampNeg) 109) ∧ (Q (some (.int (v 183 (v 167 x1.toNatClampNeg).toNatClampNeg))) S v))) :
    z_J G d mX5_toBorder (0, [.ref 164, .int x1], [], S, v) Q := by
  refine zj_aload_n dX5_toBorder_0 rfl rfl ?_
  refine zj_getR (ci := 5) (j := 6) dX5_toBorder_1 wf_X5_23 (by decide) (by decide) (zk_164 hL) rfl (zr_164_6 hL) ?_
  refine zj_bipush (x := 14) dX5_toBorder_4 rfl ?_
  refine zj_aaload0 dX5_toBorder_6 (zk_168 hL) (by rw [(zl_168 hL)]; exact z_vin (by decide)) (zr_168_14 hL) ?_
  refine zj_aload_n dX5_toBorder_7 rfl rfl ?_
  refine zj_getR (ci := 5) (j := 5) dX5_toBorder_8 wf_X5_18 (by decide) (by decide) (zk_164 hL) rfl (zr_164_5 hL) ?_
  refine zj_iload_n dX5_toBorder_11 rfl rfl ?_
  refine zj_iaload dX5_toBorder_12 (zk_167 hL) (by rw [(zl_167 hL)]; exact h.1) ?_
  replace h := h.2
  refine zj_iaload dX5_toBorder_13 (zk_183 hL) (by rw [(zl_183 hL)]; exact h.1) ?_
  replace h := h.2
  exact zj_iret dX5_toBorder_14 rfl rfl h
theorem sg_X5_trace_0 {G : z_G} {d : Nat} {S : z_Shp} {v : z_Dat} {Q : Option Value → z_Shp → z_Dat → Prop} (hL : z_L S)
    (h : z_J G d mJ7_fill_53178 (0, [.ref 166, .int 0, .null, .null], [], S, v) (fun r S1 v1 => r = none ∧ S1 = S ∧ (z_J G (d + 1) mX5_trace (10, [.ref 164, .ref 149, .ref 158, .int 0], [], S, v1) Q))) :
    z_J G (d + 1) mX5_trace (0, [.ref 164, .ref 149, .ref 158, .null], [], S, v) Q := by
  refine zj_aload_n dX5_trace_0 rfl rfl ?_
  refine zj_getR (ci := 5) (j := 4) dX5_trace_1 wf_X5_15 (by decide) (by decide) (zk_164 hL) rfl (zr_164_4 hL) ?_
  refine zj_iconst (x := 0) dX5_trace_4 rfl ?_
  refine zj_callS (M' := mJ7_fill_53178) (avs := [.ref 166, .int 0]) (st := []) dX5_trace_5 wm_J7_fill_53178 wl_X5_90 wt_J7_fill_53178 rfl (by decide) rfl (Nat.le_of_ble_eq_true rfl) (Nat.le_of_ble_eq_true rfl) ⟨Or.inl (z_k0 (zk_164 hL)), Or.inl (z_k0 (zk_149 hL)), Or.inl (z_k0 (zk_158 hL)), trivial⟩ trivial (z_J.mono h (fun r S1 v1 hq => ?_))
  obtain ⟨rfl, rfl, h⟩ := hq
  refine zj_iconst (x := 0) dX5_trace_8 rfl ?_
  refine zj_istore_n (ls2 := [.ref 164, .ref 149, .ref 158, .int 0]) dX5_trace_9 rfl (by decide) rfl rfl ?_
  exact h
theorem sg_X5_trace_10 {G : z_G} {d : Nat} {S : z_Shp} {v : z_Dat} {Q : Option Value → z_Shp → z_Dat → Prop} {x3 : Int32} (hL : z_L S)
    (h : ((v 164 0) ≤ x3 → (Q none S v)) ∧ (¬ (v 164 0) ≤ x3 → ((vp_in x3 14) ∧ ((¬ (v 165 x3.toNatClampNeg) = (-2) → ((vp_in x3 14) ∧ (((v 165 x3.toNatClampNeg) ≤ x3 → (z_J G (d + 1) mX5_trace (10, [.ref 164, .ref 149, .ref 158, .int (x3 + 1)], [], S, v) Q)) ∧ (¬ (v 165 x3.toNatClampNeg) ≤ x3 → ((vp_in x3 14) ∧ ((vp_in x3 14) ∧ ((vp_in (v 165 x3.toNatClampNeg) 14) ∧ ((vp_in x3 14) ∧ ((vp_in (v 165 x3.toNatClampNeg) 15) ∧ (z_J G d mX8_walk (0, [.ref 158, .ref 149, .int (v 167 x3.toNatClampNeg), .int (v 167 (v 165 x3.toNatClampNeg).toNatClampNeg), .ref (169 + (v 165 x3.toNatClampNeg).toNatClampNeg), .null, .null, .null], [], S, v) (fun r S1 v1 => r = none ∧ S1 = S ∧ (z_J G d mX5_flipAlong (0, [.ref 164, .ref 158, .null], [], S, v1) (fun r S1 v2 => r = none ∧ S1 = S ∧ (z_J G (d + 1) mX5_trace (10, [.ref 164, .ref 149, .ref 158, .int (x3 + 1)], [], S, v2) Q)))))))))))))) ∧ ((v 165 x3.toNatClampNeg) = (-2) → ((vp_in x3 14) ∧ (z_J G d mX8_walk (0, [.ref 158, .ref 149, .int (v 167 x3.toNatClampNeg), .int (v 149 1), .ref 183, .null, .null, .null], [], S, v) (fun r S1 v3 => r = none ∧ S1 = S ∧ (z_J G d mX5_flipAlong (0, [.ref 164, .ref 158, .null], [], S, v3) (fun r S1 v4 => r = none ∧ S1 = S ∧ (z_J G (d + 1) mX5_trace (10, [.ref 164, .ref 149, .ref 158, .int (x3 + 1)], [], S, v4) Q))))))))))) :
    z_J G (d + 1) mX5_trace (10, [.ref 164, .ref 149, .ref 158, .int x3], [], S, v) Q := by
  refine zj_iload_n dX5_trace_10 rfl rfl ?_
  refine zj_aload_n dX5_trace_11 rfl rfl ?_
  refine zj_getI (ci := 5) (j := 0) dX5_trace_12 wf_X5_44 (by decide) (by decide) (zk_164 hL) rfl ?_
  refine zj_icmp_ge (tgt := 113) dX5_trace_15 (by decide) (fun c => ?_) (fun c => ?_)
  · replace h := h.1 c
    exact zj_vret dX5_trace_113 rfl h
  · replace h := h.2 c
    refine zj_aload_n dX5_trace_18 rfl rfl ?_
    refine zj_getR (ci := 5) (j := 3) dX5_trace_19 wf_X5_9 (by decide) (by decide) (zk_164 hL) rfl (zr_164_3 hL) ?_
    refine zj_iload_n dX5_trace_22 rfl rfl ?_
    refine zj_iaload dX5_trace_23 (zk_165 hL) (by rw [(zl_165 hL)]; exact h.1) ?_
    replace h := h.2
    refine zj_bipush (x := (-2)) dX5_trace_24 rfl ?_
    refine zj_icmp_ne (tgt := 59) dX5_trace_26 (by decide) (fun c => ?_) (fun c => ?_)
    · replace h := h.1 c
      refine zj_aload_n dX5_trace_59 rfl rfl ?_
      refine zj_getR (ci := 5) (j := 3) dX5_trace_60 wf_X5_9 (by decide) (by decide) (zk_164 hL) rfl (zr_164_3 hL) ?_
      refine zj_iload_n dX5_trace_63 rfl rfl ?_
      refine zj_iaload dX5_trace_64 (zk_165 hL) (by rw [(zl_165 hL)]; exact h.1) ?_
      replace h := h.2
      refine zj_iload_n dX5_trace_65 rfl rfl ?_
      refine zj_icmp_le (tgt := 107) dX5_trace_66 (by decide) (fun c => ?_) (fun c => ?_)
      · replace h := h.1 c
        refine zj_iinc (y := x3 + 1) (ls2 := [.ref 164, .ref 149, .ref 158, .int (x3 + 1)]) dX5_trace_107 rfl rfl (by decide) rfl rfl ?_
        refine zj_goto (tgt := 10) dX5_trace_110 (by decide) ?_
        exact h
      · replace h := h.2 c
        refine zj_aload_n dX5_trace_69 rfl rfl ?_
        refine zj_aload_n dX5_trace_70 rfl rfl ?_
        refine zj_aload_n dX5_trace_71 rfl rfl ?_
        refine zj_getR (ci := 5) (j := 5) dX5_trace_72 wf_X5_18 (by decide) (by decide) (zk_164 hL) rfl (zr_164_5 hL) ?_
        refine zj_iload_n dX5_trace_75 rfl rfl ?_
        refine zj_iaload dX5_trace_76 (zk_167 hL) (by rw [(zl_167 hL)]; exact h.1) ?_
        replace h := h.2
        refine zj_aload_n dX5_trace_77 rfl rfl ?_
        refine zj_getR (ci := 5) (j := 5) dX5_trace_78 wf_X5_18 (by decide) (by decide) (zk_164 hL) rfl (zr_164_5 hL) ?_
        refine zj_aload_n dX5_trace_81 rfl rfl ?_
        refine zj_getR (ci := 5) (j := 3) dX5_trace_82 wf_X5_9 (by decide) (by decide) (zk_164 hL) rfl (zr_164_3 hL) ?_
        refine zj_iload_n dX5_trace_85 rfl rfl ?_
        refine zj_iaload dX5_trace_86 (zk_165 hL) (by rw [(zl_165 hL)]; exact h.1) ?_
        replace h := h.2
        refine zj_iaload dX5_trace_87 (zk_167 hL) (by rw [(zl_167 hL)]; exact h.1) ?_
        replace h := h.2
        refine zj_aload_n dX5_trace_88 rfl rfl ?_
        refine zj_getR (ci := 5) (j := 6) dX5_trace_89 wf_X5_23 (by decide) (by decide) (zk_164 hL) rfl (zr_164_6 hL) ?_
        refine zj_aload_n dX5_trace_92 rfl rfl ?_
        refine zj_getR (ci := 5) (j := 3) dX5_trace_93 wf_X5_9 (by decide) (by decide) (zk_164 hL) rfl (zr_164_3 hL) ?_
        refine zj_iload_n dX5_trace_96 rfl rfl ?_
        refine zj_iaload dX5_trace_97 (zk_165 hL) (by rw [(zl_165 hL)]; exact h.1) ?_
        replace h := h.2
        obtain ⟨hi1, h⟩ := h
        refine zj_aaload0 dX5_trace_98 (zk_168 hL) (by rw [(zl_168 hL)]; exact hi1) (zRor hL hi1) ?_
        refine zj_callV (M' := mX8_walk) (avs := [.ref 149, .int (v 167 x3.toNatClampNeg), .int (v 167 (v 165 x3.toNatClampNeg).toNatClampNeg), .ref (169 + (v 165 x3.toNatClampNeg).toNatClampNeg)]) (st := []) (ci := 8) dX5_trace_99 wm_X8_walk wl_X5_96 wi_X8_walk ws_X8_walk (by decide) (zk_158 hL) rfl rfl (by decide) rfl (Nat.le_of_ble_eq_true rfl) (Nat.le_of_ble_eq_true rfl) ⟨Or.inl (z_k0 (zk_164 hL)), Or.inl (z_k0 (zk_149 hL)), Or.inl (z_k0 (zk_158 hL)), trivial⟩ trivial (z_J.mono h (fun r S1 v1 hq => ?_))
        obtain ⟨rfl, rfl, h⟩ := hq
        refine zj_aload_n dX5_trace_102 rfl rfl ?_
        refine zj_aload_n dX5_trace_103 rfl rfl ?_
        refine zj_callV (M' := mX5_flipAlong) (avs := [.ref 158]) (st := []) (ci := 5) dX5_trace_104 wm_X5_flipAlong wl_X5_100 wi_X5_flipAlong ws_X5_flipAlong (by decide) (zk_164 hL) rfl rfl (by decide) rfl (Nat.le_of_ble_eq_true rfl) (Nat.le_of_ble_eq_true rfl) ⟨Or.inl (z_k0 (zk_164 hL)), Or.inl (z_k0 (zk_149 hL)), Or.inl (z_k0 (zk_158 hL)), trivial⟩ trivial (z_J.mono h (fun r S1 v2 hq => ?_))
        obtain ⟨rfl, rfl, h⟩ := hq
        refine zj_iinc (y := x3 + 1) (ls2 := [.ref 164, .ref 149, .ref 158, .int (x3 + 1)]) dX5_trace_107 rfl rfl (by decide) rfl rfl ?_
        refine zj_goto (tgt := 10) dX5_trace_110 (by decide) ?_
        exact h
    · replace h := h.2 c
      refine zj_aload_n dX5_trace_29 rfl rfl ?_
      refine zj_aload_n dX5_trace_30 rfl rfl ?_
      refine zj_aload_n dX5_trace_31 rfl rfl ?_
      refine zj_getR (ci := 5) (j := 5) dX5_trace_32 wf_X5_18 (by decide) (by decide) (zk_164 hL) rfl (zr_164_5 hL) ?_
      refine zj_iload_n dX5_trace_35 rfl rfl ?_
      refine zj_iaload dX5_trace_36 (zk_167 hL) (by rw [(zl_167 hL)]; exact h.1) ?_
      replace h := h.2
      refine zj_aload_n dX5_trace_37 rfl rfl ?_
      refine zj_getI (ci := 4) (j := 1) dX5_trace_38 wf_X5_56 (by decide) (by decide) (zk_149 hL) rfl ?_
      refine zj_aload_n dX5_trace_41 rfl rfl ?_
      refine zj_getR (ci := 5) (j := 6) dX5_trace_42 wf_X5_23 (by decide) (by decide) (zk_164 hL) rfl (zr_164_6 hL) ?_
      refine zj_bipush (x := 14) dX5_trace_45 rfl ?_
      refine zj_aaload0 dX5_trace_47 (zk_168 hL) (by rw [(zl_168 hL)]; exact z_vin (by decide)) (zr_168_14 hL) ?_
      refine zj_callV (M' := mX8_walk) (avs := [.ref 149, .int (v 167 x3.toNatClampNeg), .int (v 149 1), .ref 183]) (st := []) (ci := 8) dX5_trace_48 wm_X8_walk wl_X5_96 wi_X8_walk ws_X8_walk (by decide) (zk_158 hL) rfl rfl (by decide) rfl (Nat.le_of_ble_eq_true rfl) (Nat.le_of_ble_eq_true rfl) ⟨Or.inl (z_k0 (zk_164 hL)), Or.inl (z_k0 (zk_149 hL)), Or.inl (z_k0 (zk_158 hL)), trivial⟩ trivial (z_J.mono h (fun r S1 v3 hq => ?_))
      obtain ⟨rfl, rfl, h⟩ := hq
      refine zj_aload_n dX5_trace_51 rfl rfl ?_
      refine zj_aload_n dX5_trace_52 rfl rfl ?_
      refine zj_callV (M' := mX5_flipAlong) (avs := [.ref 158]) (st := []) (ci := 5) dX5_trace_53 wm_X5_flipAlong wl_X5_100 wi_X5_flipAlong ws_X5_flipAlong (by decide) (zk_164 hL) rfl rfl (by decide) rfl (Nat.le_of_ble_eq_true rfl) (Nat.le_of_ble_eq_true rfl) ⟨Or.inl (z_k0 (zk_164 hL)), Or.inl (z_k0 (zk_149 hL)), Or.inl (z_k0 (zk_158 hL)), trivial⟩ trivial (z_J.mono h (fun r S1 v4 hq => ?_))
      obtain ⟨rfl, rfl, h⟩ := hq
      refine zj_goto (tgt := 107) dX5_trace_56 (by decide) ?_
      refine zj_iinc (y := x3 + 1) (ls2 := [.ref 164, .ref 149, .ref 158, .int (x3 + 1)]) dX5_trace_107 rfl rfl (by decide) rfl rfl ?_
      refine zj_goto (tgt := 10) dX5_trace_110 (by decide) ?_
      exact h
theorem sg_X6_beginStep_0 {G : z_G} {d : Nat} {S : z_Shp} {v : z_Dat} {Q : Option Value → z_Shp → z_Dat → Prop} {x1 : Nat} {x2 : Int32} (hL : z_L S) (hx1 : z_isF x1)
    (h : ((v 141 15) < 100 → (∀ v1, v1 = z_u v 141 15 ((v 141 15) + 1) → (z_J G d mX6_doStep (0, [.ref 141, .ref x1, .int x2, .null], [], S, v1) (fun r S1 v2 => ∃ y1 : Int32, r = some (.int y1) ∧ S1 = S ∧ ((y1 = 0 → (Q none S v2)) ∧ (¬ y1 = 0 → (∀ v3, v3 = z_u v2 141 16 ((v2 141 16) + 1) → (Q none S v3)))))))) ∧ (¬ (v 141 15) < 100 → (Q none S v))) :
    z_J G (d + 1) mX6_beginStep (0, [.ref 141, .ref x1, .int x2], [], S, v) Q := by
  refine zj_aload_n dX6_beginStep_0 rfl rfl ?_
  refine zj_getI (ci := 6) (j := 15) dX6_beginStep_1 wf_X6_144 (by decide) (by decide) (zk_141 hL) rfl ?_
  refine zj_bipush (x := 100) dX6_beginStep_4 rfl ?_
  refine zj_icmp_lt (tgt := 10) dX6_beginStep_6 (by decide) (fun c => ?_) (fun c => ?_)
  · replace h := h.1 c
    refine zj_aload_n dX6_beginStep_10 rfl rfl ?_
    refine zj_dup dX6_beginStep_11 rfl ?_
    refine zj_getI (ci := 6) (j := 15) dX6_beginStep_12 wf_X6_144 (by decide) (by decide) (zk_141 hL) rfl ?_
    refine zj_iconst (x := 1) dX6_beginStep_15 rfl ?_
    refine zj_iadd dX6_beginStep_16 ?_
    refine zj_putI (ci := 6) (j := 15) dX6_beginStep_17 wf_X6_144 (by decide) (by decide) (zk_141 hL) rfl rfl rfl rfl (fun v1 ev1 => ?_)
    replace h := h v1 ev1
    refine zj_aload_n dX6_beginStep_20 rfl rfl ?_
    refine zj_aload_n dX6_beginStep_21 rfl rfl ?_
    refine zj_iload_n dX6_beginStep_22 rfl rfl ?_
    refine zj_callV (M' := mX6_doStep) (avs := [.ref x1, .int x2]) (st := []) (ci := 6) dX6_beginStep_23 wm_X6_doStep wl_X6_158 wi_X6_doStep ws_X6_doStep (by decide) (zk_141 hL) rfl rfl (by decide) rfl (Nat.le_of_ble_eq_true rfl) (Nat.le_of_ble_eq_true rfl) ⟨Or.inl (z_k0 (zk_141 hL)), Or.inl (z_k0 (zFk0 hL hx1)), trivial⟩ trivial (z_J.mono h (fun r S1 v2 hq => ?_))
    obtain ⟨y1, rfl, rfl, h⟩ := hq
    refine zj_if_eq (tgt := 39) dX6_beginStep_26 (by decide) (fun c => ?_) (fun c => ?_)
    · replace h := h.1 c
      exact zj_vret dX6_beginStep_39 rfl h
    · replace h := h.2 c
      refine zj_aload_n dX6_beginStep_29 rfl rfl ?_
      refine zj_dup dX6_beginStep_30 rfl ?_
      refine zj_getI (ci := 6) (j := 16) dX6_beginStep_31 wf_X6_147 (by decide) (by decide) (zk_141 hL) rfl ?_
      refine zj_iconst (x := 1) dX6_beginStep_34 rfl ?_
      refine zj_iadd dX6_beginStep_35 ?_
      refine zj_putI (ci := 6) (j := 16) dX6_beginStep_36 wf_X6_147 (by decide) (by decide) (zk_141 hL) rfl rfl rfl rfl (fun v3 ev3 => ?_)
      replace h := h v3 ev3
      exact zj_vret dX6_beginStep_39 rfl h
  · replace h := h.2 c
    exact zj_vret dX6_beginStep_9 rfl h
theorem sg_X6_closeAgain_0 {G : z_G} {d : Nat} {S : z_Shp} {v : z_Dat} {Q : Option Value → z_Shp → z_Dat → Prop} (hL : z_L S)
    (h : ∀ v1, v1 = z_u v 141 10 ((v 141 10) - 1) → ((vp_in (v1 141 10) 2) ∧ (vp_in (v1 148 (v1 141 10).toNatClampNeg) 30 ∧ (∀ v2, v2 = z_u v1 147 (v1 148 (v1 141 10).toNatClampNeg).toNatClampNeg (v1 141 11) → (z_J G d mX6_readSign (0, [.ref 141, .int 93], [], S, v2) (fun r S1 v3 => ∃ y1 : Int32, r = some (.int y1) ∧ S1 = S ∧ ((y1 = 0 → (Q (some (.int 0)) S v3)) ∧ (¬ y1 = 0 → (z_J G d mX6_readSign (0, [.ref 141, .int 59], [], S, v3) (fun r S1 v4 => ∃ y2 : Int32, r = some (.int y2) ∧ S1 = S ∧ ((y2 = 0 → (Q (some (.int 0)) S v4)) ∧ (¬ y2 = 0 → (Q (some (.int 1)) S v4))))))))))))) :
    z_J G (d + 1) mX6_closeAgain (0, [.ref 141], [], S, v) Q := by
  refine zj_aload_n dX6_closeAgain_0 rfl rfl ?_
  refine zj_dup dX6_closeAgain_1 rfl ?_
  refine zj_getI (ci := 6) (j := 10) dX6_closeAgain_2 wf_X6_50 (by decide) (by decide) (zk_141 hL) rfl ?_
  refine zj_iconst (x := 1) dX6_closeAgain_5 rfl ?_
  refine zj_isub dX6_closeAgain_6 ?_
  refine zj_putI (ci := 6) (j := 10) dX6_closeAgain_7 wf_X6_50 (by decide) (by decide) (zk_141 hL) rfl rfl rfl rfl (fun v1 ev1 => ?_)
  replace h := h v1 ev1
  refine zj_aload_n dX6_closeAgain_10 rfl rfl ?_
  refine zj_getR (ci := 6) (j := 8) dX6_closeAgain_11 wf_X6_27 (by decide) (by decide) (zk_141 hL) rfl (zr_141_8 hL) ?_
  refine zj_aload_n dX6_closeAgain_14 rfl rfl ?_
  refine zj_getR (ci := 6) (j := 9) dX6_closeAgain_15 wf_X6_30 (by decide) (by decide) (zk_141 hL) rfl (zr_141_9 hL) ?_
  refine zj_aload_n dX6_closeAgain_18 rfl rfl ?_
  refine zj_getI (ci := 6) (j := 10) dX6_closeAgain_19 wf_X6_50 (by decide) (by decide) (zk_141 hL) rfl ?_
  refine zj_iaload dX6_closeAgain_22 (zk_148 hL) (by rw [(zl_148 hL)]; exact h.1) ?_
  replace h := h.2
  refine zj_aload_n dX6_closeAgain_23 rfl rfl ?_
  refine zj_getI (ci := 6) (j := 11) dX6_closeAgain_24 wf_X6_47 (by decide) (by decide) (zk_141 hL) rfl ?_
  refine zj_iastore dX6_closeAgain_27 (zk_147 hL) (by rw [(zl_147 hL)]; exact h.1) (fun v2 ev2 => ?_)
  replace h := h.2 v2 ev2
  refine zj_aload_n dX6_closeAgain_28 rfl rfl ?_
  refine zj_bipush (x := 93) dX6_closeAgain_29 rfl ?_
  refine zj_callV (M' := mX6_readSign) (avs := [.int 93]) (st := []) (ci := 6) dX6_closeAgain_31 wm_X6_readSign wl_X6_77 wi_X6_readSign ws_X6_readSign (by decide) (zk_141 hL) rfl rfl (by decide) rfl (Nat.le_of_ble_eq_true rfl) (Nat.le_of_ble_eq_true rfl) ⟨Or.inl (z_k0 (zk_141 hL)), trivial⟩ trivial (z_J.mono h (fun r S1 v3 hq => ?_))
  obtain ⟨y1, rfl, rfl, h⟩ := hq
  refine zj_if_eq (tgt := 50) dX6_closeAgain_34 (by decide) (fun c => ?_) (fun c => ?_)
  · replace h := h.1 c
    refine zj_iconst (x := 0) dX6_closeAgain_50 rfl ?_
    exact zj_iret dX6_closeAgain_51 rfl (by decide) h
  · replace h := h.2 c
    refine zj_aload_n dX6_closeAgain_37 rfl rfl ?_
    refine zj_bipush (x := 59) dX6_closeAgain_38 rfl ?_
    refine zj_callV (M' := mX6_readSign) (avs := [.int 59]) (st := []) (ci := 6) dX6_closeAgain_40 wm_X6_readSign wl_X6_77 wi_X6_readSign ws_X6_readSign (by decide) (zk_141 hL) rfl rfl (by decide) rfl (Nat.le_of_ble_eq_true rfl) (Nat.le_of_ble_eq_true rfl) ⟨Or.inl (z_k0 (zk_141 hL)), trivial⟩ trivial (z_J.mono h (fun r S1 v4 hq => ?_))
    obtain ⟨y2, rfl, rfl, h⟩ := hq
    refine zj_if_eq (tgt := 50) dX6_closeAgain_43 (by decide) (fun c => ?_) (fun c => ?_)
    · replace h := h.1 c
      refine zj_iconst (x := 0) dX6_closeAgain_50 rfl ?_
      exact zj_iret dX6_closeAgain_51 rfl (by decide) h
    · replace h := h.2 c
      refine zj_iconst (x := 1) dX6_closeAgain_46 rfl ?_
      refine zj_goto (tgt := 51) dX6_closeAgain_47 (by decide) ?_
      exact zj_iret dX6_closeAgain_51 rfl (by decide) h
theorem sg_X6_doStep_0 {G : z_G} {d : Nat} {S : z_Shp} {v : z_Dat} {Q : Option Value → z_Shp → z_Dat → Prop} {x1 : Nat} {x2 : Int32} (hL : z_L S) (hx1 : z_isF x1)
    (h : (vp_in x2 30) ∧ ((vp_in x2 30) ∧ ((vp_in x2 30) ∧ (((v 143 x2.toNatClampNeg) = 3 → ((vp_in x2 30) ∧ ((vp_in (v 144 x2.toNatClampNeg) 2) ∧ ((vp_in x2 30) ∧ (vp_in (v 144 x2.toNatClampNeg) 2 ∧ (∀ v1, v1 = z_u v (x1 + 2) (v 144 x2.toNatClampNeg).toNatClampNeg ((v (x1 + 2) (v 144 x2.toNatClampNeg).toNatClampNeg) ^^^ ((1 : Int32) <<< ((v 145 x2.toNatClampNeg) &&& 31))) → (Q (some (.int 1)) S v1))))))) ∧ ((v 143 x2.toNatClampNeg) = 4 → (z_J G d mX0_readAll (0, [.ref x1, .null], [], S, v) (fun r S1 v2 => ∃ y1 : Int32, r = some (.int y1) ∧ S1 = S ∧ (narrow .boolean (.int y1) = .int y1 ∧ Q (some (.int y1)) S v2)))) ∧ ((v 143 x2.toNatClampNeg) = 5 → ((vp_in x2 30) ∧ ((vp_in x2 30) ∧ ((vp_in x2 30) ∧ (vp_in (((v 144 x2.toNatClampNeg) * (v 141 13)) + (v 145 x2.toNatClampNeg)) 25 ∧ (∀ v3, v3 = z_u v (x1 + 6) (((v 144 x2.toNatClampNeg) * (v 141 13)) + (v 145 x2.toNatClampNeg)).toNatClampNeg (v 146 x2.toNatClampNeg) → (Q (some (.int 1)) S v3))))))) ∧ ((v 143 x2.toNatClampNeg) = 6 → ((vp_in x2 30) ∧ ((vp_in (v 144 x2.toNatClampNeg) 2) ∧ ((vp_in x2 30) ∧ ((vp_in x2 30) ∧ (vp_in (v 145 x2.toNatClampNeg) 12 ∧ (∀ v4, v4 = z_u v (x1 + 8 + (v 144 x2.toNatClampNeg).toNatClampNeg) (v 145 x2.toNatClampNeg).toNatClampNeg (v 146 x2.toNatClampNeg) → (Q (some (.int 1)) S v4)))))))) ∧ (¬ (v 143 x2.toNatClampNeg) = 3 → ¬ (v 143 x2.toNatClampNeg) = 4 → ¬ (v 143 x2.toNatClampNeg) = 5 → ¬ (v 143 x2.toNatClampNeg) = 6 → ((vp_in x2 30) ∧ ((¬ (v 143 x2.toNatClampNeg) = 1 → (∀ v5, v5 = z_u v (x1 + 1) 0 ((v (x1 + 1) 0) ^^^ ((1 : Int32) <<< ((((v 144 x2.toNatClampNeg) * (v 141 13)) + (v 145 x2.toNatClampNeg)) &&& 31))) → ((vp_in x2 30) ∧ ((¬ (v5 143 x2.toNatClampNeg) = 0 → (∀ v6, v6 = z_u v5 (x1 + 1) 1 ((v5 (x1 + 1) 1) ^^^ ((1 : Int32) <<< ((((v 144 x2.toNatClampNeg) * (v 141 13)) + (v 145 x2.toNatClampNeg)) &&& 31))) → (Q (some (.int 1)) S v6))) ∧ ((v5 143 x2.toNatClampNeg) = 0 → (∀ v7, v7 = z_u v5 (x1 + 1) 1 ((v5 (x1 + 1) 1) ^^^ 0) → (Q (some (.int 1)) S v7))))))) ∧ ((v 143 x2.toNatClampNeg) = 1 → (∀ v8, v8 = z_u v (x1 + 1) 0 ((v (x1 + 1) 0) ^^^ 0) → ((vp_in x2 30) ∧ ((¬ (v8 143 x2.toNatClampNeg) = 0 → (∀ v9, v9 = z_u v8 (x1 + 1) 1 ((v8 (x1 + 1) 1) ^^^ ((1 : Int32) <<< ((((v 144 x2.toNatClampNeg) * (v 141 13)) + (v 145 x2.toNatClampNeg)) &&& 31))) → (Q (some (.int 1)) S v9))) ∧ ((v8 143 x2.toNatClampNeg) = 0 → (∀ v10, v10 = z_u v8 (x1 + 1) 1 ((v8 (x1 + 1) 1) ^^^ 0) → (Q (some (.int 1)) S v10)))))))))))))) :
    z_J G (d + 1) mX6_doStep (0, [.ref 141, .ref x1, .int x2, .null], [], S, v) Q := by
  refine zj_iconst (x := 1) dX6_doStep_0 rfl ?_
  refine zj_aload_n dX6_doStep_1 rfl rfl ?_
  refine zj_getR (ci := 6) (j := 5) dX6_doStep_2 wf_X6_18 (by decide) (by decide) (zk_141 hL) rfl (zr_141_5 hL) ?_
  refine zj_iload_n dX6_doStep_5 rfl rfl ?_
  refine zj_iaload dX6_doStep_6 (zk_144 hL) (by rw [(zl_144 hL)]; exact h.1) ?_
  replace h := h.2
  refine zj_aload_n dX6_doStep_7 rfl rfl ?_
  refine zj_getI (ci := 6) (j := 13) dX6_doStep_8 wf_X6_42 (by decide) (by decide) (zk_141 hL) rfl ?_
  refine zj_imul dX6_doStep_11 ?_
  refine zj_aload_n dX6_doStep_12 rfl rfl ?_
  refine zj_getR (ci := 6) (j := 6) dX6_doStep_13 wf_X6_21 (by decide) (by decide) (zk_141 hL) rfl (zr_141_6 hL) ?_
  refine zj_iload_n dX6_doStep_16 rfl rfl ?_
  refine zj_iaload dX6_doStep_17 (zk_145 hL) (by rw [(zl_145 hL)]; exact h.1) ?_
  replace h := h.2
  refine zj_iadd dX6_doStep_18 ?_
  refine zj_ishl dX6_doStep_19 ?_
  refine zj_istore_n (ls2 := [.ref 141, .ref x1, .int x2, .int ((1 : Int32) <<< ((((v 144 x2.toNatClampNeg) * (v 141 13)) + (v 145 x2.toNatClampNeg)) &&& 31))]) dX6_doStep_20 rfl (by decide) rfl rfl ?_
  refine zj_aload_n dX6_doStep_21 rfl rfl ?_
  refine zj_getR (ci := 6) (j := 4) dX6_doStep_22 wf_X6_15 (by decide) (by decide) (zk_141 hL) rfl (zr_141_4 hL) ?_
  refine zj_iload_n dX6_doStep_25 rfl rfl ?_
  refine zj_iaload dX6_doStep_26 (zk_143 hL) (by rw [(zl_143 hL)]; exact h.1) ?_
  replace h := h.2
  by_cases c3 : (v 143 x2.toNatClampNeg) = 3
  · refine zj_tabIn (tgt := 61) dX6_doStep_27 (by rw [c3]; decide) (by rw [c3]; decide) (by rw [c3]; rfl) (by decide) ?_
    replace h := h.1 c3
    refine zj_aload_n dX6_doStep_61 rfl rfl ?_
    refine zj_getR (ci := 0) (j := 3) dX6_doStep_62 wf_X6_167 (by decide) (by decide) (zFk0 hL hx1) rfl (zFr0_3 hL hx1) ?_
    refine zj_aload_n dX6_doStep_65 rfl rfl ?_
    refine zj_getR (ci := 6) (j := 5) dX6_doStep_66 wf_X6_18 (by decide) (by decide) (zk_141 hL) rfl (zr_141_5 hL) ?_
    refine zj_iload_n dX6_doStep_69 rfl rfl ?_
    refine zj_iaload dX6_doStep_70 (zk_144 hL) (by rw [(zl_144 hL)]; exact h.1) ?_
    replace h := h.2
    refine zj_dup2 dX6_doStep_71 rfl rfl ?_
    refine zj_iaload dX6_doStep_72 (zFk2 hL hx1) (by rw [(zFl2 hL hx1)]; exact h.1) ?_
    replace h := h.2
    refine zj_iconst (x := 1) dX6_doStep_73 rfl ?_
    refine zj_aload_n dX6_doStep_74 rfl rfl ?_
    refine zj_getR (ci := 6) (j := 6) dX6_doStep_75 wf_X6_21 (by decide) (by decide) (zk_141 hL) rfl (zr_141_6 hL) ?_
    refine zj_iload_n dX6_doStep_78 rfl rfl ?_
    refine zj_iaload dX6_doStep_79 (zk_145 hL) (by rw [(zl_145 hL)]; exact h.1) ?_
    replace h := h.2
    refine zj_ishl dX6_doStep_80 ?_
    refine zj_ixor dX6_doStep_81 ?_
    refine zj_iastore dX6_doStep_82 (zFk2 hL hx1) (by rw [(zFl2 hL hx1)]; exact h.1) (fun v1 ev1 => ?_)
    replace h := h.2 v1 ev1
    refine zj_iconst (x := 1) dX6_doStep_83 rfl ?_
    exact zj_iret dX6_doStep_84 rfl (by decide) h
  by_cases c4 : (v 143 x2.toNatClampNeg) = 4
  · refine zj_tabIn (tgt := 56) dX6_doStep_27 (by rw [c4]; decide) (by rw [c4]; decide) (by rw [c4]; rfl) (by decide) ?_
    replace h := h.2.1 c4
    refine zj_aload_n dX6_doStep_56 rfl rfl ?_
    refine zj_callV (M' := mX0_readAll) (avs := []) (st := []) (ci := 0) dX6_doStep_57 wm_X0_readAll wl_X6_162 wi_X0_readAll ws_X0_readAll (by decide) (zFk0 hL hx1) rfl rfl (by decide) rfl (Nat.le_of_ble_eq_true rfl) (Nat.le_of_ble_eq_true rfl) ⟨Or.inl (z_k0 (zk_141 hL)), Or.inl (z_k0 (zFk0 hL hx1)), trivial⟩ trivial (z_J.mono h (fun r S1 v2 hq => ?_))
    obtain ⟨y1, rfl, rfl, h⟩ := hq
    exact zj_iret dX6_doStep_60 rfl h.1 h.2
  by_cases c5 : (v 143 x2.toNatClampNeg) = 5
  · refine zj_tabIn (tgt := 85) dX6_doStep_27 (by rw [c5]; decide) (by rw [c5]; decide) (by rw [c5]; rfl) (by decide) ?_
    replace h := h.2.2.1 c5
    refine zj_aload_n dX6_doStep_85 rfl rfl ?_
    refine zj_getR (ci := 0) (j := 5) dX6_doStep_86 wf_X6_170 (by decide) (by decide) (zFk0 hL hx1) rfl (zFr0_5 hL hx1) ?_
    refine zj_aload_n dX6_doStep_89 rfl rfl ?_
    refine zj_getR (ci := 6) (j := 5) dX6_doStep_90 wf_X6_18 (by decide) (by decide) (zk_141 hL) rfl (zr_141_5 hL) ?_
    refine zj_iload_n dX6_doStep_93 rfl rfl ?_
    refine zj_iaload dX6_doStep_94 (zk_144 hL) (by rw [(zl_144 hL)]; exact h.1) ?_
    replace h := h.2
    refine zj_aload_n dX6_doStep_95 rfl rfl ?_
    refine zj_getI (ci := 6) (j := 13) dX6_doStep_96 wf_X6_42 (by decide) (by decide) (zk_141 hL) rfl ?_
    refine zj_imul dX6_doStep_99 ?_
    refine zj_aload_n dX6_doStep_100 rfl rfl ?_
    refine zj_getR (ci := 6) (j := 6) dX6_doStep_101 wf_X6_21 (by decide) (by decide) (zk_141 hL) rfl (zr_141_6 hL) ?_
    refine zj_iload_n dX6_doStep_104 rfl rfl ?_
    refine zj_iaload dX6_doStep_105 (zk_145 hL) (by rw [(zl_145 hL)]; exact h.1) ?_
    replace h := h.2
    refine zj_iadd dX6_doStep_106 ?_
    refine zj_aload_n dX6_doStep_107 rfl rfl ?_
    refine zj_getR (ci := 6) (j := 7) dX6_doStep_108 wf_X6_24 (by decide) (by decide) (zk_141 hL) rfl (zr_141_7 hL) ?_
    refine zj_iload_n dX6_doStep_111 rfl rfl ?_
    refine zj_iaload dX6_doStep_112 (zk_146 hL) (by rw [(zl_146 hL)]; exact h.1) ?_
    replace h := h.2
    refine zj_iastore dX6_doStep_113 (zFk6 hL hx1) (by rw [(zFl6 hL hx1)]; exact h.1) (fun v3 ev3 => ?_)
    replace h := h.2 v3 ev3
    refine zj_iconst (x := 1) dX6_doStep_114 rfl ?_
    exact zj_iret dX6_doStep_115 rfl (by decide) h
  by_cases c6 : (v 143 x2.toNatClampNeg) = 6
  · refine zj_tabIn (tgt := 116) dX6_doStep_27 (by rw [c6]; decide) (by rw [c6]; decide) (by rw [c6]; rfl) (by decide) ?_
    replace h := h.2.2.2.1 c6
    refine zj_aload_n dX6_doStep_116 rfl rfl ?_
    refine zj_getR (ci := 0) (j := 6) dX6_doStep_117 wf_X6_173 (by decide) (by decide) (zFk0 hL hx1) rfl (zFr0_6 hL hx1) ?_
    refine zj_aload_n dX6_doStep_120 rfl rfl ?_
    refine zj_getR (ci := 6) (j := 5) dX6_doStep_121 wf_X6_18 (by decide) (by decide) (zk_141 hL) rfl (zr_141_5 hL) ?_
    refine zj_iload_n dX6_doStep_124 rfl rfl ?_
    refine zj_iaload dX6_doStep_125 (zk_144 hL) (by rw [(zl_144 hL)]; exact h.1) ?_
    replace h := h.2
    obtain ⟨hi1, h⟩ := h
    refine zj_aaload0 dX6_doStep_126 (zFk7 hL hx1) (by rw [(zFl7 hL hx1)]; exact hi1) (zFg7r hL hx1 hi1) ?_
    refine zj_aload_n dX6_doStep_127 rfl rfl ?_
    refine zj_getR (ci := 6) (j := 6) dX6_doStep_128 wf_X6_21 (by decide) (by decide) (zk_141 hL) rfl (zr_141_6 hL) ?_
    refine zj_iload_n dX6_doStep_131 rfl rfl ?_
    refine zj_iaload dX6_doStep_132 (zk_145 hL) (by rw [(zl_145 hL)]; exact h.1) ?_
    replace h := h.2
    refine zj_aload_n dX6_doStep_133 rfl rfl ?_
    refine zj_getR (ci := 6) (j := 7) dX6_doStep_134 wf_X6_24 (by decide) (by decide) (zk_141 hL) rfl (zr_141_7 hL) ?_
    refine zj_iload_n dX6_doStep_137 rfl rfl ?_
    refine zj_iaload dX6_doStep_138 (zk_146 hL) (by rw [(zl_146 hL)]; exact h.1) ?_
    replace h := h.2
    refine zj_iastore dX6_doStep_139 (zFg7k hL hx1 hi1) (by rw [(zFg7l hL hx1 hi1)]; exact h.1) (fun v4 ev4 => ?_)
    replace h := h.2 v4 ev4
    refine zj_iconst (x := 1) dX6_doStep_140 rfl ?_
    exact zj_iret dX6_doStep_141 rfl (by decide) h
  refine zj_tabOut (tgt := 142) dX6_doStep_27 (z_out_3_6 c3 c4 c5 c6) (by decide) ?_
  replace h := h.2.2.2.2 c3 c4 c5 c6
  refine zj_aload_n dX6_doStep_142 rfl rfl ?_
  refine zj_getR (ci := 0) (j := 2) dX6_doStep_143 wf_X6_177 (by decide) (by decide) (zFk0 hL hx1) rfl (zFr0_2 hL hx1) ?_
  refine zj_iconst (x := 0) dX6_doStep_146 rfl ?_
  refine zj_dup2 dX6_doStep_147 rfl rfl ?_
  refine zj_iaload dX6_doStep_148 (zFk1 hL hx1) (by rw [(zFl1 hL hx1)]; exact z_vin (by decide)) ?_
  refine zj_aload_n dX6_doStep_149 rfl rfl ?_
  refine zj_getR (ci := 6) (j := 4) dX6_doStep_150 wf_X6_15 (by decide) (by decide) (zk_141 hL) rfl (zr_141_4 hL) ?_
  refine zj_iload_n dX6_doStep_153 rfl rfl ?_
  refine zj_iaload dX6_doStep_154 (zk_143 hL) (by rw [(zl_143 hL)]; exact h.1) ?_
  replace h := h.2
  refine zj_iconst (x := 1) dX6_doStep_155 rfl ?_
  refine zj_icmp_ne (tgt := 163) dX6_doStep_156 (by decide) (fun c => ?_) (fun c => ?_)
  · replace h := h.1 c
    refine zj_iload_n dX6_doStep_163 rfl rfl ?_
    refine zj_ixor dX6_doStep_164 ?_
    refine zj_iastore dX6_doStep_165 (zFk1 hL hx1) (by rw [(zFl1 hL hx1)]; exact z_vin (by decide)) (fun v5 ev5 => ?_)
    replace h := h v5 ev5
    refine zj_aload_n dX6_doStep_166 rfl rfl ?_
    refine zj_getR (ci := 0) (j := 2) dX6_doStep_167 wf_X6_177 (by decide) (by decide) (zFk0 hL hx1) rfl (zFr0_2 hL hx1) ?_
    refine zj_iconst (x := 1) dX6_doStep_170 rfl ?_
    refine zj_dup2 dX6_doStep_171 rfl rfl ?_
    refine zj_iaload dX6_doStep_172 (zFk1 hL hx1) (by rw [(zFl1 hL hx1)]; exact z_vin (by decide)) ?_
    refine zj_aload_n dX6_doStep_173 rfl rfl ?_
    refine zj_getR (ci := 6) (j := 4) dX6_doStep_174 wf_X6_15 (by decide) (by decide) (zk_141 hL) rfl (zr_141_4 hL) ?_
    refine zj_iload_n dX6_doStep_177 rfl rfl ?_
    refine zj_iaload dX6_doStep_178 (zk_143 hL) (by rw [(zl_143 hL)]; exact h.1) ?_
    replace h := h.2
    refine zj_if_ne (tgt := 186) dX6_doStep_179 (by decide) (fun c => ?_) (fun c => ?_)
    · replace h := h.1 c
      refine zj_iload_n dX6_doStep_186 rfl rfl ?_
      refine zj_ixor dX6_doStep_187 ?_
      refine zj_iastore dX6_doStep_188 (zFk1 hL hx1) (by rw [(zFl1 hL hx1)]; exact z_vin (by decide)) (fun v6 ev6 => ?_)
      replace h := h v6 ev6
      refine zj_iconst (x := 1) dX6_doStep_189 rfl ?_
      exact zj_iret dX6_doStep_190 rfl (by decide) h
    · replace h := h.2 c
      refine zj_iconst (x := 0) dX6_doStep_182 rfl ?_
      refine zj_goto (tgt := 187) dX6_doStep_183 (by decide) ?_
      refine zj_ixor dX6_doStep_187 ?_
      refine zj_iastore dX6_doStep_188 (zFk1 hL hx1) (by rw [(zFl1 hL hx1)]; exact z_vin (by decide)) (fun v7 ev7 => ?_)
      replace h := h v7 ev7
      refine zj_iconst (x := 1) dX6_doStep_189 rfl ?_
      exact zj_iret dX6_doStep_190 rfl (by decide) h
  · replace h := h.2 c
    refine zj_iconst (x := 0) dX6_doStep_159 rfl ?_
    refine zj_goto (tgt := 164) dX6_doStep_160 (by decide) ?_
    refine zj_ixor dX6_doStep_164 ?_
    refine zj_iastore dX6_doStep_165 (zFk1 hL hx1) (by rw [(zFl1 hL hx1)]; exact z_vin (by decide)) (fun v8 ev8 => ?_)
    replace h := h v8 ev8
    refine zj_aload_n dX6_doStep_166 rfl rfl ?_
    refine zj_getR (ci := 0) (j := 2) dX6_doStep_167 wf_X6_177 (by decide) (by decide) (zFk0 hL hx1) rfl (zFr0_2 hL hx1) ?_
    refine zj_iconst (x := 1) dX6_doStep_170 rfl ?_
    refine zj_dup2 dX6_doStep_171 rfl rfl ?_
    refine zj_iaload dX6_doStep_172 (zFk1 hL hx1) (by rw [(zFl1 hL hx1)]; exact z_vin (by decide)) ?_
    refine zj_aload_n dX6_doStep_173 rfl rfl ?_
    refine zj_getR (ci := 6) (j := 4) dX6_doStep_174 wf_X6_15 (by decide) (by decide) (zk_141 hL) rfl (zr_141_4 hL) ?_
    refine zj_iload_n dX6_doStep_177 rfl rfl ?_
    refine zj_iaload dX6_doStep_178 (zk_143 hL) (by rw [(zl_143 hL)]; exact h.1) ?_
    replace h := h.2
    refine zj_if_ne (tgt := 186) dX6_doStep_179 (by decide) (fun c => ?_) (fun c => ?_)
    · replace h := h.1 c
      refine zj_iload_n dX6_doStep_186 rfl rfl ?_
      refine zj_ixor dX6_doStep_187 ?_
      refine zj_iastore dX6_doStep_188 (zFk1 hL hx1) (by rw [(zFl1 hL hx1)]; exact z_vin (by decide)) (fun v9 ev9 => ?_)
      replace h := h v9 ev9
      refine zj_iconst (x := 1) dX6_doStep_189 rfl ?_
      exact zj_iret dX6_doStep_190 rfl (by decide) h
    · replace h := h.2 c
      refine zj_iconst (x := 0) dX6_doStep_182 rfl ?_
      refine zj_goto (tgt := 187) dX6_doStep_183 (by decide) ?_
      refine zj_ixor dX6_doStep_187 ?_
      refine zj_iastore dX6_doStep_188 (zFk1 hL hx1) (by rw [(zFl1 hL hx1)]; exact z_vin (by decide)) (fun v10 ev10 => ?_)
      replace h := h v10 ev10
      refine zj_iconst (x := 1) dX6_doStep_189 rfl ?_
      exact zj_iret dX6_doStep_190 rfl (by decide) h
theorem sg_X6_doSteps_0 {G : z_G} {d : Nat} {S : z_Shp} {v : z_Dat} {Q : Option Value → z_Shp → z_Dat → Prop} {x1 : Nat} {x2 : Int32} {x3 : Int32} {x4 : Int32} (hx1 : z_isF x1)
    (h : (x4 ≤ 2 → (z_J G d mX6_doSteps (13, [.ref 141, .ref x1, .int x2, .int x3, .int x4, .int x2, .int 0, .null], [], S, v) Q)) ∧ (¬ x4 ≤ 2 → (Q none S v))) :
    z_J G d mX6_doSteps (0, [.ref 141, .ref x1, .int x2, .int x3, .int x4, .null, .null, .null], [], S, v) Q := by
  refine zj_iload dX6_doSteps_0 rfl ?_
  refine zj_iconst (x := 2) dX6_doSteps_2 rfl ?_
  refine zj_icmp_le (tgt := 7) dX6_doSteps_3 (by decide) (fun c => ?_) (fun c => ?_)
  · replace h := h.1 c
    refine zj_iload_n dX6_doSteps_7 rfl rfl ?_
    refine zj_istore (ls2 := [.ref 141, .ref x1, .int x2, .int x3, .int x4, .int x2, .null, .null]) dX6_doSteps_8 (by decide) rfl rfl ?_
    refine zj_iconst (x := 0) dX6_doSteps_10 rfl ?_
    refine zj_istore (ls2 := [.ref 141, .ref x1, .int x2, .int x3, .int x4, .int x2, .int 0, .null]) dX6_doSteps_11 (by decide) rfl rfl ?_
    exact h
  · replace h := h.2 c
    exact zj_vret dX6_doSteps_6 rfl h
theorem sg_X6_doSteps_13 {G : z_G} {d : Nat} {S : z_Shp} {v : z_Dat} {Q : Option Value → z_Shp → z_Dat → Prop} {x2 : Int32} {x3 : Int32} {x4 : Int32} {x5 : Int32} {x6 : Int32} {x1 : Nat} (hL : z_L S) (hx1 : z_isF x1)
    (h : (30 ≤ x6 → (Q none S v)) ∧ (¬ 30 ≤ x6 → ((x3 ≤ x5 → (Q none S v)) ∧ (¬ x3 ≤ x5 → ((vp_in x5 30) ∧ ((¬ (v 143 x5.toNatClampNeg) = 7 → (z_J G d mX6_beginStep (0, [.ref 141, .ref x1, .int x5], [], S, v) (fun r S1 v1 => r = none ∧ S1 = S ∧ (z_J G (d + 1) mX6_doSteps (13, [.ref 141, .ref x1, .int x2, .int x3, .int x4, .int (x5 + 1), .int (x6 + 1), .null], [], S, v1) Q)))) ∧ ((v 143 x5.toNatClampNeg) = 7 → (z_J G (d + 1) mX6_doSteps (41, [.ref 141, .ref x1, .int x2, .int x3, .int x4, .int x5, .int x6, .int 0], [], S, v) Q)))))))) :
    z_J G (d + 1) mX6_doSteps (13, [.ref 141, .ref x1, .int x2, .int x3, .int x4, .int x5, .int x6, .null], [], S, v) Q := by
  refine zj_iload dX6_doSteps_13 rfl ?_
  refine zj_bipush (x := 30) dX6_doSteps_15 rfl ?_
  refine zj_icmp_ge (tgt := 107) dX6_doSteps_17 (by decide) (fun c => ?_) (fun c => ?_)
  · replace h := h.1 c
    exact zj_vret dX6_doSteps_107 rfl h
  · replace h := h.2 c
    refine zj_iload dX6_doSteps_20 rfl ?_
    refine zj_iload_n dX6_doSteps_22 rfl rfl ?_
    refine zj_icmp_ge (tgt := 107) dX6_doSteps_23 (by decide) (fun c => ?_) (fun c => ?_)
    · replace h := h.1 c
      exact zj_vret dX6_doSteps_107 rfl h
    · replace h := h.2 c
      refine zj_aload_n dX6_doSteps_26 rfl rfl ?_
      refine zj_getR (ci := 6) (j := 4) dX6_doSteps_27 wf_X6_15 (by decide) (by decide) (zk_141 hL) rfl (zr_141_4 hL) ?_
      refine zj_iload dX6_doSteps_30 rfl ?_
      refine zj_iaload dX6_doSteps_32 (zk_143 hL) (by rw [(zl_143 hL)]; exact h.1) ?_
      replace h := h.2
      refine zj_bipush (x := 7) dX6_doSteps_33 rfl ?_
      refine zj_icmp_ne (tgt := 91) dX6_doSteps_35 (by decide) (fun c => ?_) (fun c => ?_)
      · replace h := h.1 c
        refine zj_aload_n dX6_doSteps_91 rfl rfl ?_
        refine zj_aload_n dX6_doSteps_92 rfl rfl ?_
        refine zj_iload dX6_doSteps_93 rfl ?_
        refine zj_callV (M' := mX6_beginStep) (avs := [.ref x1, .int x5]) (st := []) (ci := 6) dX6_doSteps_95 wm_X6_beginStep wl_X6_154 wi_X6_beginStep ws_X6_beginStep (by decide) (zk_141 hL) rfl rfl (by decide) rfl (Nat.le_of_ble_eq_true rfl) (Nat.le_of_ble_eq_true rfl) ⟨Or.inl (z_k0 (zk_141 hL)), Or.inl (z_k0 (zFk0 hL hx1)), trivial⟩ trivial (z_J.mono h (fun r S1 v1 hq => ?_))
        obtain ⟨rfl, rfl, h⟩ := hq
        refine zj_iinc (y := x5 + 1) (ls2 := [.ref 141, .ref x1, .int x2, .int x3, .int x4, .int (x5 + 1), .int x6, .null]) dX6_doSteps_98 rfl rfl (by decide) rfl rfl ?_
        refine zj_iinc (y := x6 + 1) (ls2 := [.ref 141, .ref x1, .int x2, .int x3, .int x4, .int (x5 + 1), .int (x6 + 1), .null]) dX6_doSteps_101 rfl rfl (by decide) rfl rfl ?_
        refine zj_goto (tgt := 13) dX6_doSteps_104 (by decide) ?_
        exact h
      · replace h := h.2 c
        refine zj_iconst (x := 0) dX6_doSteps_38 rfl ?_
        refine zj_istore (ls2 := [.ref 141, .ref x1, .int x2, .int x3, .int x4, .int x5, .int x6, .int 0]) dX6_doSteps_39 (by decide) rfl rfl ?_
        exact h
theorem sg_X6_doSteps_41 {G : z_G} {d : Nat} {S : z_Shp} {v : z_Dat} {Q : Option Value → z_Shp → z_Dat → Prop} {x2 : Int32} {x3 : Int32} {x4 : Int32} {x5 : Int32} {x6 : Int32} {x7 : Int32} {x1 : Nat} (hL : z_L S) (hx1 : z_isF x1)
    (h : (vp_in x5 30) ∧ (((v 146 x5.toNatClampNeg) ≤ x7 → ((vp_in x5 30) ∧ (z_J G (d + 1) mX6_doSteps (13, [.ref 141, .ref x1, .int x2, .int x3, .int x4, .int (v 147 x5.toNatClampNeg), .int (x6 + 1), .null], [], S, v) Q))) ∧ (¬ (v 146 x5.toNatClampNeg) ≤ x7 → ((vp_in x5 30) ∧ (z_J G d mX6_doSteps (0, [.ref 141, .ref x1, .int (x5 + 1), .int (v 147 x5.toNatClampNeg), .int (x4 + 1), .null, .null, .null], [], S, v) (fun r S1 v1 => r = none ∧ S1 = S ∧ (z_J G (d + 1) mX6_doSteps (41, [.ref 141, .ref x1, .int x2, .int x3, .int x4, .int x5, .int x6, .int (x7 + 1)], [], S, v1) Q))))))) :
    z_J G (d + 1) mX6_doSteps (41, [.ref 141, .ref x1, .int x2, .int x3, .int x4, .int x5, .int x6, .int x7], [], S, v) Q := by
  refine zj_iload dX6_doSteps_41 rfl ?_
  refine zj_aload_n dX6_doSteps_43 rfl rfl ?_
  refine zj_getR (ci := 6) (j := 7) dX6_doSteps_44 wf_X6_24 (by decide) (by decide) (zk_141 hL) rfl (zr_141_7 hL) ?_
  refine zj_iload dX6_doSteps_47 rfl ?_
  refine zj_iaload dX6_doSteps_49 (zk_146 hL) (by rw [(zl_146 hL)]; exact h.1) ?_
  replace h := h.2
  refine zj_icmp_ge (tgt := 79) dX6_doSteps_50 (by decide) (fun c => ?_) (fun c => ?_)
  · replace h := h.1 c
    refine zj_aload_n dX6_doSteps_79 rfl rfl ?_
    refine zj_getR (ci := 6) (j := 8) dX6_doSteps_80 wf_X6_27 (by decide) (by decide) (zk_141 hL) rfl (zr_141_8 hL) ?_
    refine zj_iload dX6_doSteps_83 rfl ?_
    refine zj_iaload dX6_doSteps_85 (zk_147 hL) (by rw [(zl_147 hL)]; exact h.1) ?_
    replace h := h.2
    refine zj_istore (ls2 := [.ref 141, .ref x1, .int x2, .int x3, .int x4, .int (v 147 x5.toNatClampNeg), .int x6, .int x7]) dX6_doSteps_86 (by decide) rfl rfl ?_
    refine zj_goto (tgt := 101) dX6_doSteps_88 (by decide) ?_
    refine zj_iinc (y := x6 + 1) (ls2 := [.ref 141, .ref x1, .int x2, .int x3, .int x4, .int (v 147 x5.toNatClampNeg), .int (x6 + 1), .int x7]) dX6_doSteps_101 rfl rfl (by decide) rfl rfl ?_
    refine zj_goto (tgt := 13) dX6_doSteps_104 (by decide) ?_
    refine zj_forget (ls2 := [.ref 141, .ref x1, .int x2, .int x3, .int x4, .int (v 147 x5.toNatClampNeg), .int (x6 + 1), .null]) ⟨Or.inr rfl, Or.inr rfl, Or.inr rfl, Or.inr rfl, Or.inr rfl, Or.inr rfl, Or.inr rfl, Or.inl rfl, trivial⟩ ?_
    exact h
  · replace h := h.2 c
    refine zj_aload_n dX6_doSteps_53 rfl rfl ?_
    refine zj_aload_n dX6_doSteps_54 rfl rfl ?_
    refine zj_iload dX6_doSteps_55 rfl ?_
    refine zj_iconst (x := 1) dX6_doSteps_57 rfl ?_
    refine zj_iadd dX6_doSteps_58 ?_
    refine zj_aload_n dX6_doSteps_59 rfl rfl ?_
    refine zj_getR (ci := 6) (j := 8) dX6_doSteps_60 wf_X6_27 (by decide) (by decide) (zk_141 hL) rfl (zr_141_8 hL) ?_
    refine zj_iload dX6_doSteps_63 rfl ?_
    refine zj_iaload dX6_doSteps_65 (zk_147 hL) (by rw [(zl_147 hL)]; exact h.1) ?_
    replace h := h.2
    refine zj_iload dX6_doSteps_66 rfl ?_
    refine zj_iconst (x := 1) dX6_doSteps_68 rfl ?_
    refine zj_iadd dX6_doSteps_69 ?_
    refine zj_callV (M' := mX6_doSteps) (avs := [.ref x1, .int (x5 + 1), .int (v 147 x5.toNatClampNeg), .int (x4 + 1)]) (st := []) (ci := 6) dX6_doSteps_70 wm_X6_doSteps wl_X6_150 wi_X6_doSteps ws_X6_doSteps (by decide) (zk_141 hL) rfl rfl (by decide) rfl (Nat.le_of_ble_eq_true rfl) (Nat.le_of_ble_eq_true rfl) ⟨Or.inl (z_k0 (zk_141 hL)), Or.inl (z_k0 (zFk0 hL hx1)), trivial⟩ trivial (z_J.mono h (fun r S1 v1 hq => ?_))
    obtain ⟨rfl, rfl, h⟩ := hq
    refine zj_iinc (y := x7 + 1) (ls2 := [.ref 141, .ref x1, .int x2, .int x3, .int x4, .int x5, .int x6, .int (x7 + 1)]) dX6_doSteps_73 rfl rfl (by decide) rfl rfl ?_
    refine zj_goto (tgt := 41) dX6_doSteps_76 (by decide) ?_
    exact h
theorem sg_X6_doneOn_0 {G : z_G} {d : Nat} {S : z_Shp} {v : z_Dat} {Q : Option Value → z_Shp → z_Dat → Prop} {x1 : Nat} (hL : z_L S) (hx1 : z_isF x1)
    (h : ∀ v1, v1 = z_u v 141 15 0 → (∀ v2, v2 = z_u v1 141 16 0 → (z_J G d mX6_doSteps (0, [.ref 141, .ref x1, .int 0, .int (v2 141 11), .int 0, .null, .null, .null], [], S, v2) (fun r S1 v3 => r = none ∧ S1 = S ∧ (Q (some (.int (v3 141 16))) S v3))))) :
    z_J G (d + 1) mX6_doneOn (0, [.ref 141, .ref x1], [], S, v) Q := by
  refine zj_aload_n dX6_doneOn_0 rfl rfl ?_
  refine zj_iconst (x := 0) dX6_doneOn_1 rfl ?_
  refine zj_putI (ci := 6) (j := 15) dX6_doneOn_2 wf_X6_144 (by decide) (by decide) (zk_141 hL) rfl rfl rfl rfl (fun v1 ev1 => ?_)
  replace h := h v1 ev1
  refine zj_aload_n dX6_doneOn_5 rfl rfl ?_
  refine zj_iconst (x := 0) dX6_doneOn_6 rfl ?_
  refine zj_putI (ci := 6) (j := 16) dX6_doneOn_7 wf_X6_147 (by decide) (by decide) (zk_141 hL) rfl rfl rfl rfl (fun v2 ev2 => ?_)
  replace h := h v2 ev2
  refine zj_aload_n dX6_doneOn_10 rfl rfl ?_
  refine zj_aload_n dX6_doneOn_11 rfl rfl ?_
  refine zj_iconst (x := 0) dX6_doneOn_12 rfl ?_
  refine zj_aload_n dX6_doneOn_13 rfl rfl ?_
  refine zj_getI (ci := 6) (j := 11) dX6_doneOn_14 wf_X6_47 (by decide) (by decide) (zk_141 hL) rfl ?_
  refine zj_iconst (x := 0) dX6_doneOn_17 rfl ?_
  refine zj_callV (M' := mX6_doSteps) (avs := [.ref x1, .int 0, .int (v2 141 11), .int 0]) (st := []) (ci := 6) dX6_doneOn_18 wm_X6_doSteps wl_X6_150 wi_X6_doSteps ws_X6_doSteps (by decide) (zk_141 hL) rfl rfl (by decide) rfl (Nat.le_of_ble_eq_true rfl) (Nat.le_of_ble_eq_true rfl) ⟨Or.inl (z_k0 (zk_141 hL)), Or.inl (z_k0 (zFk0 hL hx1)), trivial⟩ trivial (z_J.mono h (fun r S1 v3 hq => ?_))
  obtain ⟨rfl, rfl, h⟩ := hq
  refine zj_aload_n dX6_doneOn_21 rfl rfl ?_
  refine zj_getI (ci := 6) (j := 16) dX6_doneOn_22 wf_X6_147 (by decide) (by decide) (zk_141 hL) rfl ?_
  exact zj_iret dX6_doneOn_25 rfl rfl h
theorem sg_X6_hasFault_0 {G : z_G} {d : Nat} {S : z_Shp} {v : z_Dat} {Q : Option Value → z_Shp → z_Dat → Prop} {x1 : Int32} {x2 : Int32} (hL : z_L S)
    (h : ∀ v1, v1 = z_u v 141 1 x1 → (∀ v2, v2 = z_u v1 141 2 x2 → (Q (some (.int 0)) S v2))) :
    z_J G d mX6_hasFault (0, [.ref 141, .int x1, .int x2], [], S, v) Q := by
  refine zj_aload_n dX6_hasFault_0 rfl rfl ?_
  refine zj_iload_n dX6_hasFault_1 rfl rfl ?_
  refine zj_putI (ci := 6) (j := 1) dX6_hasFault_2 wf_X6_56 (by decide) (by decide) (zk_141 hL) rfl rfl rfl rfl (fun v1 ev1 => ?_)
  replace h := h v1 ev1
  refine zj_aload_n dX6_hasFault_5 rfl rfl ?_
  refine zj_iload_n dX6_hasFault_6 rfl rfl ?_
  refine zj_putI (ci := 6) (j := 2) dX6_hasFault_7 wf_X6_59 (by decide) (by decide) (zk_141 hL) rfl rfl rfl rfl (fun v2 ev2 => ?_)
  replace h := h v2 ev2
  refine zj_iconst (x := 0) dX6_hasFault_10 rfl ?_
  exact zj_iret dX6_hasFault_11 rfl (by decide) h
theorem sg_X6_isRight_0 {G : z_G} {d : Nat} {S : z_Shp} {v : z_Dat} {Q : Option Value → z_Shp → z_Dat → Prop} {x1 : Nat} (hL : z_L S) (hx1 : z_isW x1)
    (h : ∀ v1, v1 = z_u v 141 13 (v x1 0) → (∀ v2, v2 = z_u v1 141 14 (v1 x1 2) → (∀ v3, v3 = z_u v2 141 11 0 → (∀ v4, v4 = z_u v3 141 10 0 → (∀ v5, v5 = z_u v4 141 12 0 → (∀ v6, v6 = z_u v5 141 1 0 → (∀ v7, v7 = z_u v6 141 2 0 → (((v7 141 0) ≤ 200 → (z_J G (d + 1) mX6_isRight (62, [.ref 141, .ref x1, .int 0, .null, .null], [], S, v7) Q)) ∧ (¬ (v7 141 0) ≤ 200 → (z_J G d mX6_hasFault (0, [.ref 141, .int 1, .int 200], [], S, v7) (fun r S1 v8 => ∃ y1 : Int32, r = some (.int y1) ∧ S1 = S ∧ (narrow .boolean (.int y1) = .int y1 ∧ Q (some (.int y1)) S v8)))))))))))) :
    z_J G (d + 1) mX6_isRight (0, [.ref 141, .ref x1, .null, .null, .null], [], S, v) Q := by
  refine zj_aload_n dX6_isRight_0 rfl rfl ?_
  refine zj_aload_n dX6_isRight_1 rfl rfl ?_
  refine zj_getI (ci := 9) (j := 0) dX6_isRight_2 wf_X6_37 (by decide) (by decide) (zWk0 hL hx1) rfl ?_
  refine zj_putI (ci := 6) (j := 13) dX6_isRight_5 wf_X6_42 (by decide) (by decide) (zk_141 hL) rfl rfl rfl rfl (fun v1 ev1 => ?_)
  replace h := h v1 ev1
  refine zj_aload_n dX6_isRight_8 rfl rfl ?_
  refine zj_aload_n dX6_isRight_9 rfl rfl ?_
  refine zj_getI (ci := 9) (j := 2) dX6_isRight_10 wf_X6_43 (by decide) (by decide) (zWk0 hL hx1) rfl ?_
  refine zj_putI (ci := 6) (j := 14) dX6_isRight_13 wf_X6_46 (by decide) (by decide) (zk_141 hL) rfl rfl rfl rfl (fun v2 ev2 => ?_)
  replace h := h v2 ev2
  refine zj_aload_n dX6_isRight_16 rfl rfl ?_
  refine zj_iconst (x := 0) dX6_isRight_17 rfl ?_
  refine zj_putI (ci := 6) (j := 11) dX6_isRight_18 wf_X6_47 (by decide) (by decide) (zk_141 hL) rfl rfl rfl rfl (fun v3 ev3 => ?_)
  replace h := h v3 ev3
  refine zj_aload_n dX6_isRight_21 rfl rfl ?_
  refine zj_iconst (x := 0) dX6_isRight_22 rfl ?_
  refine zj_putI (ci := 6) (j := 10) dX6_isRight_23 wf_X6_50 (by decide) (by decide) (zk_141 hL) rfl rfl rfl rfl (fun v4 ev4 => ?_)
  replace h := h v4 ev4
  refine zj_aload_n dX6_isRight_26 rfl rfl ?_
  refine zj_iconst (x := 0) dX6_isRight_27 rfl ?_
  refine zj_putI (ci := 6) (j := 12) dX6_isRight_28 wf_X6_53 (by decide) (by decide) (zk_141 hL) rfl rfl rfl rfl (fun v5 ev5 => ?_)
  replace h := h v5 ev5
  refine zj_aload_n dX6_isRight_31 rfl rfl ?_
  refine zj_iconst (x := 0) dX6_isRight_32 rfl ?_
  refine zj_putI (ci := 6) (j := 1) dX6_isRight_33 wf_X6_56 (by decide) (by decide) (zk_141 hL) rfl rfl rfl rfl (fun v6 ev6 => ?_)
  replace h := h v6 ev6
  refine zj_aload_n dX6_isRight_36 rfl rfl ?_
  refine zj_iconst (x := 0) dX6_isRight_37 rfl ?_
  refine zj_putI (ci := 6) (j := 2) dX6_isRight_38 wf_X6_59 (by decide) (by decide) (zk_141 hL) rfl rfl rfl rfl (fun v7 ev7 => ?_)
  replace h := h v7 ev7
  refine zj_aload_n dX6_isRight_41 rfl rfl ?_
  refine zj_getI (ci := 6) (j := 0) dX6_isRight_42 wf_X6_33 (by decide) (by decide) (zk_141 hL) rfl ?_
  refine zj_sipush (x := 200) dX6_isRight_45 rfl ?_
  refine zj_icmp_le (tgt := 60) dX6_isRight_48 (by decide) (fun c => ?_) (fun c => ?_)
  · replace h := h.1 c
    refine zj_iconst (x := 0) dX6_isRight_60 rfl ?_
    refine zj_istore_n (ls2 := [.ref 141, .ref x1, .int 0, .null, .null]) dX6_isRight_61 rfl (by decide) rfl rfl ?_
    exact h
  · replace h := h.2 c
    refine zj_aload_n dX6_isRight_51 rfl rfl ?_
    refine zj_iconst (x := 1) dX6_isRight_52 rfl ?_
    refine zj_sipush (x := 200) dX6_isRight_53 rfl ?_
    refine zj_callV (M' := mX6_hasFault) (avs := [.int 1, .int 200]) (st := []) (ci := 6) dX6_isRight_56 wm_X6_hasFault wl_X6_62 wi_X6_hasFault ws_X6_hasFault (by decide) (zk_141 hL) rfl rfl (by decide) rfl (Nat.le_of_ble_eq_true rfl) (Nat.le_of_ble_eq_true rfl) ⟨Or.inl (z_k0 (zk_141 hL)), Or.inl (z_k0 (zWk0 hL hx1)), trivial⟩ trivial (z_J.mono h (fun r S1 v8 hq => ?_))
    obtain ⟨y1, rfl, rfl, h⟩ := hq
    exact zj_iret dX6_isRight_59 rfl h.1 h.2
theorem sg_X6_isRight_62 {G : z_G} {d : Nat} {S : z_Shp} {v : z_Dat} {Q : Option Value → z_Shp → z_Dat → Prop} {x2 : Int32} {x1 : Nat} (hL : z_L S) (hx1 : z_isW x1)
    (h : (200 < x2 → (z_J G d mX6_hasFault (0, [.ref 141, .int 1, .int (v 141 12)], [], S, v) (fun r S1 v1 => ∃ y1 : Int32, r = some (.int y1) ∧ S1 = S ∧ (narrow .boolean (.int y1) = .int y1 ∧ Q (some (.int y1)) S v1)))) ∧ (¬ 200 < x2 → (z_J G d mX6_signAhead (0, [.ref 141], [], S, v) (fun r S1 v2 => ∃ y2 : Int32, r = some (.int y2) ∧ S1 = S ∧ ((¬ y2 = (-1) → ((¬ y2 = 93 → (z_J G d mX6_readStep (0, [.ref 141, .null, .null, .null, .null, .null], [], S, v2) (fun r S1 v3 => ∃ y3 : Int32, r = some (.int y3) ∧ S1 = S ∧ ((¬ y3 = 0 → (z_J G (d + 1) mX6_isRight (62, [.ref 141, .ref x1, .int (x2 + 1), .null, .null], [], S, v3) Q)) ∧ (y3 = 0 → (Q (some (.int 0)) S v3)))))) ∧ (y2 = 93 → (((v2 141 10) ≤ 0 → (z_J G d mX6_readStep (0, [.ref 141, .null, .null, .null, .null, .null], [], S, v2) (fun r S1 v4 => ∃ y4 : Int32, r = some (.int y4) ∧ S1 = S ∧ ((¬ y4 = 0 → (z_J G (d + 1) mX6_isRight (62, [.ref 141, .ref x1, .int (x2 + 1), .null, .null], [], S, v4) Q)) ∧ (y4 = 0 → (Q (some (.int 0)) S v4)))))) ∧ (¬ (v2 141 10) ≤ 0 → (z_J G d mX6_closeAgain (0, [.ref 141], [], S, v2) (fun r S1 v5 => ∃ y5 : Int32, r = some (.int y5) ∧ S1 = S ∧ ((¬ y5 = 0 → (z_J G (d + 1) mX6_isRight (62, [.ref 141, .ref x1, .int (x2 + 1), .null, .null], [], S, v5) Q)) ∧ (y5 = 0 → (Q (some (.int 0)) S v5)))))))))) ∧ (y2 = (-1) → ((¬ (v2 141 10) = 0 → ((¬ y2 = 93 → (z_J G d mX6_readStep (0, [.ref 141, .null, .null, .null, .null, .null], [], S, v2) (fun r S1 v6 => ∃ y6 : Int32, r = some (.int y6) ∧ S1 = S ∧ ((¬ y6 = 0 → (z_J G (d + 1) mX6_isRight (62, [.ref 141, .ref x1, .int (x2 + 1), .null, .null], [], S, v6) Q)) ∧ (y6 = 0 → (Q (some (.int 0)) S v6)))))) ∧ (y2 = 93 → (((v2 141 10) ≤ 0 → (z_J G d mX6_readStep (0, [.ref 141, .null, .null, .null, .null, .null], [], S, v2) (fun r S1 v7 => ∃ y7 : Int32, r = some (.int y7) ∧ S1 = S ∧ ((¬ y7 = 0 → (z_J G (d + 1) mX6_isRight (62, [.ref 141, .ref x1, .int (x2 + 1), .null, .null], [], S, v7) Q)) ∧ (y7 = 0 → (Q (some (.int 0)) S v7)))))) ∧ (¬ (v2 141 10) ≤ 0 → (z_J G d mX6_closeAgain (0, [.ref 141], [], S, v2) (fun r S1 v8 => ∃ y8 : Int32, r = some (.int y8) ∧ S1 = S ∧ ((¬ y8 = 0 → (z_J G (d + 1) mX6_isRight (62, [.ref 141, .ref x1, .int (x2 + 1), .null, .null], [], S, v8) Q)) ∧ (y8 = 0 → (Q (some (.int 0)) S v8)))))))))) ∧ ((v2 141 10) = 0 → (Q (some (.int 1)) S v2))))))))) :
    z_J G (d + 1) mX6_isRight (62, [.ref 141, .ref x1, .int x2, .null, .null], [], S, v) Q := by
  refine zj_iload_n dX6_isRight_62 rfl rfl ?_
  refine zj_sipush (x := 200) dX6_isRight_63 rfl ?_
  refine zj_icmp_gt (tgt := 127) dX6_isRight_66 (by decide) (fun c => ?_) (fun c => ?_)
  · replace h := h.1 c
    refine zj_aload_n dX6_isRight_127 rfl rfl ?_
    refine zj_iconst (x := 1) dX6_isRight_128 rfl ?_
    refine zj_aload_n dX6_isRight_129 rfl rfl ?_
    refine zj_getI (ci := 6) (j := 12) dX6_isRight_130 wf_X6_53 (by decide) (by decide) (zk_141 hL) rfl ?_
    refine zj_callV (M' := mX6_hasFault) (avs := [.int 1, .int (v 141 12)]) (st := []) (ci := 6) dX6_isRight_133 wm_X6_hasFault wl_X6_62 wi_X6_hasFault ws_X6_hasFault (by decide) (zk_141 hL) rfl rfl (by decide) rfl (Nat.le_of_ble_eq_true rfl) (Nat.le_of_ble_eq_true rfl) ⟨Or.inl (z_k0 (zk_141 hL)), Or.inl (z_k0 (zWk0 hL hx1)), trivial⟩ trivial (z_J.mono h (fun r S1 v1 hq => ?_))
    obtain ⟨y1, rfl, rfl, h⟩ := hq
    exact zj_iret dX6_isRight_136 rfl h.1 h.2
  · replace h := h.2 c
    refine zj_aload_n dX6_isRight_69 rfl rfl ?_
    refine zj_callV (M' := mX6_signAhead) (avs := []) (st := []) (ci := 6) dX6_isRight_70 wm_X6_signAhead wl_X6_66 wi_X6_signAhead ws_X6_signAhead (by decide) (zk_141 hL) rfl rfl (by decide) rfl (Nat.le_of_ble_eq_true rfl) (Nat.le_of_ble_eq_true rfl) ⟨Or.inl (z_k0 (zk_141 hL)), Or.inl (z_k0 (zWk0 hL hx1)), trivial⟩ trivial (z_J.mono h (fun r S1 v2 hq => ?_))
    obtain ⟨y2, rfl, rfl, h⟩ := hq
    refine zj_istore_n (ls2 := [.ref 141, .ref x1, .int x2, .int y2, .null]) dX6_isRight_73 rfl (by decide) rfl rfl ?_
    refine zj_iload_n dX6_isRight_74 rfl rfl ?_
    refine zj_iconst (x := (-1)) dX6_isRight_75 rfl ?_
    refine zj_icmp_ne (tgt := 88) dX6_isRight_76 (by decide) (fun c => ?_) (fun c => ?_)
    · replace h := h.1 c
      refine zj_iload_n dX6_isRight_88 rfl rfl ?_
      refine zj_bipush (x := 93) dX6_isRight_89 rfl ?_
      refine zj_icmp_ne (tgt := 108) dX6_isRight_91 (by decide) (fun c => ?_) (fun c => ?_)
      · replace h := h.1 c
        refine zj_aload_n dX6_isRight_108 rfl rfl ?_
        refine zj_callV (M' := mX6_readStep) (avs := []) (st := []) (ci := 6) dX6_isRight_109 wm_X6_readStep wl_X6_74 wi_X6_readStep ws_X6_readStep (by decide) (zk_141 hL) rfl rfl (by decide) rfl (Nat.le_of_ble_eq_true rfl) (Nat.le_of_ble_eq_true rfl) ⟨Or.inl (z_k0 (zk_141 hL)), Or.inl (z_k0 (zWk0 hL hx1)), trivial⟩ trivial (z_J.mono h (fun r S1 v3 hq => ?_))
        obtain ⟨y3, rfl, rfl, h⟩ := hq
        refine zj_istore (ls2 := [.ref 141, .ref x1, .int x2, .int y2, .int y3]) dX6_isRight_112 (by decide) rfl rfl ?_
        refine zj_iload dX6_isRight_114 rfl ?_
        refine zj_if_ne (tgt := 121) dX6_isRight_116 (by decide) (fun c => ?_) (fun c => ?_)
        · replace h := h.1 c
          refine zj_iinc (y := x2 + 1) (ls2 := [.ref 141, .ref x1, .int (x2 + 1), .int y2, .int y3]) dX6_isRight_121 rfl rfl (by decide) rfl rfl ?_
          refine zj_goto (tgt := 62) dX6_isRight_124 (by decide) ?_
          refine zj_forget (ls2 := [.ref 141, .ref x1, .int (x2 + 1), .null, .null]) ⟨Or.inr rfl, Or.inr rfl, Or.inr rfl, Or.inl rfl, Or.inl rfl, trivial⟩ ?_
          exact h
        · replace h := h.2 c
          refine zj_iconst (x := 0) dX6_isRight_119 rfl ?_
          exact zj_iret dX6_isRight_120 rfl (by decide) h
      · replace h := h.2 c
        refine zj_aload_n dX6_isRight_94 rfl rfl ?_
        refine zj_getI (ci := 6) (j := 10) dX6_isRight_95 wf_X6_50 (by decide) (by decide) (zk_141 hL) rfl ?_
        refine zj_if_le (tgt := 108) dX6_isRight_98 (by decide) (fun c => ?_) (fun c => ?_)
        · replace h := h.1 c
          refine zj_aload_n dX6_isRight_108 rfl rfl ?_
          refine zj_callV (M' := mX6_readStep) (avs := []) (st := []) (ci := 6) dX6_isRight_109 wm_X6_readStep wl_X6_74 wi_X6_readStep ws_X6_readStep (by decide) (zk_141 hL) rfl rfl (by decide) rfl (Nat.le_of_ble_eq_true rfl) (Nat.le_of_ble_eq_true rfl) ⟨Or.inl (z_k0 (zk_141 hL)), Or.inl (z_k0 (zWk0 hL hx1)), trivial⟩ trivial (z_J.mono h (fun r S1 v4 hq => ?_))
          obtain ⟨y4, rfl, rfl, h⟩ := hq
          refine zj_istore (ls2 := [.ref 141, .ref x1, .int x2, .int y2, .int y4]) dX6_isRight_112 (by decide) rfl rfl ?_
          refine zj_iload dX6_isRight_114 rfl ?_
          refine zj_if_ne (tgt := 121) dX6_isRight_116 (by decide) (fun c => ?_) (fun c => ?_)
          · replace h := h.1 c
            refine zj_iinc (y := x2 + 1) (ls2 := [.ref 141, .ref x1, .int (x2 + 1), .int y2, .int y4]) dX6_isRight_121 rfl rfl (by decide) rfl rfl ?_
            refine zj_goto (tgt := 62) dX6_isRight_124 (by decide) ?_
            refine zj_forget (ls2 := [.ref 141, .ref x1, .int (x2 + 1), .null, .null]) ⟨Or.inr rfl, Or.inr rfl, Or.inr rfl, Or.inl rfl, Or.inl rfl, trivial⟩ ?_
            exact h
          · replace h := h.2 c
            refine zj_iconst (x := 0) dX6_isRight_119 rfl ?_
            exact zj_iret dX6_isRight_120 rfl (by decide) h
        · replace h := h.2 c
          refine zj_aload_n dX6_isRight_101 rfl rfl ?_
          refine zj_callV (M' := mX6_closeAgain) (avs := []) (st := []) (ci := 6) dX6_isRight_102 wm_X6_closeAgain wl_X6_70 wi_X6_closeAgain ws_X6_closeAgain (by decide) (zk_141 hL) rfl rfl (by decide) rfl (Nat.le_of_ble_eq_true rfl) (Nat.le_of_ble_eq_true rfl) ⟨Or.inl (z_k0 (zk_141 hL)), Or.inl (z_k0 (zWk0 hL hx1)), trivial⟩ trivial (z_J.mono h (fun r S1 v5 hq => ?_))
          obtain ⟨y5, rfl, rfl, h⟩ := hq
          refine zj_goto (tgt := 112) dX6_isRight_105 (by decide) ?_
          refine zj_istore (ls2 := [.ref 141, .ref x1, .int x2, .int y2, .int y5]) dX6_isRight_112 (by decide) rfl rfl ?_
          refine zj_iload dX6_isRight_114 rfl ?_
          refine zj_if_ne (tgt := 121) dX6_isRight_116 (by decide) (fun c => ?_) (fun c => ?_)
          · replace h := h.1 c
            refine zj_iinc (y := x2 + 1) (ls2 := [.ref 141, .ref x1, .int (x2 + 1), .int y2, .int y5]) dX6_isRight_121 rfl rfl (by decide) rfl rfl ?_
            refine zj_goto (tgt := 62) dX6_isRight_124 (by decide) ?_
            refine zj_forget (ls2 := [.ref 141, .ref x1, .int (x2 + 1), .null, .null]) ⟨Or.inr rfl, Or.inr rfl, Or.inr rfl, Or.inl rfl, Or.inl rfl, trivial⟩ ?_
            exact h
          · replace h := h.2 c
            refine zj_iconst (x := 0) dX6_isRight_119 rfl ?_
            exact zj_iret dX6_isRight_120 rfl (by decide) h
    · replace h := h.2 c
      refine zj_aload_n dX6_isRight_79 rfl rfl ?_
      refine zj_getI (ci := 6) (j := 10) dX6_isRight_80 wf_X6_50 (by decide) (by decide) (zk_141 hL) rfl ?_
      refine zj_if_ne (tgt := 88) dX6_isRight_83 (by decide) (fun c => ?_) (fun c => ?_)
      · replace h := h.1 c
        refine zj_iload_n dX6_isRight_88 rfl rfl ?_
        refine zj_bipush (x := 93) dX6_isRight_89 rfl ?_
        refine zj_icmp_ne (tgt := 108) dX6_isRight_91 (by decide) (fun c => ?_) (fun c => ?_)
        · replace h := h.1 c
          refine zj_aload_n dX6_isRight_108 rfl rfl ?_
          refine zj_callV (M' := mX6_readStep) (avs := []) (st := []) (ci := 6) dX6_isRight_109 wm_X6_readStep wl_X6_74 wi_X6_readStep ws_X6_readStep (by decide) (zk_141 hL) rfl rfl (by decide) rfl (Nat.le_of_ble_eq_true rfl) (Nat.le_of_ble_eq_true rfl) ⟨Or.inl (z_k0 (zk_141 hL)), Or.inl (z_k0 (zWk0 hL hx1)), trivial⟩ trivial (z_J.mono h (fun r S1 v6 hq => ?_))
          obtain ⟨y6, rfl, rfl, h⟩ := hq
          refine zj_istore (ls2 := [.ref 141, .ref x1, .int x2, .int y2, .int y6]) dX6_isRight_112 (by decide) rfl rfl ?_
          refine zj_iload dX6_isRight_114 rfl ?_
          refine zj_if_ne (tgt := 121) dX6_isRight_116 (by decide) (fun c => ?_) (fun c => ?_)
          · replace h := h.1 c
            refine zj_iinc (y := x2 + 1) (ls2 := [.ref 141, .ref x1, .int (x2 + 1), .int y2, .int y6]) dX6_isRight_121 rfl rfl (by decide) rfl rfl ?_
            refine zj_goto (tgt := 62) dX6_isRight_124 (by decide) ?_
            refine zj_forget (ls2 := [.ref 141, .ref x1, .int (x2 + 1), .null, .null]) ⟨Or.inr rfl, Or.inr rfl, Or.inr rfl, Or.inl rfl, Or.inl rfl, trivial⟩ ?_
            exact h
          · replace h := h.2 c
            refine zj_iconst (x := 0) dX6_isRight_119 rfl ?_
            exact zj_iret dX6_isRight_120 rfl (by decide) h
        · replace h := h.2 c
          refine zj_aload_n dX6_isRight_94 rfl rfl ?_
          refine zj_getI (ci := 6) (j := 10) dX6_isRight_95 wf_X6_50 (by decide) (by decide) (zk_141 hL) rfl ?_
          refine zj_if_le (tgt := 108) dX6_isRight_98 (by decide) (fun c => ?_) (fun c => ?_)
          · replace h := h.1 c
            refine zj_aload_n dX6_isRight_108 rfl rfl ?_
            refine zj_callV (M' := mX6_readStep) (avs := []) (st := []) (ci := 6) dX6_isRight_109 wm_X6_readStep wl_X6_74 wi_X6_readStep ws_X6_readStep (by decide) (zk_141 hL) rfl rfl (by decide) rfl (Nat.le_of_ble_eq_true rfl) (Nat.le_of_ble_eq_true rfl) ⟨Or.inl (z_k0 (zk_141 hL)), Or.inl (z_k0 (zWk0 hL hx1)), trivial⟩ trivial (z_J.mono h (fun r S1 v7 hq => ?_))
            obtain ⟨y7, rfl, rfl, h⟩ := hq
            refine zj_istore (ls2 := [.ref 141, .ref x1, .int x2, .int y2, .int y7]) dX6_isRight_112 (by decide) rfl rfl ?_
            refine zj_iload dX6_isRight_114 rfl ?_
            refine zj_if_ne (tgt := 121) dX6_isRight_116 (by decide) (fun c => ?_) (fun c => ?_)
            · replace h := h.1 c
              refine zj_iinc (y := x2 + 1) (ls2 := [.ref 141, .ref x1, .int (x2 + 1), .int y2, .int y7]) dX6_isRight_121 rfl rfl (by decide) rfl rfl ?_
              refine zj_goto (tgt := 62) dX6_isRight_124 (by decide) ?_
              refine zj_forget (ls2 := [.ref 141, .ref x1, .int (x2 + 1), .null, .null]) ⟨Or.inr rfl, Or.inr rfl, Or.inr rfl, Or.inl rfl, Or.inl rfl, trivial⟩ ?_
              exact h
            · replace h := h.2 c
              refine zj_iconst (x := 0) dX6_isRight_119 rfl ?_
              exact zj_iret dX6_isRight_120 rfl (by decide) h
          · replace h := h.2 c
            refine zj_aload_n dX6_isRight_101 rfl rfl ?_
            refine zj_callV (M' := mX6_closeAgain) (avs := []) (st := []) (ci := 6) dX6_isRight_102 wm_X6_closeAgain wl_X6_70 wi_X6_closeAgain ws_X6_closeAgain (by decide) (zk_141 hL) rfl rfl (by decide) rfl (Nat.le_of_ble_eq_true rfl) (Nat.le_of_ble_eq_true rfl) ⟨Or.inl (z_k0 (zk_141 hL)), Or.inl (z_k0 (zWk0 hL hx1)), trivial⟩ trivial (z_J.mono h (fun r S1 v8 hq => ?_))
            obtain ⟨y8, rfl, rfl, h⟩ := hq
            refine zj_goto (tgt := 112) dX6_isRight_105 (by decide) ?_
            refine zj_istore (ls2 := [.ref 141, .ref x1, .int x2, .int y2, .int y8]) dX6_isRight_112 (by decide) rfl rfl ?_
            refine zj_iload dX6_isRight_114 rfl ?_
            refine zj_if_ne (tgt := 121) dX6_isRight_116 (by decide) (fun c => ?_) (fun c => ?_)
            · replace h := h.1 c
              refine zj_iinc (y := x2 + 1) (ls2 := [.ref 141, .ref x1, .int (x2 + 1), .int y2, .int y8]) dX6_isRight_121 rfl rfl (by decide) rfl rfl ?_
              refine zj_goto (tgt := 62) dX6_isRight_124 (by decide) ?_
              refine zj_forget (ls2 := [.ref 141, .ref x1, .int (x2 + 1), .null, .null]) ⟨Or.inr rfl, Or.inr rfl, Or.inr rfl, Or.inl rfl, Or.inl rfl, trivial⟩ ?_
              exact h
            · replace h := h.2 c
              refine zj_iconst (x := 0) dX6_isRight_119 rfl ?_
              exact zj_iret dX6_isRight_120 rfl (by decide) h
      · replace h := h.2 c
        refine zj_iconst (x := 1) dX6_isRight_86 rfl ?_
        exact zj_iret dX6_isRight_87 rfl (by decide) h
theorem sg_X6_put_0 {G : z_G} {d : Nat} {S : z_Shp} {v : z_Dat} {Q : Option Value → z_Shp → z_Dat → Prop} {x1 : Int32}
    (h : z_J G d mX6_put (3, [.ref 141, .int x1, .int 24], [], S, v) Q) :
    z_J G d mX6_put (0, [.ref 141, .int x1, .null], [], S, v) Q := by
  refine zj_bipush (x := 24) dX6_put_0 rfl ?_
  refine zj_istore_n (ls2 := [.ref 141, .int x1, .int 24]) dX6_put_2 rfl (by decide) rfl rfl ?_
  exact h
theorem sg_X6_put_3 {G : z_G} {d : Nat} {S : z_Shp} {v : z_Dat} {Q : Option Value → z_Shp → z_Dat → Prop} {x1 : Int32} {x2 : Int32} (hL : z_L S)
    (h : (x2 < 0 → (Q none S v)) ∧ (¬ x2 < 0 → ((240 ≤ (v 141 0) → (z_J G d mX6_put (3, [.ref 141, .int x1, .int (x2 + (-8))], [], S, v) Q)) ∧ (¬ 240 ≤ (v 141 0) → (vp_in (v 141 0) 240 ∧ (∀ v1, v1 = z_u v 142 (v 141 0).toNatClampNeg ((z_us x1 x2) &&& 255) → (∀ v2, v2 = z_u v1 141 0 ((v1 141 0) + 1) → (z_J G d mX6_put (3, [.ref 141, .int x1, .int (x2 + (-8))], [], S, v2) Q)))))))) :
    z_J G d mX6_put (3, [.ref 141, .int x1, .int x2], [], S, v) Q := by
  refine zj_iload_n dX6_put_3 rfl rfl ?_
  refine zj_if_lt (tgt := 49) dX6_put_4 (by decide) (fun c => ?_) (fun c => ?_)
  · replace h := h.1 c
    exact zj_vret dX6_put_49 rfl h
  · replace h := h.2 c
    refine zj_aload_n dX6_put_7 rfl rfl ?_
    refine zj_getI (ci := 6) (j := 0) dX6_put_8 wf_X6_33 (by decide) (by decide) (zk_141 hL) rfl ?_
    refine zj_sipush (x := 240) dX6_put_11 rfl ?_
    refine zj_icmp_ge (tgt := 43) dX6_put_14 (by decide) (fun c => ?_) (fun c => ?_)
    · replace h := h.1 c
      refine zj_iinc (y := x2 + (-8)) (ls2 := [.ref 141, .int x1, .int (x2 + (-8))]) dX6_put_43 rfl rfl (by decide) rfl rfl ?_
      refine zj_goto (tgt := 3) dX6_put_46 (by decide) ?_
      exact h
    · replace h := h.2 c
      refine zj_aload_n dX6_put_17 rfl rfl ?_
      refine zj_getR (ci := 6) (j := 3) dX6_put_18 wf_X6_9 (by decide) (by decide) (zk_141 hL) rfl (zr_141_3 hL) ?_
      refine zj_aload_n dX6_put_21 rfl rfl ?_
      refine zj_getI (ci := 6) (j := 0) dX6_put_22 wf_X6_33 (by decide) (by decide) (zk_141 hL) rfl ?_
      refine zj_iload_n dX6_put_25 rfl rfl ?_
      refine zj_iload_n dX6_put_26 rfl rfl ?_
      refine zj_iushr dX6_put_27 ?_
      refine zj_sipush (x := 255) dX6_put_28 rfl ?_
      refine zj_iand dX6_put_31 ?_
      refine zj_iastore dX6_put_32 (zk_142 hL) (by rw [(zl_142 hL)]; exact h.1) (fun v1 ev1 => ?_)
      replace h := h.2 v1 ev1
      refine zj_aload_n dX6_put_33 rfl rfl ?_
      refine zj_dup dX6_put_34 rfl ?_
      refine zj_getI (ci := 6) (j := 0) dX6_put_35 wf_X6_33 (by decide) (by decide) (zk_141 hL) rfl ?_
      refine zj_iconst (x := 1) dX6_put_38 rfl ?_
      refine zj_iadd dX6_put_39 ?_
      refine zj_putI (ci := 6) (j := 0) dX6_put_40 wf_X6_33 (by decide) (by decide) (zk_141 hL) rfl rfl rfl rfl (fun v2 ev2 => ?_)
      replace h := h v2 ev2
      refine zj_iinc (y := x2 + (-8)) (ls2 := [.ref 141, .int x1, .int (x2 + (-8))]) dX6_put_43 rfl rfl (by decide) rfl rfl ?_
      refine zj_goto (tgt := 3) dX6_put_46 (by decide) ?_
      exact h
theorem sg_X6_readKind_0 {G : z_G} {d : Nat} {S : z_Shp} {v : z_Dat} {Q : Option Value → z_Shp → z_Dat → Prop} {x1 : Int32} (hL : z_L S)
    (h : z_J G d mX6_signAhead (0, [.ref 141], [], S, v) (fun r S1 v1 => ∃ y1 : Int32, r = some (.int y1) ∧ S1 = S ∧ (z_J G d mX6_readWord (0, [.ref 141, .null], [], S, v1) (fun r S1 v2 => ∃ y2 : Int32, r = some (.int y2) ∧ S1 = S ∧ ((y2 = 0 → (vp_in x1 30 ∧ (∀ v3, v3 = z_u v2 144 x1.toNatClampNeg y2 → (Q (some (.int 1)) S v3)))) ∧ (¬ y2 = 0 → ((y2 = 1 → (vp_in x1 30 ∧ (∀ v4, v4 = z_u v2 144 x1.toNatClampNeg y2 → (Q (some (.int 1)) S v4)))) ∧ (¬ y2 = 1 → (z_J G d mX6_hasFault (0, [.ref 141, .int 1, .int (v1 141 12)], [], S, v2) (fun r S1 v5 => ∃ y3 : Int32, r = some (.int y3) ∧ S1 = S ∧ (narrow .boolean (.int y3) = .int y3 ∧ Q (some (.int y3)) S v5))))))))))) :
    z_J G (d + 1) mX6_readKind (0, [.ref 141, .int x1, .null, .null], [], S, v) Q := by
  refine zj_aload_n dX6_readKind_0 rfl rfl ?_
  refine zj_callV (M' := mX6_signAhead) (avs := []) (st := []) (ci := 6) dX6_readKind_1 wm_X6_signAhead wl_X6_66 wi_X6_signAhead ws_X6_signAhead (by decide) (zk_141 hL) rfl rfl (by decide) rfl (Nat.le_of_ble_eq_true rfl) (Nat.le_of_ble_eq_true rfl) ⟨Or.inl (z_k0 (zk_141 hL)), trivial⟩ trivial (z_J.mono h (fun r S1 v1 hq => ?_))
  obtain ⟨y1, rfl, rfl, h⟩ := hq
  refine zj_pop dX6_readKind_4 rfl ?_
  refine zj_aload_n dX6_readKind_5 rfl rfl ?_
  refine zj_getI (ci := 6) (j := 12) dX6_readKind_6 wf_X6_53 (by decide) (by decide) (zk_141 hL) rfl ?_
  refine zj_istore_n (ls2 := [.ref 141, .int x1, .int (v1 141 12), .null]) dX6_readKind_9 rfl (by decide) rfl rfl ?_
  refine zj_aload_n dX6_readKind_10 rfl rfl ?_
  refine zj_callV (M' := mX6_readWord) (avs := []) (st := []) (ci := 6) dX6_readKind_11 wm_X6_readWord wl_X6_81 wi_X6_readWord ws_X6_readWord (by decide) (zk_141 hL) rfl rfl (by decide) rfl (Nat.le_of_ble_eq_true rfl) (Nat.le_of_ble_eq_true rfl) ⟨Or.inl (z_k0 (zk_141 hL)), trivial⟩ trivial (z_J.mono h (fun r S1 v2 hq => ?_))
  obtain ⟨y2, rfl, rfl, h⟩ := hq
  refine zj_istore_n (ls2 := [.ref 141, .int x1, .int (v1 141 12), .int y2]) dX6_readKind_14 rfl (by decide) rfl rfl ?_
  refine zj_iload_n dX6_readKind_15 rfl rfl ?_
  refine zj_if_eq (tgt := 31) dX6_readKind_16 (by decide) (fun c => ?_) (fun c => ?_)
  · replace h := h.1 c
    refine zj_aload_n dX6_readKind_31 rfl rfl ?_
    refine zj_getR (ci := 6) (j := 5) dX6_readKind_32 wf_X6_18 (by decide) (by decide) (zk_141 hL) rfl (zr_141_5 hL) ?_
    refine zj_iload_n dX6_readKind_35 rfl rfl ?_
    refine zj_iload_n dX6_readKind_36 rfl rfl ?_
    refine zj_iastore dX6_readKind_37 (zk_144 hL) (by rw [(zl_144 hL)]; exact h.1) (fun v3 ev3 => ?_)
    replace h := h.2 v3 ev3
    refine zj_iconst (x := 1) dX6_readKind_38 rfl ?_
    exact zj_iret dX6_readKind_39 rfl (by decide) h
  · replace h := h.2 c
    refine zj_iload_n dX6_readKind_19 rfl rfl ?_
    refine zj_iconst (x := 1) dX6_readKind_20 rfl ?_
    refine zj_icmp_eq (tgt := 31) dX6_readKind_21 (by decide) (fun c => ?_) (fun c => ?_)
    · replace h := h.1 c
      refine zj_aload_n dX6_readKind_31 rfl rfl ?_
      refine zj_getR (ci := 6) (j := 5) dX6_readKind_32 wf_X6_18 (by decide) (by decide) (zk_141 hL) rfl (zr_141_5 hL) ?_
      refine zj_iload_n dX6_readKind_35 rfl rfl ?_
      refine zj_iload_n dX6_readKind_36 rfl rfl ?_
      refine zj_iastore dX6_readKind_37 (zk_144 hL) (by rw [(zl_144 hL)]; exact h.1) (fun v4 ev4 => ?_)
      replace h := h.2 v4 ev4
      refine zj_iconst (x := 1) dX6_readKind_38 rfl ?_
      exact zj_iret dX6_readKind_39 rfl (by decide) h
    · replace h := h.2 c
      refine zj_aload_n dX6_readKind_24 rfl rfl ?_
      refine zj_iconst (x := 1) dX6_readKind_25 rfl ?_
      refine zj_iload_n dX6_readKind_26 rfl rfl ?_
      refine zj_callV (M' := mX6_hasFault) (avs := [.int 1, .int (v1 141 12)]) (st := []) (ci := 6) dX6_readKind_27 wm_X6_hasFault wl_X6_62 wi_X6_hasFault ws_X6_hasFault (by decide) (zk_141 hL) rfl rfl (by decide) rfl (Nat.le_of_ble_eq_true rfl) (Nat.le_of_ble_eq_true rfl) ⟨Or.inl (z_k0 (zk_141 hL)), trivial⟩ trivial (z_J.mono h (fun r S1 v5 hq => ?_))
      obtain ⟨y3, rfl, rfl, h⟩ := hq
      exact zj_iret dX6_readKind_30 rfl h.1 h.2
theorem sg_X6_readNumber_0 {G : z_G} {d : Nat} {S : z_Shp} {v : z_Dat} {Q : Option Value → z_Shp → z_Dat → Prop} {x1 : Nat} {x2 : Int32} {x3 : Int32} {x4 : Int32} (hL : z_L S) (hx1 : z_k S x1 = 21)
    (h : z_J G d mX6_signAhead (0, [.ref 141], [], S, v) (fun r S1 v1 => ∃ y1 : Int32, r = some (.int y1) ∧ S1 = S ∧ (z_J G (d + 1) mX6_readNumber (14, [.ref 141, .ref x1, .int x2, .int x3, .int x4, .int (v1 141 12), .int 0], [], S, v1) Q))) :
    z_J G (d + 1) mX6_readNumber (0, [.ref 141, .ref x1, .int x2, .int x3, .int x4, .null, .null], [], S, v) Q := by
  refine zj_aload_n dX6_readNumber_0 rfl rfl ?_
  refine zj_callV (M' := mX6_signAhead) (avs := []) (st := []) (ci := 6) dX6_readNumber_1 wm_X6_signAhead wl_X6_66 wi_X6_signAhead ws_X6_signAhead (by decide) (zk_141 hL) rfl rfl (by decide) rfl (Nat.le_of_ble_eq_true rfl) (Nat.le_of_ble_eq_true rfl) ⟨Or.inl (z_k0 (zk_141 hL)), Or.inl (z_k0 hx1), trivial⟩ trivial (z_J.mono h (fun r S1 v1 hq => ?_))
  obtain ⟨y1, rfl, rfl, h⟩ := hq
  refine zj_pop dX6_readNumber_4 rfl ?_
  refine zj_aload_n dX6_readNumber_5 rfl rfl ?_
  refine zj_getI (ci := 6) (j := 12) dX6_readNumber_6 wf_X6_53 (by decide) (by decide) (zk_141 hL) rfl ?_
  refine zj_istore (ls2 := [.ref 141, .ref x1, .int x2, .int x3, .int x4, .int (v1 141 12), .null]) dX6_readNumber_9 (by decide) rfl rfl ?_
  refine zj_iconst (x := 0) dX6_readNumber_11 rfl ?_
  refine zj_istore (ls2 := [.ref 141, .ref x1, .int x2, .int x3, .int x4, .int (v1 141 12), .int 0]) dX6_readNumber_12 (by decide) rfl rfl ?_
  exact h
theorem sg_X6_readNumber_14 {G : z_G} {d : Nat} {S : z_Shp} {v : z_Dat} {Q : Option Value → z_Shp → z_Dat → Prop} {x2 : Int32} {x3 : Int32} {x4 : Int32} {x5 : Int32} {x6 : Int32} {x1 : Nat} (hL : z_L S) (hx1 : z_k S x1 = 21)
    (h : ((v 141 0) ≤ (v 141 12) → ((¬ (v 141 12) = x5 → ((x6 < x3 → (z_J G d mX6_hasFault (0, [.ref 141, .int 2, .int x5], [], S, v) (fun r S1 v1 => ∃ y1 : Int32, r = some (.int y1) ∧ S1 = S ∧ (narrow .boolean (.int y1) = .int y1 ∧ Q (some (.int y1)) S v1)))) ∧ (¬ x6 < x3 → ((x6 ≤ x4 → (vp_in x2 (z_l S x1) ∧ (∀ v2, v2 = z_u v x1 x2.toNatClampNeg x6 → (Q (some (.int 1)) S v2)))) ∧ (¬ x6 ≤ x4 → (z_J G d mX6_hasFault (0, [.ref 141, .int 2, .int x5], [], S, v) (fun r S1 v3 => ∃ y2 : Int32, r = some (.int y2) ∧ S1 = S ∧ (narrow .boolean (.int y2) = .int y2 ∧ Q (some (.int y2)) S v3)))))))) ∧ ((v 141 12) = x5 → (z_J G d mX6_hasFault (0, [.ref 141, .int 1, .int x5], [], S, v) (fun r S1 v4 => ∃ y3 : Int32, r = some (.int y3) ∧ S1 = S ∧ (narrow .boolean (.int y3) = .int y3 ∧ Q (some (.int y3)) S v4)))))) ∧ (¬ (v 141 0) ≤ (v 141 12) → ((vp_in (v 141 12) 240) ∧ (((v 142 (v 141 12).toNatClampNeg) < 48 → ((¬ (v 141 12) = x5 → ((x6 < x3 → (z_J G d mX6_hasFault (0, [.ref 141, .int 2, .int x5], [], S, v) (fun r S1 v5 => ∃ y4 : Int32, r = some (.int y4) ∧ S1 = S ∧ (narrow .boolean (.int y4) = .int y4 ∧ Q (some (.int y4)) S v5)))) ∧ (¬ x6 < x3 → ((x6 ≤ x4 → (vp_in x2 (z_l S x1) ∧ (∀ v6, v6 = z_u v x1 x2.toNatClampNeg x6 → (Q (some (.int 1)) S v6)))) ∧ (¬ x6 ≤ x4 → (z_J G d mX6_hasFault (0, [.ref 141, .int 2, .int x5], [], S, v) (fun r S1 v7 => ∃ y5 : Int32, r = some (.int y5) ∧ S1 = S ∧ (narrow .boolean (.int y5) = .int y5 ∧ Q (some (.int y5)) S v7)))))))) ∧ ((v 141 12) = x5 → (z_J G d mX6_hasFault (0, [.ref 141, .int 1, .int x5], [], S, v) (fun r S1 v8 => ∃ y6 : Int32, r = some (.int y6) ∧ S1 = S ∧ (narrow .boolean (.int y6) = .int y6 ∧ Q (some (.int y6)) S v8)))))) ∧ (¬ (v 142 (v 141 12).toNatClampNeg) < 48 → ((vp_in (v 141 12) 240) ∧ ((57 < (v 142 (v 141 12).toNatClampNeg) → ((¬ (v 141 12) = x5 → ((x6 < x3 → (z_J G d mX6_hasFault (0, [.ref 141, .int 2, .int x5], [], S, v) (fun r S1 v9 => ∃ y7 : Int32, r = some (.int y7) ∧ S1 = S ∧ (narrow .boolean (.int y7) = .int y7 ∧ Q (some (.int y7)) S v9)))) ∧ (¬ x6 < x3 → ((x6 ≤ x4 → (vp_in x2 (z_l S x1) ∧ (∀ v10, v10 = z_u v x1 x2.toNatClampNeg x6 → (Q (some (.int 1)) S v10)))) ∧ (¬ x6 ≤ x4 → (z_J G d mX6_hasFault (0, [.ref 141, .int 2, .int x5], [], S, v) (fun r S1 v11 => ∃ y8 : Int32, r = some (.int y8) ∧ S1 = S ∧ (narrow .boolean (.int y8) = .int y8 ∧ Q (some (.int y8)) S v11)))))))) ∧ ((v 141 12) = x5 → (z_J G d mX6_hasFault (0, [.ref 141, .int 1, .int x5], [], S, v) (fun r S1 v12 => ∃ y9 : Int32, r = some (.int y9) ∧ S1 = S ∧ (narrow .boolean (.int y9) = .int y9 ∧ Q (some (.int y9)) S v12)))))) ∧ (¬ 57 < (v 142 (v 141 12).toNatClampNeg) → ((vp_in (v 141 12) 240) ∧ (∀ v13, v13 = z_u v 141 12 ((v 141 12) + 1) → (z_J G (d + 1) mX6_readNumber (14, [.ref 141, .ref x1, .int x2, .int x3, .int x4, .int x5, .int (if (((x6 * 10) + (v 142 (v 141 12).toNatClampNeg)) - 48) < 1000 then (((x6 * 10) + (v 142 (v 141 12).toNatClampNeg)) - 48) else 1000)], [], S, v13) Q))))))))))) :
    z_J G (d + 1) mX6_readNumber (14, [.ref 141, .ref x1, .int x2, .int x3, .int x4, .int x5, .int x6], [], S, v) Q := by
  refine zj_aload_n dX6_readNumber_14 rfl rfl ?_
  refine zj_getI (ci := 6) (j := 12) dX6_readNumber_15 wf_X6_53 (by decide) (by decide) (zk_141 hL) rfl ?_
  refine zj_aload_n dX6_readNumber_18 rfl rfl ?_
  refine zj_getI (ci := 6) (j := 0) dX6_readNumber_19 wf_X6_33 (by decide) (by decide) (zk_141 hL) rfl ?_
  refine zj_icmp_ge (tgt := 92) dX6_readNumber_22 (by decide) (fun c => ?_) (fun c => ?_)
  · replace h := h.1 c
    refine zj_aload_n dX6_readNumber_92 rfl rfl ?_
    refine zj_getI (ci := 6) (j := 12) dX6_readNumber_93 wf_X6_53 (by decide) (by decide) (zk_141 hL) rfl ?_
    refine zj_iload dX6_readNumber_96 rfl ?_
    refine zj_icmp_ne (tgt := 109) dX6_readNumber_98 (by decide) (fun c => ?_) (fun c => ?_)
    · replace h := h.1 c
      refine zj_iload dX6_readNumber_109 rfl ?_
      refine zj_iload_n dX6_readNumber_111 rfl rfl ?_
      refine zj_icmp_lt (tgt := 122) dX6_readNumber_112 (by decide) (fun c => ?_) (fun c => ?_)
      · replace h := h.1 c
        refine zj_aload_n dX6_readNumber_122 rfl rfl ?_
        refine zj_iconst (x := 2) dX6_readNumber_123 rfl ?_
        refine zj_iload dX6_readNumber_124 rfl ?_
        refine zj_callV (M' := mX6_hasFault) (avs := [.int 2, .int x5]) (st := []) (ci := 6) dX6_readNumber_126 wm_X6_hasFault wl_X6_62 wi_X6_hasFault ws_X6_hasFault (by decide) (zk_141 hL) rfl rfl (by decide) rfl (Nat.le_of_ble_eq_true rfl) (Nat.le_of_ble_eq_true rfl) ⟨Or.inl (z_k0 (zk_141 hL)), Or.inl (z_k0 hx1), trivial⟩ trivial (z_J.mono h (fun r S1 v1 hq => ?_))
        obtain ⟨y1, rfl, rfl, h⟩ := hq
        exact zj_iret dX6_readNumber_129 rfl h.1 h.2
      · replace h := h.2 c
        refine zj_iload dX6_readNumber_115 rfl ?_
        refine zj_iload dX6_readNumber_117 rfl ?_
        refine zj_icmp_le (tgt := 130) dX6_readNumber_119 (by decide) (fun c => ?_) (fun c => ?_)
        · replace h := h.1 c
          refine zj_aload_n dX6_readNumber_130 rfl rfl ?_
          refine zj_iload_n dX6_readNumber_131 rfl rfl ?_
          refine zj_iload dX6_readNumber_132 rfl ?_
          refine zj_iastore dX6_readNumber_134 hx1 h.1 (fun v2 ev2 => ?_)
          replace h := h.2 v2 ev2
          refine zj_iconst (x := 1) dX6_readNumber_135 rfl ?_
          exact zj_iret dX6_readNumber_136 rfl (by decide) h
        · replace h := h.2 c
          refine zj_aload_n dX6_readNumber_122 rfl rfl ?_
          refine zj_iconst (x := 2) dX6_readNumber_123 rfl ?_
          refine zj_iload dX6_readNumber_124 rfl ?_
          refine zj_callV (M' := mX6_hasFault) (avs := [.int 2, .int x5]) (st := []) (ci := 6) dX6_readNumber_126 wm_X6_hasFault wl_X6_62 wi_X6_hasFault ws_X6_hasFault (by decide) (zk_141 hL) rfl rfl (by decide) rfl (Nat.le_of_ble_eq_true rfl) (Nat.le_of_ble_eq_true rfl) ⟨Or.inl (z_k0 (zk_141 hL)), Or.inl (z_k0 hx1), trivial⟩ trivial (z_J.mono h (fun r S1 v3 hq => ?_))
          obtain ⟨y2, rfl, rfl, h⟩ := hq
          exact zj_iret dX6_readNumber_129 rfl h.1 h.2
    · replace h := h.2 c
      refine zj_aload_n dX6_readNumber_101 rfl rfl ?_
      refine zj_iconst (x := 1) dX6_readNumber_102 rfl ?_
      refine zj_iload dX6_readNumber_103 rfl ?_
      refine zj_callV (M' := mX6_hasFault) (avs := [.int 1, .int x5]) (st := []) (ci := 6) dX6_readNumber_105 wm_X6_hasFault wl_X6_62 wi_X6_hasFault ws_X6_hasFault (by decide) (zk_141 hL) rfl rfl (by decide) rfl (Nat.le_of_ble_eq_true rfl) (Nat.le_of_ble_eq_true rfl) ⟨Or.inl (z_k0 (zk_141 hL)), Or.inl (z_k0 hx1), trivial⟩ trivial (z_J.mono h (fun r S1 v4 hq => ?_))
      obtain ⟨y3, rfl, rfl, h⟩ := hq
      exact zj_iret dX6_readNumber_108 rfl h.1 h.2
  · replace h := h.2 c
    refine zj_aload_n dX6_readNumber_25 rfl rfl ?_
    refine zj_getR (ci := 6) (j := 3) dX6_readNumber_26 wf_X6_9 (by decide) (by decide) (zk_141 hL) rfl (zr_141_3 hL) ?_
    refine zj_aload_n dX6_readNumber_29 rfl rfl ?_
    refine zj_getI (ci := 6) (j := 12) dX6_readNumber_30 wf_X6_53 (by decide) (by decide) (zk_141 hL) rfl ?_
    refine zj_iaload dX6_readNumber_33 (zk_142 hL) (by rw [(zl_142 hL)]; exact h.1) ?_
    replace h := h.2
    refine zj_bipush (x := 48) dX6_readNumber_34 rfl ?_
    refine zj_icmp_lt (tgt := 92) dX6_readNumber_36 (by decide) (fun c => ?_) (fun c => ?_)
    · replace h := h.1 c
      refine zj_aload_n dX6_readNumber_92 rfl rfl ?_
      refine zj_getI (ci := 6) (j := 12) dX6_readNumber_93 wf_X6_53 (by decide) (by decide) (zk_141 hL) rfl ?_
      refine zj_iload dX6_readNumber_96 rfl ?_
      refine zj_icmp_ne (tgt := 109) dX6_readNumber_98 (by decide) (fun c => ?_) (fun c => ?_)
      · replace h := h.1 c
        refine zj_iload dX6_readNumber_109 rfl ?_
        refine zj_iload_n dX6_readNumber_111 rfl rfl ?_
        refine zj_icmp_lt (tgt := 122) dX6_readNumber_112 (by decide) (fun c => ?_) (fun c => ?_)
        · replace h := h.1 c
          refine zj_aload_n dX6_readNumber_122 rfl rfl ?_
          refine zj_iconst (x := 2) dX6_readNumber_123 rfl ?_
          refine zj_iload dX6_readNumber_124 rfl ?_
          refine zj_callV (M' := mX6_hasFault) (avs := [.int 2, .int x5]) (st := []) (ci := 6) dX6_readNumber_126 wm_X6_hasFault wl_X6_62 wi_X6_hasFault ws_X6_hasFault (by decide) (zk_141 hL) rfl rfl (by decide) rfl (Nat.le_of_ble_eq_true rfl) (Nat.le_of_ble_eq_true rfl) ⟨Or.inl (z_k0 (zk_141 hL)), Or.inl (z_k0 hx1), trivial⟩ trivial (z_J.mono h (fun r S1 v5 hq => ?_))
          obtain ⟨y4, rfl, rfl, h⟩ := hq
          exact zj_iret dX6_readNumber_129 rfl h.1 h.2
        · replace h := h.2 c
          refine zj_iload dX6_readNumber_115 rfl ?_
          refine zj_iload dX6_readNumber_117 rfl ?_
          refine zj_icmp_le (tgt := 130) dX6_readNumber_119 (by decide) (fun c => ?_) (fun c => ?_)
          · replace h := h.1 c
            refine zj_aload_n dX6_readNumber_130 rfl rfl ?_
            refine zj_iload_n dX6_readNumber_131 rfl rfl ?_
            refine zj_iload dX6_readNumber_132 rfl ?_
            refine zj_iastore dX6_readNumber_134 hx1 h.1 (fun v6 ev6 => ?_)
            replace h := h.2 v6 ev6
            refine zj_iconst (x := 1) dX6_readNumber_135 rfl ?_
            exact zj_iret dX6_readNumber_136 rfl (by decide) h
          · replace h := h.2 c
            refine zj_aload_n dX6_readNumber_122 rfl rfl ?_
            refine zj_iconst (x := 2) dX6_readNumber_123 rfl ?_
            refine zj_iload dX6_readNumber_124 rfl ?_
            refine zj_callV (M' := mX6_hasFault) (avs := [.int 2, .int x5]) (st := []) (ci := 6) dX6_readNumber_126 wm_X6_hasFault wl_X6_62 wi_X6_hasFault ws_X6_hasFault (by decide) (zk_141 hL) rfl rfl (by decide) rfl (Nat.le_of_ble_eq_true rfl) (Nat.le_of_ble_eq_true rfl) ⟨Or.inl (z_k0 (zk_141 hL)), Or.inl (z_k0 hx1), trivial⟩ trivial (z_J.mono h (fun r S1 v7 hq => ?_))
            obtain ⟨y5, rfl, rfl, h⟩ := hq
            exact zj_iret dX6_readNumber_129 rfl h.1 h.2
      · replace h := h.2 c
        refine zj_aload_n dX6_readNumber_101 rfl rfl ?_
        refine zj_iconst (x := 1) dX6_readNumber_102 rfl ?_
        refine zj_iload dX6_readNumber_103 rfl ?_
        refine zj_callV (M' := mX6_hasFault) (avs := [.int 1, .int x5]) (st := []) (ci := 6) dX6_readNumber_105 wm_X6_hasFault wl_X6_62 wi_X6_hasFault ws_X6_hasFault (by decide) (zk_141 hL) rfl rfl (by decide) rfl (Nat.le_of_ble_eq_true rfl) (Nat.le_of_ble_eq_true rfl) ⟨Or.inl (z_k0 (zk_141 hL)), Or.inl (z_k0 hx1), trivial⟩ trivial (z_J.mono h (fun r S1 v8 hq => ?_))
        obtain ⟨y6, rfl, rfl, h⟩ := hq
        exact zj_iret dX6_readNumber_108 rfl h.1 h.2
    · replace h := h.2 c
      refine zj_aload_n dX6_readNumber_39 rfl rfl ?_
      refine zj_getR (ci := 6) (j := 3) dX6_readNumber_40 wf_X6_9 (by decide) (by decide) (zk_141 hL) rfl (zr_141_3 hL) ?_
      refine zj_aload_n dX6_readNumber_43 rfl rfl ?_
      refine zj_getI (ci := 6) (j := 12) dX6_readNumber_44 wf_X6_53 (by decide) (by decide) (zk_141 hL) rfl ?_
      refine zj_iaload dX6_readNumber_47 (zk_142 hL) (by rw [(zl_142 hL)]; exact h.1) ?_
      replace h := h.2
      refine zj_bipush (x := 57) dX6_readNumber_48 rfl ?_
      refine zj_icmp_gt (tgt := 92) dX6_readNumber_50 (by decide) (fun c => ?_) (fun c => ?_)
      · replace h := h.1 c
        refine zj_aload_n dX6_readNumber_92 rfl rfl ?_
        refine zj_getI (ci := 6) (j := 12) dX6_readNumber_93 wf_X6_53 (by decide) (by decide) (zk_141 hL) rfl ?_
        refine zj_iload dX6_readNumber_96 rfl ?_
        refine zj_icmp_ne (tgt := 109) dX6_readNumber_98 (by decide) (fun c => ?_) (fun c => ?_)
        · replace h := h.1 c
          refine zj_iload dX6_readNumber_109 rfl ?_
          refine zj_iload_n dX6_readNumber_111 rfl rfl ?_
          refine zj_icmp_lt (tgt := 122) dX6_readNumber_112 (by decide) (fun c => ?_) (fun c => ?_)
          · replace h := h.1 c
            refine zj_aload_n dX6_readNumber_122 rfl rfl ?_
            refine zj_iconst (x := 2) dX6_readNumber_123 rfl ?_
            refine zj_iload dX6_readNumber_124 rfl ?_
            refine zj_callV (M' := mX6_hasFault) (avs := [.int 2, .int x5]) (st := []) (ci := 6) dX6_readNumber_126 wm_X6_hasFault wl_X6_62 wi_X6_hasFault ws_X6_hasFault (by decide) (zk_141 hL) rfl rfl (by decide) rfl (Nat.le_of_ble_eq_true rfl) (Nat.le_of_ble_eq_true rfl) ⟨Or.inl (z_k0 (zk_141 hL)), Or.inl (z_k0 hx1), trivial⟩ trivial (z_J.mono h (fun r S1 v9 hq => ?_))
            obtain ⟨y7, rfl, rfl, h⟩ := hq
            exact zj_iret dX6_readNumber_129 rfl h.1 h.2
          · replace h := h.2 c
            refine zj_iload dX6_readNumber_115 rfl ?_
            refine zj_iload dX6_readNumber_117 rfl ?_
            refine zj_icmp_le (tgt := 130) dX6_readNumber_119 (by decide) (fun c => ?_) (fun c => ?_)
            · replace h := h.1 c
              refine zj_aload_n dX6_readNumber_130 rfl rfl ?_
              refine zj_iload_n dX6_readNumber_131 rfl rfl ?_
              refine zj_iload dX6_readNumber_132 rfl ?_
              refine zj_iastore dX6_readNumber_134 hx1 h.1 (fun v10 ev10 => ?_)
              replace h := h.2 v10 ev10
              refine zj_iconst (x := 1) dX6_readNumber_135 rfl ?_
              exact zj_iret dX6_readNumber_136 rfl (by decide) h
            · replace h := h.2 c
              refine zj_aload_n dX6_readNumber_122 rfl rfl ?_
              refine zj_iconst (x := 2) dX6_readNumber_123 rfl ?_
              refine zj_iload dX6_readNumber_124 rfl ?_
              refine zj_callV (M' := mX6_hasFault) (avs := [.int 2, .int x5]) (st := []) (ci := 6) dX6_readNumber_126 wm_X6_hasFault wl_X6_62 wi_X6_hasFault ws_X6_hasFault (by decide) (zk_141 hL) rfl rfl (by decide) rfl (Nat.le_of_ble_eq_true rfl) (Nat.le_of_ble_eq_true rfl) ⟨Or.inl (z_k0 (zk_141 hL)), Or.inl (z_k0 hx1), trivial⟩ trivial (z_J.mono h (fun r S1 v11 hq => ?_))
              obtain ⟨y8, rfl, rfl, h⟩ := hq
              exact zj_iret dX6_readNumber_129 rfl h.1 h.2
        · replace h := h.2 c
          refine zj_aload_n dX6_readNumber_101 rfl rfl ?_
          refine zj_iconst (x := 1) dX6_readNumber_102 rfl ?_
          refine zj_iload dX6_readNumber_103 rfl ?_
          refine zj_callV (M' := mX6_hasFault) (avs := [.int 1, .int x5]) (st := []) (ci := 6) dX6_readNumber_105 wm_X6_hasFault wl_X6_62 wi_X6_hasFault ws_X6_hasFault (by decide) (zk_141 hL) rfl rfl (by decide) rfl (Nat.le_of_ble_eq_true rfl) (Nat.le_of_ble_eq_true rfl) ⟨Or.inl (z_k0 (zk_141 hL)), Or.inl (z_k0 hx1), trivial⟩ trivial (z_J.mono h (fun r S1 v12 hq => ?_))
          obtain ⟨y9, rfl, rfl, h⟩ := hq
          exact zj_iret dX6_readNumber_108 rfl h.1 h.2
      · replace h := h.2 c
        refine zj_sipush (x := 1000) dX6_readNumber_53 rfl ?_
        refine zj_iload dX6_readNumber_56 rfl ?_
        refine zj_bipush (x := 10) dX6_readNumber_58 rfl ?_
        refine zj_imul dX6_readNumber_60 ?_
        refine zj_aload_n dX6_readNumber_61 rfl rfl ?_
        refine zj_getR (ci := 6) (j := 3) dX6_readNumber_62 wf_X6_9 (by decide) (by decide) (zk_141 hL) rfl (zr_141_3 hL) ?_
        refine zj_aload_n dX6_readNumber_65 rfl rfl ?_
        refine zj_getI (ci := 6) (j := 12) dX6_readNumber_66 wf_X6_53 (by decide) (by decide) (zk_141 hL) rfl ?_
        refine zj_iaload dX6_readNumber_69 (zk_142 hL) (by rw [(zl_142 hL)]; exact h.1) ?_
        replace h := h.2
        refine zj_iadd dX6_readNumber_70 ?_
        refine zj_bipush (x := 48) dX6_readNumber_71 rfl ?_
        refine zj_isub dX6_readNumber_73 ?_
        refine zj_mmin dX6_readNumber_74 wl_X6_118 (Nat.le_of_ble_eq_true rfl) ?_
        refine zj_istore (ls2 := [.ref 141, .ref x1, .int x2, .int x3, .int x4, .int x5, .int (if (((x6 * 10) + (v 142 (v 141 12).toNatClampNeg)) - 48) < 1000 then (((x6 * 10) + (v 142 (v 141 12).toNatClampNeg)) - 48) else 1000)]) dX6_readNumber_77 (by decide) rfl rfl ?_
        refine zj_aload_n dX6_readNumber_79 rfl rfl ?_
        refine zj_dup dX6_readNumber_80 rfl ?_
        refine zj_getI (ci := 6) (j := 12) dX6_readNumber_81 wf_X6_53 (by decide) (by decide) (zk_141 hL) rfl ?_
        refine zj_iconst (x := 1) dX6_readNumber_84 rfl ?_
        refine zj_iadd dX6_readNumber_85 ?_
        refine zj_putI (ci := 6) (j := 12) dX6_readNumber_86 wf_X6_53 (by decide) (by decide) (zk_141 hL) rfl rfl rfl rfl (fun v13 ev13 => ?_)
        replace h := h v13 ev13
        refine zj_goto (tgt := 14) dX6_readNumber_89 (by decide) ?_
        exact h
theorem sg_X6_readPart_0 {G : z_G} {d : Nat} {S : z_Shp} {v : z_Dat} {Q : Option Value → z_Shp → z_Dat → Prop} {x1 : Int32} {x2 : Int32} (hL : z_L S)
    (h : (x1 = 67 → (z_J G d mX6_readNumber (0, [.ref 141, .ref 145, .int x2, .int 0, .int ((v 141 13) - 1), .null, .null], [], S, v) (fun r S1 v1 => ∃ y1 : Int32, r = some (.int y1) ∧ S1 = S ∧ (narrow .boolean (.int y1) = .int y1 ∧ Q (some (.int y1)) S v1)))) ∧ (x1 = 75 → (z_J G d mX6_readKind (0, [.ref 141, .int x2, .null, .null], [], S, v) (fun r S1 v2 => ∃ y2 : Int32, r = some (.int y2) ∧ S1 = S ∧ (narrow .boolean (.int y2) = .int y2 ∧ Q (some (.int y2)) S v2)))) ∧ (x1 = 78 → (z_J G d mX6_readNumber (0, [.ref 141, .ref 146, .int x2, .int 1, .int 9, .null, .null], [], S, v) (fun r S1 v3 => ∃ y3 : Int32, r = some (.int y3) ∧ S1 = S ∧ (narrow .boolean (.int y3) = .int y3 ∧ Q (some (.int y3)) S v3)))) ∧ (x1 = 82 → (z_J G d mX6_readNumber (0, [.ref 141, .ref 144, .int x2, .int 0, .int ((v 141 13) - 1), .null, .null], [], S, v) (fun r S1 v4 => ∃ y4 : Int32, r = some (.int y4) ∧ S1 = S ∧ (narrow .boolean (.int y4) = .int y4 ∧ Q (some (.int y4)) S v4)))) ∧ (x1 = 107 → (z_J G d mX6_readNumber (0, [.ref 141, .ref 145, .int x2, .int 0, .int ((v 141 14) - 1), .null, .null], [], S, v) (fun r S1 v5 => ∃ y5 : Int32, r = some (.int y5) ∧ S1 = S ∧ (narrow .boolean (.int y5) = .int y5 ∧ Q (some (.int y5)) S v5)))) ∧ (¬ x1 = 67 → ¬ x1 = 75 → ¬ x1 = 78 → ¬ x1 = 82 → ¬ x1 = 107 → (z_J G d mX6_readSign (0, [.ref 141, .int x1], [], S, v) (fun r S1 v6 => ∃ y6 : Int32, r = some (.int y6) ∧ S1 = S ∧ (narrow .boolean (.int y6) = .int y6 ∧ Q (some (.int y6)) S v6))))) :
    z_J G (d + 1) mX6_readPart (0, [.ref 141, .int x1, .int x2], [], S, v) Q := by
  refine zj_iload_n dX6_readPart_0 rfl rfl ?_
  by_cases c67 : x1 = 67
  · refine zj_lookup (off := 68) (tgt := 69) dX6_readPart_1 (by decide) (by rw [c67]; rfl) (by decide) ?_
    replace h := h.1 c67
    refine zj_aload_n dX6_readPart_69 rfl rfl ?_
    refine zj_aload_n dX6_readPart_70 rfl rfl ?_
    refine zj_getR (ci := 6) (j := 6) dX6_readPart_71 wf_X6_21 (by decide) (by decide) (zk_141 hL) rfl (zr_141_6 hL) ?_
    refine zj_iload_n dX6_readPart_74 rfl rfl ?_
    refine zj_iconst (x := 0) dX6_readPart_75 rfl ?_
    refine zj_aload_n dX6_readPart_76 rfl rfl ?_
    refine zj_getI (ci := 6) (j := 13) dX6_readPart_77 wf_X6_42 (by decide) (by decide) (zk_141 hL) rfl ?_
    refine zj_iconst (x := 1) dX6_readPart_80 rfl ?_
    refine zj_isub dX6_readPart_81 ?_
    refine zj_callV (M' := mX6_readNumber) (avs := [.ref 145, .int x2, .int 0, .int ((v 141 13) - 1)]) (st := []) (ci := 6) dX6_readPart_82 wm_X6_readNumber wl_X6_111 wi_X6_readNumber ws_X6_readNumber (by decide) (zk_141 hL) rfl rfl (by decide) rfl (Nat.le_of_ble_eq_true rfl) (Nat.le_of_ble_eq_true rfl) ⟨Or.inl (z_k0 (zk_141 hL)), trivial⟩ trivial (z_J.mono h (fun r S1 v1 hq => ?_))
    obtain ⟨y1, rfl, rfl, h⟩ := hq
    exact zj_iret dX6_readPart_85 rfl h.1 h.2
  by_cases c75 : x1 = 75
  · refine zj_lookup (off := 85) (tgt := 86) dX6_readPart_1 (by decide) (by rw [c75]; rfl) (by decide) ?_
    replace h := h.2.1 c75
    refine zj_aload_n dX6_readPart_86 rfl rfl ?_
    refine zj_iload_n dX6_readPart_87 rfl rfl ?_
    refine zj_callV (M' := mX6_readKind) (avs := [.int x2]) (st := []) (ci := 6) dX6_readPart_88 wm_X6_readKind wl_X6_115 wi_X6_readKind ws_X6_readKind (by decide) (zk_141 hL) rfl rfl (by decide) rfl (Nat.le_of_ble_eq_true rfl) (Nat.le_of_ble_eq_true rfl) ⟨Or.inl (z_k0 (zk_141 hL)), trivial⟩ trivial (z_J.mono h (fun r S1 v2 hq => ?_))
    obtain ⟨y2, rfl, rfl, h⟩ := hq
    exact zj_iret dX6_readPart_91 rfl h.1 h.2
  by_cases c78 : x1 = 78
  · refine zj_lookup (off := 108) (tgt := 109) dX6_readPart_1 (by decide) (by rw [c78]; rfl) (by decide) ?_
    replace h := h.2.2.1 c78
    refine zj_aload_n dX6_readPart_109 rfl rfl ?_
    refine zj_aload_n dX6_readPart_110 rfl rfl ?_
    refine zj_getR (ci := 6) (j := 7) dX6_readPart_111 wf_X6_24 (by decide) (by decide) (zk_141 hL) rfl (zr_141_7 hL) ?_
    refine zj_iload_n dX6_readPart_114 rfl rfl ?_
    refine zj_iconst (x := 1) dX6_readPart_115 rfl ?_
    refine zj_bipush (x := 9) dX6_readPart_116 rfl ?_
    refine zj_callV (M' := mX6_readNumber) (avs := [.ref 146, .int x2, .int 1, .int 9]) (st := []) (ci := 6) dX6_readPart_118 wm_X6_readNumber wl_X6_111 wi_X6_readNumber ws_X6_readNumber (by decide) (zk_141 hL) rfl rfl (by decide) rfl (Nat.le_of_ble_eq_true rfl) (Nat.le_of_ble_eq_true rfl) ⟨Or.inl (z_k0 (zk_141 hL)), trivial⟩ trivial (z_J.mono h (fun r S1 v3 hq => ?_))
    obtain ⟨y3, rfl, rfl, h⟩ := hq
    exact zj_iret dX6_readPart_121 rfl h.1 h.2
  by_cases c82 : x1 = 82
  · refine zj_lookup (off := 51) (tgt := 52) dX6_readPart_1 (by decide) (by rw [c82]; rfl) (by decide) ?_
    replace h := h.2.2.2.1 c82
    refine zj_aload_n dX6_readPart_52 rfl rfl ?_
    refine zj_aload_n dX6_readPart_53 rfl rfl ?_
    refine zj_getR (ci := 6) (j := 5) dX6_readPart_54 wf_X6_18 (by decide) (by decide) (zk_141 hL) rfl (zr_141_5 hL) ?_
    refine zj_iload_n dX6_readPart_57 rfl rfl ?_
    refine zj_iconst (x := 0) dX6_readPart_58 rfl ?_
    refine zj_aload_n dX6_readPart_59 rfl rfl ?_
    refine zj_getI (ci := 6) (j := 13) dX6_readPart_60 wf_X6_42 (by decide) (by decide) (zk_141 hL) rfl ?_
    refine zj_iconst (x := 1) dX6_readPart_63 rfl ?_
    refine zj_isub dX6_readPart_64 ?_
    refine zj_callV (M' := mX6_readNumber) (avs := [.ref 144, .int x2, .int 0, .int ((v 141 13) - 1)]) (st := []) (ci := 6) dX6_readPart_65 wm_X6_readNumber wl_X6_111 wi_X6_readNumber ws_X6_readNumber (by decide) (zk_141 hL) rfl rfl (by decide) rfl (Nat.le_of_ble_eq_true rfl) (Nat.le_of_ble_eq_true rfl) ⟨Or.inl (z_k0 (zk_141 hL)), trivial⟩ trivial (z_J.mono h (fun r S1 v4 hq => ?_))
    obtain ⟨y4, rfl, rfl, h⟩ := hq
    exact zj_iret dX6_readPart_68 rfl h.1 h.2
  by_cases c107 : x1 = 107
  · refine zj_lookup (off := 91) (tgt := 92) dX6_readPart_1 (by decide) (by rw [c107]; rfl) (by decide) ?_
    replace h := h.2.2.2.2.1 c107
    refine zj_aload_n dX6_readPart_92 rfl rfl ?_
    refine zj_aload_n dX6_readPart_93 rfl rfl ?_
    refine zj_getR (ci := 6) (j := 6) dX6_readPart_94 wf_X6_21 (by decide) (by decide) (zk_141 hL) rfl (zr_141_6 hL) ?_
    refine zj_iload_n dX6_readPart_97 rfl rfl ?_
    refine zj_iconst (x := 0) dX6_readPart_98 rfl ?_
    refine zj_aload_n dX6_readPart_99 rfl rfl ?_
    refine zj_getI (ci := 6) (j := 14) dX6_readPart_100 wf_X6_46 (by decide) (by decide) (zk_141 hL) rfl ?_
    refine zj_iconst (x := 1) dX6_readPart_103 rfl ?_
    refine zj_isub dX6_readPart_104 ?_
    refine zj_callV (M' := mX6_readNumber) (avs := [.ref 145, .int x2, .int 0, .int ((v 141 14) - 1)]) (st := []) (ci := 6) dX6_readPart_105 wm_X6_readNumber wl_X6_111 wi_X6_readNumber ws_X6_readNumber (by decide) (zk_141 hL) rfl rfl (by decide) rfl (Nat.le_of_ble_eq_true rfl) (Nat.le_of_ble_eq_true rfl) ⟨Or.inl (z_k0 (zk_141 hL)), trivial⟩ trivial (z_J.mono h (fun r S1 v5 hq => ?_))
    obtain ⟨y5, rfl, rfl, h⟩ := hq
    exact zj_iret dX6_readPart_108 rfl h.1 h.2
  refine zj_lookup (off := 121) (tgt := 122) dX6_readPart_1 (by decide) (by show Op.lookupswitch.offset [(67, 68), (75, 85), (78, 108), (82, 51), (107, 91)] 121 _ = _; rw [lv_osw (a := 67) c67 rfl, lv_osw (a := 75) c75 rfl, lv_osw (a := 78) c78 rfl, lv_osw (a := 82) c82 rfl, lv_osw (a := 107) c107 rfl]; rfl) (by decide) ?_
  replace h := h.2.2.2.2.2 c67 c75 c78 c82 c107
  refine zj_aload_n dX6_readPart_122 rfl rfl ?_
  refine zj_iload_n dX6_readPart_123 rfl rfl ?_
  refine zj_callV (M' := mX6_readSign) (avs := [.int x1]) (st := []) (ci := 6) dX6_readPart_124 wm_X6_readSign wl_X6_77 wi_X6_readSign ws_X6_readSign (by decide) (zk_141 hL) rfl rfl (by decide) rfl (Nat.le_of_ble_eq_true rfl) (Nat.le_of_ble_eq_true rfl) ⟨Or.inl (z_k0 (zk_141 hL)), trivial⟩ trivial (z_J.mono h (fun r S1 v6 hq => ?_))
  obtain ⟨y6, rfl, rfl, h⟩ := hq
  exact zj_iret dX6_readPart_127 rfl h.1 h.2
theorem sg_X6_readSign_0 {G : z_G} {d : Nat} {S : z_Shp} {v : z_Dat} {Q : Option Value → z_Shp → z_Dat → Prop} {x1 : Int32} (hL : z_L S)
    (h : z_J G d mX6_signAhead (0, [.ref 141], [], S, v) (fun r S1 v1 => ∃ y1 : Int32, r = some (.int y1) ∧ S1 = S ∧ ((y1 = x1 → (∀ v2, v2 = z_u v1 141 12 ((v1 141 12) + 1) → (Q (some (.int 1)) S v2))) ∧ (¬ y1 = x1 → (z_J G d mX6_hasFault (0, [.ref 141, .int 1, .int (v1 141 12)], [], S, v1) (fun r S1 v3 => ∃ y2 : Int32, r = some (.int y2) ∧ S1 = S ∧ (narrow .boolean (.int y2) = .int y2 ∧ Q (some (.int y2)) S v3))))))) :
    z_J G (d + 1) mX6_readSign (0, [.ref 141, .int x1], [], S, v) Q := by
  refine zj_aload_n dX6_readSign_0 rfl rfl ?_
  refine zj_callV (M' := mX6_signAhead) (avs := []) (st := []) (ci := 6) dX6_readSign_1 wm_X6_signAhead wl_X6_66 wi_X6_signAhead ws_X6_signAhead (by decide) (zk_141 hL) rfl rfl (by decide) rfl (Nat.le_of_ble_eq_true rfl) (Nat.le_of_ble_eq_true rfl) ⟨Or.inl (z_k0 (zk_141 hL)), trivial⟩ trivial (z_J.mono h (fun r S1 v1 hq => ?_))
  obtain ⟨y1, rfl, rfl, h⟩ := hq
  refine zj_iload_n dX6_readSign_4 rfl rfl ?_
  refine zj_icmp_eq (tgt := 18) dX6_readSign_5 (by decide) (fun c => ?_) (fun c => ?_)
  · replace h := h.1 c
    refine zj_aload_n dX6_readSign_18 rfl rfl ?_
    refine zj_dup dX6_readSign_19 rfl ?_
    refine zj_getI (ci := 6) (j := 12) dX6_readSign_20 wf_X6_53 (by decide) (by decide) (zk_141 hL) rfl ?_
    refine zj_iconst (x := 1) dX6_readSign_23 rfl ?_
    refine zj_iadd dX6_readSign_24 ?_
    refine zj_putI (ci := 6) (j := 12) dX6_readSign_25 wf_X6_53 (by decide) (by decide) (zk_141 hL) rfl rfl rfl rfl (fun v2 ev2 => ?_)
    replace h := h v2 ev2
    refine zj_iconst (x := 1) dX6_readSign_28 rfl ?_
    exact zj_iret dX6_readSign_29 rfl (by decide) h
  · replace h := h.2 c
    refine zj_aload_n dX6_readSign_8 rfl rfl ?_
    refine zj_iconst (x := 1) dX6_readSign_9 rfl ?_
    refine zj_aload_n dX6_readSign_10 rfl rfl ?_
    refine zj_getI (ci := 6) (j := 12) dX6_readSign_11 wf_X6_53 (by decide) (by decide) (zk_141 hL) rfl ?_
    refine zj_callV (M' := mX6_hasFault) (avs := [.int 1, .int (v1 141 12)]) (st := []) (ci := 6) dX6_readSign_14 wm_X6_hasFault wl_X6_62 wi_X6_hasFault ws_X6_hasFault (by decide) (zk_141 hL) rfl rfl (by decide) rfl (Nat.le_of_ble_eq_true rfl) (Nat.le_of_ble_eq_true rfl) ⟨Or.inl (z_k0 (zk_141 hL)), trivial⟩ trivial (z_J.mono h (fun r S1 v3 hq => ?_))
    obtain ⟨y2, rfl, rfl, h⟩ := hq
    exact zj_iret dX6_readSign_17 rfl h.1 h.2
theorem sg_X6_signAhead_0 {G : z_G} {d : Nat} {S : z_Shp} {v : z_Dat} {Q : Option Value → z_Shp → z_Dat → Prop} (hL : z_L S)
    (h : ((v 141 0) ≤ (v 141 12) → (((v 141 0) ≤ (v 141 12) → (Q (some (.int (-1))) S v)) ∧ (¬ (v 141 0) ≤ (v 141 12) → ((vp_in (v 141 12) 240) ∧ (Q (some (.int (v 142 (v 141 12).toNatClampNeg))) S v))))) ∧ (¬ (v 141 0) ≤ (v 141 12) → ((vp_in (v 141 12) 240) ∧ ((¬ (v 142 (v 141 12).toNatClampNeg) = 32 → (((v 141 0) ≤ (v 141 12) → (Q (some (.int (-1))) S v)) ∧ (¬ (v 141 0) ≤ (v 141 12) → ((vp_in (v 141 12) 240) ∧ (Q (some (.int (v 142 (v 141 12).toNatClampNeg))) S v))))) ∧ ((v 142 (v 141 12).toNatClampNeg) = 32 → (∀ v1, v1 = z_u v 141 12 ((v 141 12) + 1) → (z_J G d mX6_signAhead (0, [.ref 141], [], S, v1) Q))))))) :
    z_J G d mX6_signAhead (0, [.ref 141], [], S, v) Q := by
  refine zj_aload_n dX6_signAhead_0 rfl rfl ?_
  refine zj_getI (ci := 6) (j := 12) dX6_signAhead_1 wf_X6_53 (by decide) (by decide) (zk_141 hL) rfl ?_
  refine zj_aload_n dX6_signAhead_4 rfl rfl ?_
  refine zj_getI (ci := 6) (j := 0) dX6_signAhead_5 wf_X6_33 (by decide) (by decide) (zk_141 hL) rfl ?_
  refine zj_icmp_ge (tgt := 38) dX6_signAhead_8 (by decide) (fun c => ?_) (fun c => ?_)
  · replace h := h.1 c
    refine zj_aload_n dX6_signAhead_38 rfl rfl ?_
    refine zj_getI (ci := 6) (j := 12) dX6_signAhead_39 wf_X6_53 (by decide) (by decide) (zk_141 hL) rfl ?_
    refine zj_aload_n dX6_signAhead_42 rfl rfl ?_
    refine zj_getI (ci := 6) (j := 0) dX6_signAhead_43 wf_X6_33 (by decide) (by decide) (zk_141 hL) rfl ?_
    refine zj_icmp_ge (tgt := 61) dX6_signAhead_46 (by decide) (fun c => ?_) (fun c => ?_)
    · replace h := h.1 c
      refine zj_iconst (x := (-1)) dX6_signAhead_61 rfl ?_
      exact zj_iret dX6_signAhead_62 rfl rfl h
    · replace h := h.2 c
      refine zj_aload_n dX6_signAhead_49 rfl rfl ?_
      refine zj_getR (ci := 6) (j := 3) dX6_signAhead_50 wf_X6_9 (by decide) (by decide) (zk_141 hL) rfl (zr_141_3 hL) ?_
      refine zj_aload_n dX6_signAhead_53 rfl rfl ?_
      refine zj_getI (ci := 6) (j := 12) dX6_signAhead_54 wf_X6_53 (by decide) (by decide) (zk_141 hL) rfl ?_
      refine zj_iaload dX6_signAhead_57 (zk_142 hL) (by rw [(zl_142 hL)]; exact h.1) ?_
      replace h := h.2
      refine zj_goto (tgt := 62) dX6_signAhead_58 (by decide) ?_
      exact zj_iret dX6_signAhead_62 rfl rfl h
  · replace h := h.2 c
    refine zj_aload_n dX6_signAhead_11 rfl rfl ?_
    refine zj_getR (ci := 6) (j := 3) dX6_signAhead_12 wf_X6_9 (by decide) (by decide) (zk_141 hL) rfl (zr_141_3 hL) ?_
    refine zj_aload_n dX6_signAhead_15 rfl rfl ?_
    refine zj_getI (ci := 6) (j := 12) dX6_signAhead_16 wf_X6_53 (by decide) (by decide) (zk_141 hL) rfl ?_
    refine zj_iaload dX6_signAhead_19 (zk_142 hL) (by rw [(zl_142 hL)]; exact h.1) ?_
    replace h := h.2
    refine zj_bipush (x := 32) dX6_signAhead_20 rfl ?_
    refine zj_icmp_ne (tgt := 38) dX6_signAhead_22 (by decide) (fun c => ?_) (fun c => ?_)
    · replace h := h.1 c
      refine zj_aload_n dX6_signAhead_38 rfl rfl ?_
      refine zj_getI (ci := 6) (j := 12) dX6_signAhead_39 wf_X6_53 (by decide) (by decide) (zk_141 hL) rfl ?_
      refine zj_aload_n dX6_signAhead_42 rfl rfl ?_
      refine zj_getI (ci := 6) (j := 0) dX6_signAhead_43 wf_X6_33 (by decide) (by decide) (zk_141 hL) rfl ?_
      refine zj_icmp_ge (tgt := 61) dX6_signAhead_46 (by decide) (fun c => ?_) (fun c => ?_)
      · replace h := h.1 c
        refine zj_iconst (x := (-1)) dX6_signAhead_61 rfl ?_
        exact zj_iret dX6_signAhead_62 rfl rfl h
      · replace h := h.2 c
        refine zj_aload_n dX6_signAhead_49 rfl rfl ?_
        refine zj_getR (ci := 6) (j := 3) dX6_signAhead_50 wf_X6_9 (by decide) (by decide) (zk_141 hL) rfl (zr_141_3 hL) ?_
        refine zj_aload_n dX6_signAhead_53 rfl rfl ?_
        refine zj_getI (ci := 6) (j := 12) dX6_signAhead_54 wf_X6_53 (by decide) (by decide) (zk_141 hL) rfl ?_
        refine zj_iaload dX6_signAhead_57 (zk_142 hL) (by rw [(zl_142 hL)]; exact h.1) ?_
        replace h := h.2
        refine zj_goto (tgt := 62) dX6_signAhead_58 (by decide) ?_
        exact zj_iret dX6_signAhead_62 rfl rfl h
    · replace h := h.2 c
      refine zj_aload_n dX6_signAhead_25 rfl rfl ?_
      refine zj_dup dX6_signAhead_26 rfl ?_
      refine zj_getI (ci := 6) (j := 12) dX6_signAhead_27 wf_X6_53 (by decide) (by decide) (zk_141 hL) rfl ?_
      refine zj_iconst (x := 1) dX6_signAhead_30 rfl ?_
      refine zj_iadd dX6_signAhead_31 ?_
      refine zj_putI (ci := 6) (j := 12) dX6_signAhead_32 wf_X6_53 (by decide) (by decide) (zk_141 hL) rfl rfl rfl rfl (fun v1 ev1 => ?_)
      replace h := h v1 ev1
      refine zj_goto (tgt := 0) dX6_signAhead_35 (by decide) ?_
      exact h
theorem sg_X7_drawChecks_0 {G : z_G} {d : Nat} {S : z_Shp} {v : z_Dat} {Q : Option Value → z_Shp → z_Dat → Prop} {x1 : Nat} {x2 : Int32} {x3 : Int32} (hL : z_L S) (hx1 : z_isF x1)
    (h : z_J G d mX0_loudOnes (0, [.ref x1, .int x2, .null, .null], [], S, v) (fun r S1 v1 => ∃ y1 : Int32, r = some (.int y1) ∧ S1 = S ∧ (z_J G (d + 1) mX7_drawChecks (10, [.ref 198, .ref x1, .int x2, .int x3, .int y1, .int 0, .null, .null], [], S, v1) Q))) :
    z_J G (d + 1) mX7_drawChecks (0, [.ref 198, .ref x1, .int x2, .int x3, .null, .null, .null, .null], [], S, v) Q := by
  refine zj_aload_n dX7_drawChecks_0 rfl rfl ?_
  refine zj_iload_n dX7_drawChecks_1 rfl rfl ?_
  refine zj_callV (M' := mX0_loudOnes) (avs := [.int x2]) (st := []) (ci := 0) dX7_drawChecks_2 wm_X0_loudOnes wl_X7_95 wi_X0_loudOnes ws_X0_loudOnes (by decide) (zFk0 hL hx1) rfl rfl (by decide) rfl (Nat.le_of_ble_eq_true rfl) (Nat.le_of_ble_eq_true rfl) ⟨Or.inl (z_k0 (zk_198 hL)), Or.inl (z_k0 (zFk0 hL hx1)), trivial⟩ trivial (z_J.mono h (fun r S1 v1 hq => ?_))
  obtain ⟨y1, rfl, rfl, h⟩ := hq
  refine zj_istore (ls2 := [.ref 198, .ref x1, .int x2, .int x3, .int y1, .null, .null, .null]) dX7_drawChecks_5 (by decide) rfl rfl ?_
  refine zj_iconst (x := 0) dX7_drawChecks_7 rfl ?_
  refine zj_istore (ls2 := [.ref 198, .ref x1, .int x2, .int x3, .int y1, .int 0, .null, .null]) dX7_drawChecks_8 (by decide) rfl rfl ?_
  exact h
theorem sg_X7_drawChecks_10 {G : z_G} {d : Nat} {S : z_Shp} {v : z_Dat} {Q : Option Value → z_Shp → z_Dat → Prop} {x2 : Int32} {x3 : Int32} {x4 : Int32} {x5 : Int32} {x1 : Nat} {w_x1 : Nat} (hL : z_L S) (hx1 : z_isF x1) (rw_x1 : z_r S x1 0 = some w_x1) (hw_x1 : z_isW w_x1)
    (h : ((v w_x1 2) ≤ x5 → (Q none S v)) ∧ (¬ (v w_x1 2) ≤ x5 → ((vp_in x2 2) ∧ ((vp_in x5 12) ∧ ((¬ (v (w_x1 + 2 + x2.toNatClampNeg) x5.toNatClampNeg) = x3 → (z_J G d mX7_drawChecks (10, [.ref 198, .ref x1, .int x2, .int x3, .int x4, .int (x5 + 1), .null, .null], [], S, v) Q)) ∧ ((v (w_x1 + 2 + x2.toNatClampNeg) x5.toNatClampNeg) = x3 → ((¬ ((x4 >>> (x5 &&& 31)) &&& 1) = 1 → ((¬ x2 = 0 → ((vp_in x2 2) ∧ ((vp_in x5 12) ∧ (vp_in ((2 : Int32) * (v (w_x1 + 5 + x2.toNatClampNeg) x5.toNatClampNeg)) 11 ∧ (∀ v1, v1 = z_u v 202 ((2 : Int32) * (v (w_x1 + 5 + x2.toNatClampNeg) x5.toNatClampNeg)).toNatClampNeg 112 → (z_J G d mX7_drawChecks (10, [.ref 198, .ref x1, .int x2, .int x3, .int x4, .int (x5 + 1), .null, .null], [], S, v1) Q)))))) ∧ (x2 = 0 → ((vp_in x2 2) ∧ ((vp_in x5 12) ∧ (vp_in ((2 : Int32) * (v (w_x1 + 5 + x2.toNatClampNeg) x5.toNatClampNeg)) 11 ∧ (∀ v2, v2 = z_u v 202 ((2 : Int32) * (v (w_x1 + 5 + x2.toNatClampNeg) x5.toNatClampNeg)).toNatClampNeg 98 → (z_J G d mX7_drawChecks (10, [.ref 198, .ref x1, .int x2, .int x3, .int x4, .int (x5 + 1), .null, .null], [], S, v2) Q)))))))) ∧ (((x4 >>> (x5 &&& 31)) &&& 1) = 1 → ((¬ x2 = 0 → ((vp_in x2 2) ∧ ((vp_in x5 12) ∧ (vp_in ((2 : Int32) * (v (w_x1 + 5 + x2.toNatClampNeg) x5.toNatClampNeg)) 11 ∧ (∀ v3, v3 = z_u v 202 ((2 : Int32) * (v (w_x1 + 5 + x2.toNatClampNeg) x5.toNatClampNeg)).toNatClampNeg (((112 : Int32) - 97) + 65) → (z_J G d mX7_drawChecks (10, [.ref 198, .ref x1, .int x2, .int x3, .int x4, .int (x5 + 1), .null, .null], [], S, v3) Q)))))) ∧ (x2 = 0 → ((vp_in x2 2) ∧ ((vp_in x5 12) ∧ (vp_in ((2 : Int32) * (v (w_x1 + 5 + x2.toNatClampNeg) x5.toNatClampNeg)) 11 ∧ (∀ v4, v4 = z_u v 202 ((2 : Int32) * (v (w_x1 + 5 + x2.toNatClampNeg) x5.toNatClampNeg)).toNatClampNeg (((98 : Int32) - 97) + 65) → (z_J G d mX7_drawChecks (10, [.ref 198, .ref x1, .int x2, .int x3, .int x4, .int (x5 + 1), .null, .null], [], S, v4) Q))))))))))))))) :
    z_J G d mX7_drawChecks (10, [.ref 198, .ref x1, .int x2, .int x3, .int x4, .int x5, .null, .null], [], S, v) Q := by
  refine zj_iload dX7_drawChecks_10 rfl ?_
  refine zj_aload_n dX7_drawChecks_12 rfl rfl ?_
  refine zj_getR (ci := 0) (j := 0) dX7_drawChecks_13 wf_X7_67 (by decide) (by decide) (zFk0 hL hx1) rfl rw_x1 ?_
  refine zj_getI (ci := 9) (j := 2) dX7_drawChecks_16 wf_X7_99 (by decide) (by decide) (zWk0 hL hw_x1) rfl ?_
  refine zj_icmp_ge (tgt := 112) dX7_drawChecks_19 (by decide) (fun c => ?_) (fun c => ?_)
  · replace h := h.1 c
    exact zj_vret dX7_drawChecks_112 rfl h
  · replace h := h.2 c
    refine zj_aload_n dX7_drawChecks_22 rfl rfl ?_
    refine zj_getR (ci := 0) (j := 0) dX7_drawChecks_23 wf_X7_67 (by decide) (by decide) (zFk0 hL hx1) rfl rw_x1 ?_
    refine zj_getR (ci := 9) (j := 3) dX7_drawChecks_26 wf_X7_102 (by decide) (by decide) (zWk0 hL hw_x1) rfl (zWr0_3 hL hw_x1) ?_
    refine zj_iload_n dX7_drawChecks_29 rfl rfl ?_
    obtain ⟨hi1, h⟩ := h
    refine zj_aaload0 dX7_drawChecks_30 (zWk1 hL hw_x1) (by rw [(zWl1 hL hw_x1)]; exact hi1) (zWg1r hL hw_x1 hi1) ?_
    refine zj_iload dX7_drawChecks_31 rfl ?_
    refine zj_iaload dX7_drawChecks_33 (zWg1k hL hw_x1 hi1) (by rw [(zWg1l hL hw_x1 hi1)]; exact h.1) ?_
    replace h := h.2
    refine zj_iload_n dX7_drawChecks_34 rfl rfl ?_
    refine zj_icmp_ne (tgt := 106) dX7_drawChecks_35 (by decide) (fun c => ?_) (fun c => ?_)
    · replace h := h.1 c
      refine zj_iinc (y := x5 + 1) (ls2 := [.ref 198, .ref x1, .int x2, .int x3, .int x4, .int (x5 + 1), .null, .null]) dX7_drawChecks_106 rfl rfl (by decide) rfl rfl ?_
      refine zj_goto (tgt := 10) dX7_drawChecks_109 (by decide) ?_
      exact h
    · replace h := h.2 c
      refine zj_iload dX7_drawChecks_38 rfl ?_
      refine zj_iload dX7_drawChecks_40 rfl ?_
      refine zj_ishr dX7_drawChecks_42 ?_
      refine zj_iconst (x := 1) dX7_drawChecks_43 rfl ?_
      refine zj_iand dX7_drawChecks_44 ?_
      refine zj_iconst (x := 1) dX7_drawChecks_45 rfl ?_
      refine zj_icmp_ne (tgt := 53) dX7_drawChecks_46 (by decide) (fun c => ?_) (fun c => ?_)
      · replace h := h.1 c
        refine zj_iconst (x := 0) dX7_drawChecks_53 rfl ?_
        refine zj_istore (ls2 := [.ref 198, .ref x1, .int x2, .int x3, .int x4, .int x5, .int 0, .null]) dX7_drawChecks_54 (by decide) rfl rfl ?_
        refine zj_iload_n dX7_drawChecks_56 rfl rfl ?_
        refine zj_if_ne (tgt := 65) dX7_drawChecks_57 (by decide) (fun c => ?_) (fun c => ?_)
        · replace h := h.1 c
          refine zj_bipush (x := 112) dX7_drawChecks_65 rfl ?_
          refine zj_istore (ls2 := [.ref 198, .ref x1, .int x2, .int x3, .int x4, .int x5, .int 0, .int 112]) dX7_drawChecks_67 (by decide) rfl rfl ?_
          refine zj_aload_n dX7_drawChecks_69 rfl rfl ?_
          refine zj_getR (ci := 7) (j := 7) dX7_drawChecks_70 wf_X7_21 (by decide) (by decide) (zk_198 hL) rfl (zr_198_7 hL) ?_
          refine zj_iconst (x := 2) dX7_drawChecks_73 rfl ?_
          refine zj_aload_n dX7_drawChecks_74 rfl rfl ?_
          refine zj_getR (ci := 0) (j := 0) dX7_drawChecks_75 wf_X7_67 (by decide) (by decide) (zFk0 hL hx1) rfl rw_x1 ?_
          refine zj_getR (ci := 9) (j := 4) dX7_drawChecks_78 wf_X7_106 (by decide) (by decide) (zWk0 hL hw_x1) rfl (zWr0_4 hL hw_x1) ?_
          refine zj_iload_n dX7_drawChecks_81 rfl rfl ?_
          obtain ⟨hi2, h⟩ := h
          refine zj_aaload0 dX7_drawChecks_82 (zWk4 hL hw_x1) (by rw [(zWl4 hL hw_x1)]; exact hi2) (zWg4r hL hw_x1 hi2) ?_
          refine zj_iload dX7_drawChecks_83 rfl ?_
          refine zj_iaload dX7_drawChecks_85 (zWg4k hL hw_x1 hi2) (by rw [(zWg4l hL hw_x1 hi2)]; exact h.1) ?_
          replace h := h.2
          refine zj_imul dX7_drawChecks_86 ?_
          refine zj_iload dX7_drawChecks_87 rfl ?_
          refine zj_if_eq (tgt := 103) dX7_drawChecks_89 (by decide) (fun _ => ?_) (fun q => absurd (by decide) q)
          refine zj_iload dX7_drawChecks_103 rfl ?_
          refine zj_iastore dX7_drawChecks_105 (zk_202 hL) (by rw [(zl_202 hL)]; exact h.1) (fun v1 ev1 => ?_)
          replace h := h.2 v1 ev1
          refine zj_iinc (y := x5 + 1) (ls2 := [.ref 198, .ref x1, .int x2, .int x3, .int x4, .int (x5 + 1), .int 0, .int 112]) dX7_drawChecks_106 rfl rfl (by decide) rfl rfl ?_
          refine zj_goto (tgt := 10) dX7_drawChecks_109 (by decide) ?_
          refine zj_forget (ls2 := [.ref 198, .ref x1, .int x2, .int x3, .int x4, .int (x5 + 1), .null, .null]) ⟨Or.inr rfl, Or.inr rfl, Or.inr rfl, Or.inr rfl, Or.inr rfl, Or.inr rfl, Or.inl rfl, Or.inl rfl, trivial⟩ ?_
          exact h
        · replace h := h.2 c
          refine zj_bipush (x := 98) dX7_drawChecks_60 rfl ?_
          refine zj_goto (tgt := 67) dX7_drawChecks_62 (by decide) ?_
          refine zj_istore (ls2 := [.ref 198, .ref x1, .int x2, .int x3, .int x4, .int x5, .int 0, .int 98]) dX7_drawChecks_67 (by decide) rfl rfl ?_
          refine zj_aload_n dX7_drawChecks_69 rfl rfl ?_
          refine zj_getR (ci := 7) (j := 7) dX7_drawChecks_70 wf_X7_21 (by decide) (by decide) (zk_198 hL) rfl (zr_198_7 hL) ?_
          refine zj_iconst (x := 2) dX7_drawChecks_73 rfl ?_
          refine zj_aload_n dX7_drawChecks_74 rfl rfl ?_
          refine zj_getR (ci := 0) (j := 0) dX7_drawChecks_75 wf_X7_67 (by decide) (by decide) (zFk0 hL hx1) rfl rw_x1 ?_
          refine zj_getR (ci := 9) (j := 4) dX7_drawChecks_78 wf_X7_106 (by decide) (by decide) (zWk0 hL hw_x1) rfl (zWr0_4 hL hw_x1) ?_
          refine zj_iload_n dX7_drawChecks_81 rfl rfl ?_
          obtain ⟨hi3, h⟩ := h
          refine zj_aaload0 dX7_drawChecks_82 (zWk4 hL hw_x1) (by rw [(zWl4 hL hw_x1)]; exact hi3) (zWg4r hL hw_x1 hi3) ?_
          refine zj_iload dX7_drawChecks_83 rfl ?_
          refine zj_iaload dX7_drawChecks_85 (zWg4k hL hw_x1 hi3) (by rw [(zWg4l hL hw_x1 hi3)]; exact h.1) ?_
          replace h := h.2
          refine zj_imul dX7_drawChecks_86 ?_
          refine zj_iload dX7_drawChecks_87 rfl ?_
          refine zj_if_eq (tgt := 103) dX7_drawChecks_89 (by decide) (fun _ => ?_) (fun q => absurd (by decide) q)
          refine zj_iload dX7_drawChecks_103 rfl ?_
          refine zj_iastore dX7_drawChecks_105 (zk_202 hL) (by rw [(zl_202 hL)]; exact h.1) (fun v2 ev2 => ?_)
          replace h := h.2 v2 ev2
          refine zj_iinc (y := x5 + 1) (ls2 := [.ref 198, .ref x1, .int x2, .int x3, .int x4, .int (x5 + 1), .int 0, .int 98]) dX7_drawChecks_106 rfl rfl (by decide) rfl rfl ?_
          refine zj_goto (tgt := 10) dX7_drawChecks_109 (by decide) ?_
          refine zj_forget (ls2 := [.ref 198, .ref x1, .int x2, .int x3, .int x4, .int (x5 + 1), .null, .null]) ⟨Or.inr rfl, Or.inr rfl, Or.inr rfl, Or.inr rfl, Or.inr rfl, Or.inr rfl, Or.inl rfl, Or.inl rfl, trivial⟩ ?_
          exact h
      · replace h := h.2 c
        refine zj_iconst (x := 1) dX7_drawChecks_49 rfl ?_
        refine zj_goto (tgt := 54) dX7_drawChecks_50 (by decide) ?_
        refine zj_istore (ls2 := [.ref 198, .ref x1, .int x2, .int x3, .int x4, .int x5, .int 1, .null]) dX7_drawChecks_54 (by decide) rfl rfl ?_
        refine zj_iload_n dX7_drawChecks_56 rfl rfl ?_
        refine zj_if_ne (tgt := 65) dX7_drawChecks_57 (by decide) (fun c => ?_) (fun c => ?_)
        · replace h := h.1 c
          refine zj_bipush (x := 112) dX7_drawChecks_65 rfl ?_
          refine zj_istore (ls2 := [.ref 198, .ref x1, .int x2, .int x3, .int x4, .int x5, .int 1, .int 112]) dX7_drawChecks_67 (by decide) rfl rfl ?_
          refine zj_aload_n dX7_drawChecks_69 rfl rfl ?_
          refine zj_getR (ci := 7) (j := 7) dX7_drawChecks_70 wf_X7_21 (by decide) (by decide) (zk_198 hL) rfl (zr_198_7 hL) ?_
          refine zj_iconst (x := 2) dX7_drawChecks_73 rfl ?_
          refine zj_aload_n dX7_drawChecks_74 rfl rfl ?_
          refine zj_getR (ci := 0) (j := 0) dX7_drawChecks_75 wf_X7_67 (by decide) (by decide) (zFk0 hL hx1) rfl rw_x1 ?_
          refine zj_getR (ci := 9) (j := 4) dX7_drawChecks_78 wf_X7_106 (by decide) (by decide) (zWk0 hL hw_x1) rfl (zWr0_4 hL hw_x1) ?_
          refine zj_iload_n dX7_drawChecks_81 rfl rfl ?_
          obtain ⟨hi4, h⟩ := h
          refine zj_aaload0 dX7_drawChecks_82 (zWk4 hL hw_x1) (by rw [(zWl4 hL hw_x1)]; exact hi4) (zWg4r hL hw_x1 hi4) ?_
          refine zj_iload dX7_drawChecks_83 rfl ?_
          refine zj_iaload dX7_drawChecks_85 (zWg4k hL hw_x1 hi4) (by rw [(zWg4l hL hw_x1 hi4)]; exact h.1) ?_
          replace h := h.2
          refine zj_imul dX7_drawChecks_86 ?_
          refine zj_iload dX7_drawChecks_87 rfl ?_
          refine zj_if_eq (tgt := 103) dX7_drawChecks_89 (by decide) (fun q => absurd q (by decide)) (fun _ => ?_)
          refine zj_iload dX7_drawChecks_92 rfl ?_
          refine zj_bipush (x := 97) dX7_drawChecks_94 rfl ?_
          refine zj_isub dX7_drawChecks_96 ?_
          refine zj_bipush (x := 65) dX7_drawChecks_97 rfl ?_
          refine zj_iadd dX7_drawChecks_99 ?_
          refine zj_goto (tgt := 105) dX7_drawChecks_100 (by decide) ?_
          refine zj_iastore dX7_drawChecks_105 (zk_202 hL) (by rw [(zl_202 hL)]; exact h.1) (fun v3 ev3 => ?_)
          replace h := h.2 v3 ev3
          refine zj_iinc (y := x5 + 1) (ls2 := [.ref 198, .ref x1, .int x2, .int x3, .int x4, .int (x5 + 1), .int 1, .int 112]) dX7_drawChecks_106 rfl rfl (by decide) rfl rfl ?_
          refine zj_goto (tgt := 10) dX7_drawChecks_109 (by decide) ?_
          refine zj_forget (ls2 := [.ref 198, .ref x1, .int x2, .int x3, .int x4, .int (x5 + 1), .null, .null]) ⟨Or.inr rfl, Or.inr rfl, Or.inr rfl, Or.inr rfl, Or.inr rfl, Or.inr rfl, Or.inl rfl, Or.inl rfl, trivial⟩ ?_
          exact h
        · replace h := h.2 c
          refine zj_bipush (x := 98) dX7_drawChecks_60 rfl ?_
          refine zj_goto (tgt := 67) dX7_drawChecks_62 (by decide) ?_
          refine zj_istore (ls2 := [.ref 198, .ref x1, .int x2, .int x3, .int x4, .int x5, .int 1, .int 98]) dX7_drawChecks_67 (by decide) rfl rfl ?_
          refine zj_aload_n dX7_drawChecks_69 rfl rfl ?_
          refine zj_getR (ci := 7) (j := 7) dX7_drawChecks_70 wf_X7_21 (by decide) (by decide) (zk_198 hL) rfl (zr_198_7 hL) ?_
          refine zj_iconst (x := 2) dX7_drawChecks_73 rfl ?_
          refine zj_aload_n dX7_drawChecks_74 rfl rfl ?_
          refine zj_getR (ci := 0) (j := 0) dX7_drawChecks_75 wf_X7_67 (by decide) (by decide) (zFk0 hL hx1) rfl rw_x1 ?_
          refine zj_getR (ci := 9) (j := 4) dX7_drawChecks_78 wf_X7_106 (by decide) (by decide) (zWk0 hL hw_x1) rfl (zWr0_4 hL hw_x1) ?_
          refine zj_iload_n dX7_drawChecks_81 rfl rfl ?_
          obtain ⟨hi5, h⟩ := h
          refine zj_aaload0 dX7_drawChecks_82 (zWk4 hL hw_x1) (by rw [(zWl4 hL hw_x1)]; exact hi5) (zWg4r hL hw_x1 hi5) ?_
          refine zj_iload dX7_drawChecks_83 rfl ?_
          refine zj_iaload dX7_drawChecks_85 (zWg4k hL hw_x1 hi5) (by rw [(zWg4l hL hw_x1 hi5)]; exact h.1) ?_
          replace h := h.2
          refine zj_imul dX7_drawChecks_86 ?_
          refine zj_iload dX7_drawChecks_87 rfl ?_
          refine zj_if_eq (tgt := 103) dX7_drawChecks_89 (by decide) (fun q => absurd q (by decide)) (fun _ => ?_)
          refine zj_iload dX7_drawChecks_92 rfl ?_
          refine zj_bipush (x := 97) dX7_drawChecks_94 rfl ?_
          refine zj_isub dX7_drawChecks_96 ?_
          refine zj_bipush (x := 65) dX7_drawChecks_97 rfl ?_
          refine zj_iadd dX7_drawChecks_99 ?_
          refine zj_goto (tgt := 105) dX7_drawChecks_100 (by decide) ?_
          refine zj_iastore dX7_drawChecks_105 (zk_202 hL) (by rw [(zl_202 hL)]; exact h.1) (fun v4 ev4 => ?_)
          replace h := h.2 v4 ev4
          refine zj_iinc (y := x5 + 1) (ls2 := [.ref 198, .ref x1, .int x2, .int x3, .int x4, .int (x5 + 1), .int 1, .int 98]) dX7_drawChecks_106 rfl rfl (by decide) rfl rfl ?_
          refine zj_goto (tgt := 10) dX7_drawChecks_109 (by decide) ?_
          refine zj_forget (ls2 := [.ref 198, .ref x1, .int x2, .int x3, .int x4, .int (x5 + 1), .null, .null]) ⟨Or.inr rfl, Or.inr rfl, Or.inr rfl, Or.inr rfl, Or.inr rfl, Or.inr rfl, Or.inl rfl, Or.inl rfl, trivial⟩ ?_
          exact h
theorem sg_X7_drawLine_0 {G : z_G} {d : Nat} {S : z_Shp} {v : z_Dat} {Q : Option Value → z_Shp → z_Dat → Prop} {x1 : Nat} {x2 : Int32} {w_x1 : Nat} (hL : z_L S) (hx1 : z_isF x1) (rw_x1 : z_r S x1 0 = some w_x1) (hw_x1 : z_isW w_x1)
    (h : ∀ v1, v1 = z_u v 198 6 (((2 : Int32) * (v w_x1 0)) + 1) → (z_J G d mJ7_fill_53178 (0, [.ref 202, .int 32, .null, .null], [], S, v1) (fun r S1 v2 => r = none ∧ S1 = S ∧ ((¬ (x2 - x2 / 2 * 2) = 0 → (z_J G d mX7_drawQubits (0, [.ref 198, .ref x1, .int (x2 / 2), .null, .null, .null, .null, .null], [], S, v2) (fun r S1 v3 => r = none ∧ S1 = S ∧ (Q none S v3)))) ∧ ((x2 - x2 / 2 * 2) = 0 → (z_J G d mX7_drawChecks (0, [.ref 198, .ref x1, .int 0, .int (x2 / 2), .null, .null, .null, .null], [], S, v2) (fun r S1 v4 => r = none ∧ S1 = S ∧ (z_J G d mX7_drawChecks (0, [.ref 198, .ref x1, .int 1, .int (x2 / 2), .null, .null, .null, .null], [], S, v4) (fun r S1 v5 => r = none ∧ S1 = S ∧ (Q none S v5)))))))))) :
    z_J G (d + 1) mX7_drawLine (0, [.ref 198, .ref x1, .int x2], [], S, v) Q := by
  refine zj_aload_n dX7_drawLine_0 rfl rfl ?_
  refine zj_iconst (x := 2) dX7_drawLine_1 rfl ?_
  refine zj_aload_n dX7_drawLine_2 rfl rfl ?_
  refine zj_getR (ci := 0) (j := 0) dX7_drawLine_3 wf_X7_67 (by decide) (by decide) (zFk0 hL hx1) rfl rw_x1 ?_
  refine zj_getI (ci := 9) (j := 0) dX7_drawLine_6 wf_X7_73 (by decide) (by decide) (zWk0 hL hw_x1) rfl ?_
  refine zj_imul dX7_drawLine_9 ?_
  refine zj_iconst (x := 1) dX7_drawLine_10 rfl ?_
  refine zj_iadd dX7_drawLine_11 ?_
  refine zj_putI (ci := 7) (j := 6) dX7_drawLine_12 wf_X7_78 (by decide) (by decide) (zk_198 hL) rfl rfl rfl rfl (fun v1 ev1 => ?_)
  replace h := h v1 ev1
  refine zj_aload_n dX7_drawLine_15 rfl rfl ?_
  refine zj_getR (ci := 7) (j := 7) dX7_drawLine_16 wf_X7_21 (by decide) (by decide) (zk_198 hL) rfl (zr_198_7 hL) ?_
  refine zj_bipush (x := 32) dX7_drawLine_19 rfl ?_
  refine zj_callS (M' := mJ7_fill_53178) (avs := [.ref 202, .int 32]) (st := []) dX7_drawLine_21 wm_J7_fill_53178 wl_X7_81 wt_J7_fill_53178 rfl (by decide) rfl (Nat.le_of_ble_eq_true rfl) (Nat.le_of_ble_eq_true rfl) ⟨Or.inl (z_k0 (zk_198 hL)), Or.inl (z_k0 (zFk0 hL hx1)), trivial⟩ trivial (z_J.mono h (fun r S1 v2 hq => ?_))
  obtain ⟨rfl, rfl, h⟩ := hq
  refine zj_iload_n dX7_drawLine_24 rfl rfl ?_
  refine zj_iconst (x := 2) dX7_drawLine_25 rfl ?_
  refine zj_irem dX7_drawLine_26 (by decide) ?_
  refine zj_if_ne (tgt := 51) dX7_drawLine_27 (by decide) (fun c => ?_) (fun c => ?_)
  · replace h := h.1 c
    refine zj_aload_n dX7_drawLine_51 rfl rfl ?_
    refine zj_aload_n dX7_drawLine_52 rfl rfl ?_
    refine zj_iload_n dX7_drawLine_53 rfl rfl ?_
    refine zj_iconst (x := 2) dX7_drawLine_54 rfl ?_
    refine zj_idiv dX7_drawLine_55 (by decide) ?_
    refine zj_callV (M' := mX7_drawQubits) (avs := [.ref x1, .int (x2 / 2)]) (st := []) (ci := 7) dX7_drawLine_56 wm_X7_drawQubits wl_X7_91 wi_X7_drawQubits ws_X7_drawQubits (by decide) (zk_198 hL) rfl rfl (by decide) rfl (Nat.le_of_ble_eq_true rfl) (Nat.le_of_ble_eq_true rfl) ⟨Or.inl (z_k0 (zk_198 hL)), Or.inl (z_k0 (zFk0 hL hx1)), trivial⟩ trivial (z_J.mono h (fun r S1 v3 hq => ?_))
    obtain ⟨rfl, rfl, h⟩ := hq
    exact zj_vret dX7_drawLine_59 rfl h
  · replace h := h.2 c
    refine zj_aload_n dX7_drawLine_30 rfl rfl ?_
    refine zj_aload_n dX7_drawLine_31 rfl rfl ?_
    refine zj_iconst (x := 0) dX7_drawLine_32 rfl ?_
    refine zj_iload_n dX7_drawLine_33 rfl rfl ?_
    refine zj_iconst (x := 2) dX7_drawLine_34 rfl ?_
    refine zj_idiv dX7_drawLine_35 (by decide) ?_
    refine zj_callV (M' := mX7_drawChecks) (avs := [.ref x1, .int 0, .int (x2 / 2)]) (st := []) (ci := 7) dX7_drawLine_36 wm_X7_drawChecks wl_X7_87 wi_X7_drawChecks ws_X7_drawChecks (by decide) (zk_198 hL) rfl rfl (by decide) rfl (Nat.le_of_ble_eq_true rfl) (Nat.le_of_ble_eq_true rfl) ⟨Or.inl (z_k0 (zk_198 hL)), Or.inl (z_k0 (zFk0 hL hx1)), trivial⟩ trivial (z_J.mono h (fun r S1 v4 hq => ?_))
    obtain ⟨rfl, rfl, h⟩ := hq
    refine zj_aload_n dX7_drawLine_39 rfl rfl ?_
    refine zj_aload_n dX7_drawLine_40 rfl rfl ?_
    refine zj_iconst (x := 1) dX7_drawLine_41 rfl ?_
    refine zj_iload_n dX7_drawLine_42 rfl rfl ?_
    refine zj_iconst (x := 2) dX7_drawLine_43 rfl ?_
    refine zj_idiv dX7_drawLine_44 (by decide) ?_
    refine zj_callV (M' := mX7_drawChecks) (avs := [.ref x1, .int 1, .int (x2 / 2)]) (st := []) (ci := 7) dX7_drawLine_45 wm_X7_drawChecks wl_X7_87 wi_X7_drawChecks ws_X7_drawChecks (by decide) (zk_198 hL) rfl rfl (by decide) rfl (Nat.le_of_ble_eq_true rfl) (Nat.le_of_ble_eq_true rfl) ⟨Or.inl (z_k0 (zk_198 hL)), Or.inl (z_k0 (zFk0 hL hx1)), trivial⟩ trivial (z_J.mono h (fun r S1 v5 hq => ?_))
    obtain ⟨rfl, rfl, h⟩ := hq
    refine zj_goto (tgt := 59) dX7_drawLine_48 (by decide) ?_
    exact zj_vret dX7_drawLine_59 rfl h
theorem sg_X7_drawQubits_0 {G : z_G} {d : Nat} {S : z_Shp} {v : z_Dat} {Q : Option Value → z_Shp → z_Dat → Prop} {x1 : Nat} {x2 : Int32} (hx1 : z_isF x1)
    (h : z_J G d mX7_drawQubits (2, [.ref 198, .ref x1, .int x2, .int 0, .null, .null, .null, .null], [], S, v) Q) :
    z_J G d mX7_drawQubits (0, [.ref 198, .ref x1, .int x2, .null, .null, .null, .null, .null], [], S, v) Q := by
  refine zj_iconst (x := 0) dX7_drawQubits_0 rfl ?_
  refine zj_istore_n (ls2 := [.ref 198, .ref x1, .int x2, .int 0, .null, .null, .null, .null]) dX7_drawQubits_1 rfl (by decide) rfl rfl ?_
  exact h
theorem sg_X7_drawQubits_2 {G : z_G} {d : Nat} {S : z_Shp} {v : z_Dat} {Q : Option Value → z_Shp → z_Dat → Prop} {x2 : Int32} {x3 : Int32} {x1 : Nat} {w_x1 : Nat} (hL : z_L S) (hx1 : z_isF x1) (rw_x1 : z_r S x1 0 = some w_x1) (hw_x1 : z_isW w_x1)
    (h : ((v w_x1 0) ≤ x3 → (Q none S v)) ∧ (¬ (v w_x1 0) ≤ x3 → ((¬ (((v (x1 + 1) 0) >>> (((x2 * (v w_x1 0)) + x3) &&& 31)) &&& 1) = 1 → ((¬ (((v (x1 + 1) 1) >>> (((x2 * (v w_x1 0)) + x3) &&& 31)) &&& 1) = 1 → (vp_in (((2 : Int32) * x3) + 1) 11 ∧ (∀ v1, v1 = z_u v 202 (((2 : Int32) * x3) + 1).toNatClampNeg 46 → (z_J G d mX7_drawQubits (2, [.ref 198, .ref x1, .int x2, .int (x3 + 1), .null, .null, .null, .null], [], S, v1) Q)))) ∧ ((((v (x1 + 1) 1) >>> (((x2 * (v w_x1 0)) + x3) &&& 31)) &&& 1) = 1 → ((¬ (((v (x1 + 1) 0) >>> (((x2 * (v w_x1 0)) + x3) &&& 31)) &&& 1) = 1 → (vp_in (((2 : Int32) * x3) + 1) 11 ∧ (∀ v2, v2 = z_u v 202 (((2 : Int32) * x3) + 1).toNatClampNeg 45 → (z_J G d mX7_drawQubits (2, [.ref 198, .ref x1, .int x2, .int (x3 + 1), .null, .null, .null, .null], [], S, v2) Q)))) ∧ ((((v (x1 + 1) 0) >>> (((x2 * (v w_x1 0)) + x3) &&& 31)) &&& 1) = 1 → (vp_in (((2 : Int32) * x3) + 1) 11 ∧ (∀ v3, v3 = z_u v 202 (((2 : Int32) * x3) + 1).toNatClampNeg 42 → (z_J G d mX7_drawQubits (2, [.ref 198, .ref x1, .int x2, .int (x3 + 1), .null, .null, .null, .null], [], S, v3) Q)))))))) ∧ ((((v (x1 + 1) 0) >>> (((x2 * (v w_x1 0)) + x3) &&& 31)) &&& 1) = 1 → ((¬ (((v (x1 + 1) 1) >>> (((x2 * (v w_x1 0)) + x3) &&& 31)) &&& 1) = 1 → (vp_in (((2 : Int32) * x3) + 1) 11 ∧ (∀ v4, v4 = z_u v 202 (((2 : Int32) * x3) + 1).toNatClampNeg 43 → (z_J G d mX7_drawQubits (2, [.ref 198, .ref x1, .int x2, .int (x3 + 1), .null, .null, .null, .null], [], S, v4) Q)))) ∧ ((((v (x1 + 1) 1) >>> (((x2 * (v w_x1 0)) + x3) &&& 31)) &&& 1) = 1 → ((¬ (((v (x1 + 1) 0) >>> (((x2 * (v w_x1 0)) + x3) &&& 31)) &&& 1) = 1 → (vp_in (((2 : Int32) * x3) + 1) 11 ∧ (∀ v5, v5 = z_u v 202 (((2 : Int32) * x3) + 1).toNatClampNeg 45 → (z_J G d mX7_drawQubits (2, [.ref 198, .ref x1, .int x2, .int (x3 + 1), .null, .null, .null, .null], [], S, v5) Q)))) ∧ ((((v (x1 + 1) 0) >>> (((x2 * (v w_x1 0)) + x3) &&& 31)) &&& 1) = 1 → (vp_in (((2 : Int32) * x3) + 1) 11 ∧ (∀ v6, v6 = z_u v 202 (((2 : Int32) * x3) + 1).toNatClampNeg 42 → (z_J G d mX7_drawQubits (2, [.ref 198, .ref x1, .int x2, .int (x3 + 1), .null, .null, .null, .null], [], S, v6) Q))))))))))) :
    z_J G d mX7_drawQubits (2, [.ref 198, .ref x1, .int x2, .int x3, .null, .null, .null, .null], [], S, v) Q := by
  refine zj_iload_n dX7_drawQubits_2 rfl rfl ?_
  refine zj_aload_n dX7_drawQubits_3 rfl rfl ?_
  refine zj_getR (ci := 0) (j := 0) dX7_drawQubits_4 wf_X7_67 (by decide) (by decide) (zFk0 hL hx1) rfl rw_x1 ?_
  refine zj_getI (ci := 9) (j := 0) dX7_drawQubits_7 wf_X7_73 (by decide) (by decide) (zWk0 hL hw_x1) rfl ?_
  refine zj_icmp_ge (tgt := 106) dX7_drawQubits_10 (by decide) (fun c => ?_) (fun c => ?_)
  · replace h := h.1 c
    exact zj_vret dX7_drawQubits_106 rfl h
  · replace h := h.2 c
    refine zj_iload_n dX7_drawQubits_13 rfl rfl ?_
    refine zj_aload_n dX7_drawQubits_14 rfl rfl ?_
    refine zj_getR (ci := 0) (j := 0) dX7_drawQubits_15 wf_X7_67 (by decide) (by decide) (zFk0 hL hx1) rfl rw_x1 ?_
    refine zj_getI (ci := 9) (j := 0) dX7_drawQubits_18 wf_X7_73 (by decide) (by decide) (zWk0 hL hw_x1) rfl ?_
    refine zj_imul dX7_drawQubits_21 ?_
    refine zj_iload_n dX7_drawQubits_22 rfl rfl ?_
    refine zj_iadd dX7_drawQubits_23 ?_
    refine zj_istore (ls2 := [.ref 198, .ref x1, .int x2, .int x3, .int ((x2 * (v w_x1 0)) + x3), .null, .null, .null]) dX7_drawQubits_24 (by decide) rfl rfl ?_
    refine zj_aload_n dX7_drawQubits_26 rfl rfl ?_
    refine zj_getR (ci := 0) (j := 2) dX7_drawQubits_27 wf_X7_109 (by decide) (by decide) (zFk0 hL hx1) rfl (zFr0_2 hL hx1) ?_
    refine zj_iconst (x := 0) dX7_drawQubits_30 rfl ?_
    refine zj_iaload dX7_drawQubits_31 (zFk1 hL hx1) (by rw [(zFl1 hL hx1)]; exact z_vin (by decide)) ?_
    refine zj_iload dX7_drawQubits_32 rfl ?_
    refine zj_ishr dX7_drawQubits_34 ?_
    refine zj_iconst (x := 1) dX7_drawQubits_35 rfl ?_
    refine zj_iand dX7_drawQubits_36 ?_
    refine zj_istore (ls2 := [.ref 198, .ref x1, .int x2, .int x3, .int ((x2 * (v w_x1 0)) + x3), .int (((v (x1 + 1) 0) >>> (((x2 * (v w_x1 0)) + x3) &&& 31)) &&& 1), .null, .null]) dX7_drawQubits_37 (by decide) rfl rfl ?_
    refine zj_aload_n dX7_drawQubits_39 rfl rfl ?_
    refine zj_getR (ci := 0) (j := 2) dX7_drawQubits_40 wf_X7_109 (by decide) (by decide) (zFk0 hL hx1) rfl (zFr0_2 hL hx1) ?_
    refine zj_iconst (x := 1) dX7_drawQubits_43 rfl ?_
    refine zj_iaload dX7_drawQubits_44 (zFk1 hL hx1) (by rw [(zFl1 hL hx1)]; exact z_vin (by decide)) ?_
    refine zj_iload dX7_drawQubits_45 rfl ?_
    refine zj_ishr dX7_drawQubits_47 ?_
    refine zj_iconst (x := 1) dX7_drawQubits_48 rfl ?_
    refine zj_iand dX7_drawQubits_49 ?_
    refine zj_istore (ls2 := [.ref 198, .ref x1, .int x2, .int x3, .int ((x2 * (v w_x1 0)) + x3), .int (((v (x1 + 1) 0) >>> (((x2 * (v w_x1 0)) + x3) &&& 31)) &&& 1), .int (((v (x1 + 1) 1) >>> (((x2 * (v w_x1 0)) + x3) &&& 31)) &&& 1), .null]) dX7_drawQubits_50 (by decide) rfl rfl ?_
    refine zj_iload dX7_drawQubits_52 rfl ?_
    refine zj_iconst (x := 1) dX7_drawQubits_54 rfl ?_
    refine zj_icmp_ne (tgt := 63) dX7_drawQubits_55 (by decide) (fun c => ?_) (fun c => ?_)
    · replace h := h.1 c
      refine zj_bipush (x := 46) dX7_drawQubits_63 rfl ?_
      refine zj_istore (ls2 := [.ref 198, .ref x1, .int x2, .int x3, .int ((x2 * (v w_x1 0)) + x3), .int (((v (x1 + 1) 0) >>> (((x2 * (v w_x1 0)) + x3) &&& 31)) &&& 1), .int (((v (x1 + 1) 1) >>> (((x2 * (v w_x1 0)) + x3) &&& 31)) &&& 1), .int 46]) dX7_drawQubits_65 (by decide) rfl rfl ?_
      refine zj_iload dX7_drawQubits_67 rfl ?_
      refine zj_iconst (x := 1) dX7_drawQubits_69 rfl ?_
      refine zj_icmp_ne (tgt := 88) dX7_drawQubits_70 (by decide) (fun c => ?_) (fun c => ?_)
      · replace h := h.1 c
        refine zj_aload_n dX7_drawQubits_88 rfl rfl ?_
        refine zj_getR (ci := 7) (j := 7) dX7_drawQubits_89 wf_X7_21 (by decide) (by decide) (zk_198 hL) rfl (zr_198_7 hL) ?_
        refine zj_iconst (x := 2) dX7_drawQubits_92 rfl ?_
        refine zj_iload_n dX7_drawQubits_93 rfl rfl ?_
        refine zj_imul dX7_drawQubits_94 ?_
        refine zj_iconst (x := 1) dX7_drawQubits_95 rfl ?_
        refine zj_iadd dX7_drawQubits_96 ?_
        refine zj_iload dX7_drawQubits_97 rfl ?_
        refine zj_iastore dX7_drawQubits_99 (zk_202 hL) (by rw [(zl_202 hL)]; exact h.1) (fun v1 ev1 => ?_)
        replace h := h.2 v1 ev1
        refine zj_iinc (y := x3 + 1) (ls2 := [.ref 198, .ref x1, .int x2, .int (x3 + 1), .int ((x2 * (v w_x1 0)) + x3), .int (((v (x1 + 1) 0) >>> (((x2 * (v w_x1 0)) + x3) &&& 31)) &&& 1), .int (((v (x1 + 1) 1) >>> (((x2 * (v w_x1 0)) + x3) &&& 31)) &&& 1), .int 46]) dX7_drawQubits_100 rfl rfl (by decide) rfl rfl ?_
        refine zj_goto (tgt := 2) dX7_drawQubits_103 (by decide) ?_
        refine zj_forget (ls2 := [.ref 198, .ref x1, .int x2, .int (x3 + 1), .null, .null, .null, .null]) ⟨Or.inr rfl, Or.inr rfl, Or.inr rfl, Or.inr rfl, Or.inl rfl, Or.inl rfl, Or.inl rfl, Or.inl rfl, trivial⟩ ?_
        exact h
      · replace h := h.2 c
        refine zj_iload dX7_drawQubits_73 rfl ?_
        refine zj_iconst (x := 1) dX7_drawQubits_75 rfl ?_
        refine zj_icmp_ne (tgt := 84) dX7_drawQubits_76 (by decide) (fun c => ?_) (fun c => ?_)
        · replace h := h.1 c
          refine zj_bipush (x := 45) dX7_drawQubits_84 rfl ?_
          refine zj_istore (ls2 := [.ref 198, .ref x1, .int x2, .int x3, .int ((x2 * (v w_x1 0)) + x3), .int (((v (x1 + 1) 0) >>> (((x2 * (v w_x1 0)) + x3) &&& 31)) &&& 1), .int (((v (x1 + 1) 1) >>> (((x2 * (v w_x1 0)) + x3) &&& 31)) &&& 1), .int 45]) dX7_drawQubits_86 (by decide) rfl rfl ?_
          refine zj_aload_n dX7_drawQubits_88 rfl rfl ?_
          refine zj_getR (ci := 7) (j := 7) dX7_drawQubits_89 wf_X7_21 (by decide) (by decide) (zk_198 hL) rfl (zr_198_7 hL) ?_
          refine zj_iconst (x := 2) dX7_drawQubits_92 rfl ?_
          refine zj_iload_n dX7_drawQubits_93 rfl rfl ?_
          refine zj_imul dX7_drawQubits_94 ?_
          refine zj_iconst (x := 1) dX7_drawQubits_95 rfl ?_
          refine zj_iadd dX7_drawQubits_96 ?_
          refine zj_iload dX7_drawQubits_97 rfl ?_
          refine zj_iastore dX7_drawQubits_99 (zk_202 hL) (by rw [(zl_202 hL)]; exact h.1) (fun v2 ev2 => ?_)
          replace h := h.2 v2 ev2
          refine zj_iinc (y := x3 + 1) (ls2 := [.ref 198, .ref x1, .int x2, .int (x3 + 1), .int ((x2 * (v w_x1 0)) + x3), .int (((v (x1 + 1) 0) >>> (((x2 * (v w_x1 0)) + x3) &&& 31)) &&& 1), .int (((v (x1 + 1) 1) >>> (((x2 * (v w_x1 0)) + x3) &&& 31)) &&& 1), .int 45]) dX7_drawQubits_100 rfl rfl (by decide) rfl rfl ?_
          refine zj_goto (tgt := 2) dX7_drawQubits_103 (by decide) ?_
          refine zj_forget (ls2 := [.ref 198, .ref x1, .int x2, .int (x3 + 1), .null, .null, .null, .null]) ⟨Or.inr rfl, Or.inr rfl, Or.inr rfl, Or.inr rfl, Or.inl rfl, Or.inl rfl, Or.inl rfl, Or.inl rfl, trivial⟩ ?_
          exact h
        · replace h := h.2 c
          refine zj_bipush (x := 42) dX7_drawQubits_79 rfl ?_
          refine zj_goto (tgt := 86) dX7_drawQubits_81 (by decide) ?_
          refine zj_istore (ls2 := [.ref 198, .ref x1, .int x2, .int x3, .int ((x2 * (v w_x1 0)) + x3), .int (((v (x1 + 1) 0) >>> (((x2 * (v w_x1 0)) + x3) &&& 31)) &&& 1), .int (((v (x1 + 1) 1) >>> (((x2 * (v w_x1 0)) + x3) &&& 31)) &&& 1), .int 42]) dX7_drawQubits_86 (by decide) rfl rfl ?_
          refine zj_aload_n dX7_drawQubits_88 rfl rfl ?_
          refine zj_getR (ci := 7) (j := 7) dX7_drawQubits_89 wf_X7_21 (by decide) (by decide) (zk_198 hL) rfl (zr_198_7 hL) ?_
          refine zj_iconst (x := 2) dX7_drawQubits_92 rfl ?_
          refine zj_iload_n dX7_drawQubits_93 rfl rfl ?_
          refine zj_imul dX7_drawQubits_94 ?_
          refine zj_iconst (x := 1) dX7_drawQubits_95 rfl ?_
          refine zj_iadd dX7_drawQubits_96 ?_
          refine zj_iload dX7_drawQubits_97 rfl ?_
          refine zj_iastore dX7_drawQubits_99 (zk_202 hL) (by rw [(zl_202 hL)]; exact h.1) (fun v3 ev3 => ?_)
          replace h := h.2 v3 ev3
          refine zj_iinc (y := x3 + 1) (ls2 := [.ref 198, .ref x1, .int x2, .int (x3 + 1), .int ((x2 * (v w_x1 0)) + x3), .int (((v (x1 + 1) 0) >>> (((x2 * (v w_x1 0)) + x3) &&& 31)) &&& 1), .int (((v (x1 + 1) 1) >>> (((x2 * (v w_x1 0)) + x3) &&& 31)) &&& 1), .int 42]) dX7_drawQubits_100 rfl rfl (by decide) rfl rfl ?_
          refine zj_goto (tgt := 2) dX7_drawQubits_103 (by decide) ?_
          refine zj_forget (ls2 := [.ref 198, .ref x1, .int x2, .int (x3 + 1), .null, .null, .null, .null]) ⟨Or.inr rfl, Or.inr rfl, Or.inr rfl, Or.inr rfl, Or.inl rfl, Or.inl rfl, Or.inl rfl, Or.inl rfl, trivial⟩ ?_
          exact h
    · replace h := h.2 c
      refine zj_bipush (x := 43) dX7_drawQubits_58 rfl ?_
      refine zj_goto (tgt := 65) dX7_drawQubits_60 (by decide) ?_
      refine zj_istore (ls2 := [.ref 198, .ref x1, .int x2, .int x3, .int ((x2 * (v w_x1 0)) + x3), .int (((v (x1 + 1) 0) >>> (((x2 * (v w_x1 0)) + x3) &&& 31)) &&& 1), .int (((v (x1 + 1) 1) >>> (((x2 * (v w_x1 0)) + x3) &&& 31)) &&& 1), .int 43]) dX7_drawQubits_65 (by decide) rfl rfl ?_
      refine zj_iload dX7_drawQubits_67 rfl ?_
      refine zj_iconst (x := 1) dX7_drawQubits_69 rfl ?_
      refine zj_icmp_ne (tgt := 88) dX7_drawQubits_70 (by decide) (fun c => ?_) (fun c => ?_)
      · replace h := h.1 c
        refine zj_aload_n dX7_drawQubits_88 rfl rfl ?_
        refine zj_getR (ci := 7) (j := 7) dX7_drawQubits_89 wf_X7_21 (by decide) (by decide) (zk_198 hL) rfl (zr_198_7 hL) ?_
        refine zj_iconst (x := 2) dX7_drawQubits_92 rfl ?_
        refine zj_iload_n dX7_drawQubits_93 rfl rfl ?_
        refine zj_imul dX7_drawQubits_94 ?_
        refine zj_iconst (x := 1) dX7_drawQubits_95 rfl ?_
        refine zj_iadd dX7_drawQubits_96 ?_
        refine zj_iload dX7_drawQubits_97 rfl ?_
        refine zj_iastore dX7_drawQubits_99 (zk_202 hL) (by rw [(zl_202 hL)]; exact h.1) (fun v4 ev4 => ?_)
        replace h := h.2 v4 ev4
        refine zj_iinc (y := x3 + 1) (ls2 := [.ref 198, .ref x1, .int x2, .int (x3 + 1), .int ((x2 * (v w_x1 0)) + x3), .int (((v (x1 + 1) 0) >>> (((x2 * (v w_x1 0)) + x3) &&& 31)) &&& 1), .int (((v (x1 + 1) 1) >>> (((x2 * (v w_x1 0)) + x3) &&& 31)) &&& 1), .int 43]) dX7_drawQubits_100 rfl rfl (by decide) rfl rfl ?_
        refine zj_goto (tgt := 2) dX7_drawQubits_103 (by decide) ?_
        refine zj_forget (ls2 := [.ref 198, .ref x1, .int x2, .int (x3 + 1), .null, .null, .null, .null]) ⟨Or.inr rfl, Or.inr rfl, Or.inr rfl, Or.inr rfl, Or.inl rfl, Or.inl rfl, Or.inl rfl, Or.inl rfl, trivial⟩ ?_
        exact h
      · replace h := h.2 c
        refine zj_iload dX7_drawQubits_73 rfl ?_
        refine zj_iconst (x := 1) dX7_drawQubits_75 rfl ?_
        refine zj_icmp_ne (tgt := 84) dX7_drawQubits_76 (by decide) (fun c => ?_) (fun c => ?_)
        · replace h := h.1 c
          refine zj_bipush (x := 45) dX7_drawQubits_84 rfl ?_
          refine zj_istore (ls2 := [.ref 198, .ref x1, .int x2, .int x3, .int ((x2 * (v w_x1 0)) + x3), .int (((v (x1 + 1) 0) >>> (((x2 * (v w_x1 0)) + x3) &&& 31)) &&& 1), .int (((v (x1 + 1) 1) >>> (((x2 * (v w_x1 0)) + x3) &&& 31)) &&& 1), .int 45]) dX7_drawQubits_86 (by decide) rfl rfl ?_
          refine zj_aload_n dX7_drawQubits_88 rfl rfl ?_
          refine zj_getR (ci := 7) (j := 7) dX7_drawQubits_89 wf_X7_21 (by decide) (by decide) (zk_198 hL) rfl (zr_198_7 hL) ?_
          refine zj_iconst (x := 2) dX7_drawQubits_92 rfl ?_
          refine zj_iload_n dX7_drawQubits_93 rfl rfl ?_
          refine zj_imul dX7_drawQubits_94 ?_
          refine zj_iconst (x := 1) dX7_drawQubits_95 rfl ?_
          refine zj_iadd dX7_drawQubits_96 ?_
          refine zj_iload dX7_drawQubits_97 rfl ?_
          refine zj_iastore dX7_drawQubits_99 (zk_202 hL) (by rw [(zl_202 hL)]; exact h.1) (fun v5 ev5 => ?_)
          replace h := h.2 v5 ev5
          refine zj_iinc (y := x3 + 1) (ls2 := [.ref 198, .ref x1, .int x2, .int (x3 + 1), .int ((x2 * (v w_x1 0)) + x3), .int (((v (x1 + 1) 0) >>> (((x2 * (v w_x1 0)) + x3) &&& 31)) &&& 1), .int (((v (x1 + 1) 1) >>> (((x2 * (v w_x1 0)) + x3) &&& 31)) &&& 1), .int 45]) dX7_drawQubits_100 rfl rfl (by decide) rfl rfl ?_
          refine zj_goto (tgt := 2) dX7_drawQubits_103 (by decide) ?_
          refine zj_forget (ls2 := [.ref 198, .ref x1, .int x2, .int (x3 + 1), .null, .null, .null, .null]) ⟨Or.inr rfl, Or.inr rfl, Or.inr rfl, Or.inr rfl, Or.inl rfl, Or.inl rfl, Or.inl rfl, Or.inl rfl, trivial⟩ ?_
          exact h
        · replace h := h.2 c
          refine zj_bipush (x := 42) dX7_drawQubits_79 rfl ?_
          refine zj_goto (tgt := 86) dX7_drawQubits_81 (by decide) ?_
          refine zj_istore (ls2 := [.ref 198, .ref x1, .int x2, .int x3, .int ((x2 * (v w_x1 0)) + x3), .int (((v (x1 + 1) 0) >>> (((x2 * (v w_x1 0)) + x3) &&& 31)) &&& 1), .int (((v (x1 + 1) 1) >>> (((x2 * (v w_x1 0)) + x3) &&& 31)) &&& 1), .int 42]) dX7_drawQubits_86 (by decide) rfl rfl ?_
          refine zj_aload_n dX7_drawQubits_88 rfl rfl ?_
          refine zj_getR (ci := 7) (j := 7) dX7_drawQubits_89 wf_X7_21 (by decide) (by decide) (zk_198 hL) rfl (zr_198_7 hL) ?_
          refine zj_iconst (x := 2) dX7_drawQubits_92 rfl ?_
          refine zj_iload_n dX7_drawQubits_93 rfl rfl ?_
          refine zj_imul dX7_drawQubits_94 ?_
          refine zj_iconst (x := 1) dX7_drawQubits_95 rfl ?_
          refine zj_iadd dX7_drawQubits_96 ?_
          refine zj_iload dX7_drawQubits_97 rfl ?_
          refine zj_iastore dX7_drawQubits_99 (zk_202 hL) (by rw [(zl_202 hL)]; exact h.1) (fun v6 ev6 => ?_)
          replace h := h.2 v6 ev6
          refine zj_iinc (y := x3 + 1) (ls2 := [.ref 198, .ref x1, .int x2, .int (x3 + 1), .int ((x2 * (v w_x1 0)) + x3), .int (((v (x1 + 1) 0) >>> (((x2 * (v w_x1 0)) + x3) &&& 31)) &&& 1), .int (((v (x1 + 1) 1) >>> (((x2 * (v w_x1 0)) + x3) &&& 31)) &&& 1), .int 42]) dX7_drawQubits_100 rfl rfl (by decide) rfl rfl ?_
          refine zj_goto (tgt := 2) dX7_drawQubits_103 (by decide) ?_
          refine zj_forget (ls2 := [.ref 198, .ref x1, .int x2, .int (x3 + 1), .null, .null, .null, .null]) ⟨Or.inr rfl, Or.inr rfl, Or.inr rfl, Or.inr rfl, Or.inl rfl, Or.inl rfl, Or.inl rfl, Or.inl rfl, trivial⟩ ?_
          exact h
theorem sg_X7_keepGrowth_0 {G : z_G} {d : Nat} {S : z_Shp} {v : z_Dat} {Q : Option Value → z_Shp → z_Dat → Prop} (hL : z_L S)
    (h : ∀ v1, v1 = z_u v 198 2 1 → (∀ v2, v2 = z_u v1 200 0 (v1 186 0) → (∀ v3, v3 = z_u v2 200 1 (v2 186 1) → (∀ v4, v4 = z_u v3 200 2 (v3 186 2) → (∀ v5, v5 = z_u v4 200 3 (v4 186 3) → (∀ v6, v6 = z_u v5 198 4 0 → (z_J G d mX7_keepGrowth (52, [.ref 198, .ref 186, .ref 149, .int 0], [], S, v6) Q))))))) :
    z_J G d mX7_keepGrowth (0, [.ref 198, .ref 186, .ref 149, .null], [], S, v) Q := by
  refine zj_aload_n dX7_keepGrowth_0 rfl rfl ?_
  refine zj_iconst (x := 1) dX7_keepGrowth_1 rfl ?_
  refine zj_putI (ci := 7) (j := 2) dX7_keepGrowth_2 wf_X7_42 (by decide) (by decide) (zk_198 hL) rfl rfl (by decide) (by decide) (fun v1 ev1 => ?_)
  replace h := h v1 ev1
  refine zj_aload_n dX7_keepGrowth_5 rfl rfl ?_
  refine zj_getR (ci := 7) (j := 3) dX7_keepGrowth_6 wf_X7_15 (by decide) (by decide) (zk_198 hL) rfl (zr_198_3 hL) ?_
  refine zj_iconst (x := 0) dX7_keepGrowth_9 rfl ?_
  refine zj_aload_n dX7_keepGrowth_10 rfl rfl ?_
  refine zj_getI (ci := 1) (j := 0) dX7_keepGrowth_11 wf_X7_46 (by decide) (by decide) (zk_186 hL) rfl ?_
  refine zj_iastore dX7_keepGrowth_14 (zk_200 hL) (by rw [(zl_200 hL)]; exact z_vin (by decide)) (fun v2 ev2 => ?_)
  replace h := h v2 ev2
  refine zj_aload_n dX7_keepGrowth_15 rfl rfl ?_
  refine zj_getR (ci := 7) (j := 3) dX7_keepGrowth_16 wf_X7_15 (by decide) (by decide) (zk_198 hL) rfl (zr_198_3 hL) ?_
  refine zj_iconst (x := 1) dX7_keepGrowth_19 rfl ?_
  refine zj_aload_n dX7_keepGrowth_20 rfl rfl ?_
  refine zj_getI (ci := 1) (j := 1) dX7_keepGrowth_21 wf_X7_51 (by decide) (by decide) (zk_186 hL) rfl ?_
  refine zj_iastore dX7_keepGrowth_24 (zk_200 hL) (by rw [(zl_200 hL)]; exact z_vin (by decide)) (fun v3 ev3 => ?_)
  replace h := h v3 ev3
  refine zj_aload_n dX7_keepGrowth_25 rfl rfl ?_
  refine zj_getR (ci := 7) (j := 3) dX7_keepGrowth_26 wf_X7_15 (by decide) (by decide) (zk_198 hL) rfl (zr_198_3 hL) ?_
  refine zj_iconst (x := 2) dX7_keepGrowth_29 rfl ?_
  refine zj_aload_n dX7_keepGrowth_30 rfl rfl ?_
  refine zj_getI (ci := 1) (j := 2) dX7_keepGrowth_31 wf_X7_54 (by decide) (by decide) (zk_186 hL) rfl ?_
  refine zj_iastore dX7_keepGrowth_34 (zk_200 hL) (by rw [(zl_200 hL)]; exact z_vin (by decide)) (fun v4 ev4 => ?_)
  replace h := h v4 ev4
  refine zj_aload_n dX7_keepGrowth_35 rfl rfl ?_
  refine zj_getR (ci := 7) (j := 3) dX7_keepGrowth_36 wf_X7_15 (by decide) (by decide) (zk_198 hL) rfl (zr_198_3 hL) ?_
  refine zj_iconst (x := 3) dX7_keepGrowth_39 rfl ?_
  refine zj_aload_n dX7_keepGrowth_40 rfl rfl ?_
  refine zj_getI (ci := 1) (j := 3) dX7_keepGrowth_41 wf_X7_57 (by decide) (by decide) (zk_186 hL) rfl ?_
  refine zj_iastore dX7_keepGrowth_44 (zk_200 hL) (by rw [(zl_200 hL)]; exact z_vin (by decide)) (fun v5 ev5 => ?_)
  replace h := h v5 ev5
  refine zj_aload_n dX7_keepGrowth_45 rfl rfl ?_
  refine zj_iconst (x := 0) dX7_keepGrowth_46 rfl ?_
  refine zj_putI (ci := 7) (j := 4) dX7_keepGrowth_47 wf_X7_60 (by decide) (by decide) (zk_198 hL) rfl rfl rfl rfl (fun v6 ev6 => ?_)
  replace h := h v6 ev6
  refine zj_iconst (x := 0) dX7_keepGrowth_50 rfl ?_
  refine zj_istore_n (ls2 := [.ref 198, .ref 186, .ref 149, .int 0]) dX7_keepGrowth_51 rfl (by decide) rfl rfl ?_
  exact h
theorem sg_X7_keepGrowth_52 {G : z_G} {d : Nat} {S : z_Shp} {v : z_Dat} {Q : Option Value → z_Shp → z_Dat → Prop} {x3 : Int32} (hL : z_L S)
    (h : ((v 149 2) ≤ x3 → (Q none S v)) ∧ (¬ (v 149 2) ≤ x3 → ((vp_in x3 321) ∧ ((¬ (v 187 x3.toNatClampNeg) = 1 → (z_J G d mX7_keepGrowth (52, [.ref 198, .ref 186, .ref 149, .int (x3 + 1)], [], S, v) Q)) ∧ ((v 187 x3.toNatClampNeg) = 1 → (vp_in (v 198 4) 321 ∧ (∀ v1, v1 = z_u v 201 (v 198 4).toNatClampNeg x3 → (∀ v2, v2 = z_u v1 198 4 ((v1 198 4) + 1) → (z_J G d mX7_keepGrowth (52, [.ref 198, .ref 186, .ref 149, .int (x3 + 1)], [], S, v2) Q))))))))) :
    z_J G d mX7_keepGrowth (52, [.ref 198, .ref 186, .ref 149, .int x3], [], S, v) Q := by
  refine zj_iload_n dX7_keepGrowth_52 rfl rfl ?_
  refine zj_aload_n dX7_keepGrowth_53 rfl rfl ?_
  refine zj_getI (ci := 4) (j := 2) dX7_keepGrowth_54 wf_X7_61 (by decide) (by decide) (zk_149 hL) rfl ?_
  refine zj_icmp_ge (tgt := 96) dX7_keepGrowth_57 (by decide) (fun c => ?_) (fun c => ?_)
  · replace h := h.1 c
    exact zj_vret dX7_keepGrowth_96 rfl h
  · replace h := h.2 c
    refine zj_aload_n dX7_keepGrowth_60 rfl rfl ?_
    refine zj_getR (ci := 1) (j := 5) dX7_keepGrowth_61 wf_X7_66 (by decide) (by decide) (zk_186 hL) rfl (zr_186_5 hL) ?_
    refine zj_iload_n dX7_keepGrowth_64 rfl rfl ?_
    refine zj_iaload dX7_keepGrowth_65 (zk_187 hL) (by rw [(zl_187 hL)]; exact h.1) ?_
    replace h := h.2
    refine zj_iconst (x := 1) dX7_keepGrowth_66 rfl ?_
    refine zj_icmp_ne (tgt := 90) dX7_keepGrowth_67 (by decide) (fun c => ?_) (fun c => ?_)
    · replace h := h.1 c
      refine zj_iinc (y := x3 + 1) (ls2 := [.ref 198, .ref 186, .ref 149, .int (x3 + 1)]) dX7_keepGrowth_90 rfl rfl (by decide) rfl rfl ?_
      refine zj_goto (tgt := 52) dX7_keepGrowth_93 (by decide) ?_
      exact h
    · replace h := h.2 c
      refine zj_aload_n dX7_keepGrowth_70 rfl rfl ?_
      refine zj_getR (ci := 7) (j := 5) dX7_keepGrowth_71 wf_X7_18 (by decide) (by decide) (zk_198 hL) rfl (zr_198_5 hL) ?_
      refine zj_aload_n dX7_keepGrowth_74 rfl rfl ?_
      refine zj_getI (ci := 7) (j := 4) dX7_keepGrowth_75 wf_X7_60 (by decide) (by decide) (zk_198 hL) rfl ?_
      refine zj_iload_n dX7_keepGrowth_78 rfl rfl ?_
      refine zj_iastore dX7_keepGrowth_79 (zk_201 hL) (by rw [(zl_201 hL)]; exact h.1) (fun v1 ev1 => ?_)
      replace h := h.2 v1 ev1
      refine zj_aload_n dX7_keepGrowth_80 rfl rfl ?_
      refine zj_dup dX7_keepGrowth_81 rfl ?_
      refine zj_getI (ci := 7) (j := 4) dX7_keepGrowth_82 wf_X7_60 (by decide) (by decide) (zk_198 hL) rfl ?_
      refine zj_iconst (x := 1) dX7_keepGrowth_85 rfl ?_
      refine zj_iadd dX7_keepGrowth_86 ?_
      refine zj_putI (ci := 7) (j := 4) dX7_keepGrowth_87 wf_X7_60 (by decide) (by decide) (zk_198 hL) rfl rfl rfl rfl (fun v2 ev2 => ?_)
      replace h := h v2 ev2
      refine zj_iinc (y := x3 + 1) (ls2 := [.ref 198, .ref 186, .ref 149, .int (x3 + 1)]) dX7_keepGrowth_90 rfl rfl (by decide) rfl rfl ?_
      refine zj_goto (tgt := 52) dX7_keepGrowth_93 (by decide) ?_
      exact h
theorem sg_X7_keepPairing_0 {G : z_G} {d : Nat} {S : z_Shp} {v : z_Dat} {Q : Option Value → z_Shp → z_Dat → Prop} (hL : z_L S)
    (h : ∀ v1, v1 = z_u v 198 0 (v 164 0) → (z_cpOk 0 0 14 14 14 ∧ (∀ v2, v2 = z_ua v1 199 (va_cpy (v1 165) (v1 199) 0 0 14) → (Q none S v2)))) :
    z_J G (d + 1) mX7_keepPairing (0, [.ref 198, .ref 164], [], S, v) Q := by
  refine zj_aload_n dX7_keepPairing_0 rfl rfl ?_
  refine zj_aload_n dX7_keepPairing_1 rfl rfl ?_
  refine zj_getI (ci := 5) (j := 0) dX7_keepPairing_2 wf_X7_24 (by decide) (by decide) (zk_164 hL) rfl ?_
  refine zj_putI (ci := 7) (j := 0) dX7_keepPairing_5 wf_X7_30 (by decide) (by decide) (zk_198 hL) rfl rfl rfl rfl (fun v1 ev1 => ?_)
  replace h := h v1 ev1
  refine zj_aload_n dX7_keepPairing_8 rfl rfl ?_
  refine zj_getR (ci := 5) (j := 3) dX7_keepPairing_9 wf_X7_33 (by decide) (by decide) (zk_164 hL) rfl (zr_164_3 hL) ?_
  refine zj_iconst (x := 0) dX7_keepPairing_12 rfl ?_
  refine zj_aload_n dX7_keepPairing_13 rfl rfl ?_
  refine zj_getR (ci := 7) (j := 1) dX7_keepPairing_14 wf_X7_9 (by decide) (by decide) (zk_198 hL) rfl (zr_198_1 hL) ?_
  refine zj_iconst (x := 0) dX7_keepPairing_17 rfl ?_
  refine zj_bipush (x := 14) dX7_keepPairing_18 rfl ?_
  refine zj_copy dX7_keepPairing_20 wl_X7_36 (Nat.le_of_ble_eq_true rfl) (zk_165 hL) (zk_199 hL) (by rw [(zl_165 hL), (zl_199 hL)]; exact h.1) (fun v2 ev2 => ?_)
  replace h := h.2 v2 ev2
  exact zj_vret dX7_keepPairing_23 rfl h
theorem sg_X8_edgeFrom_0 {G : z_G} {d : Nat} {S : z_Shp} {v : z_Dat} {Q : Option Value → z_Shp → z_Dat → Prop} {x1 : Int32} {x2 : Nat} (hx2 : z_k S x2 = 21)
    (h : z_J G d mX8_edgeFrom (2, [.ref 149, .int x1, .ref x2, .int 0, .null], [], S, v) Q) :
    z_J G d mX8_edgeFrom (0, [.ref 149, .int x1, .ref x2, .null, .null], [], S, v) Q := by
  refine zj_iconst (x := 0) dX8_edgeFrom_0 rfl ?_
  refine zj_istore_n (ls2 := [.ref 149, .int x1, .ref x2, .int 0, .null]) dX8_edgeFrom_1 rfl (by decide) rfl rfl ?_
  exact h
theorem sg_X8_edgeFrom_2 {G : z_G} {d : Nat} {S : z_Shp} {v : z_Dat} {Q : Option Value → z_Shp → z_Dat → Prop} {x1 : Int32} {x3 : Int32} {x2 : Nat} (hL : z_L S) (hx2 : z_k S x2 = 21)
    (h : (vp_in x1 108) ∧ (((v 153 x1.toNatClampNeg) ≤ x3 → (Q (some (.int (-1))) S v)) ∧ (¬ (v 153 x1.toNatClampNeg) ≤ x3 → ((vp_in ((x1 * 6) + x3) 648) ∧ ((vp_in (v 154 ((x1 * 6) + x3).toNatClampNeg) 321) ∧ ((vp_in (if v 150 (v 154 ((x1 * 6) + x3).toNatClampNeg).toNatClampNeg = x1 then v 151 (v 154 ((x1 * 6) + x3).toNatClampNeg).toNatClampNeg else v 150 (v 154 ((x1 * 6) + x3).toNatClampNeg).toNatClampNeg) (z_l S x2)) ∧ ((vp_in (v 154 ((x1 * 6) + x3).toNatClampNeg) 321) ∧ ((vp_in x1 (z_l S x2)) ∧ ((¬ ((v x2 (if v 150 (v 154 ((x1 * 6) + x3).toNatClampNeg).toNatClampNeg = x1 then v 151 (v 154 ((x1 * 6) + x3).toNatClampNeg).toNatClampNeg else v 150 (v 154 ((x1 * 6) + x3).toNatClampNeg).toNatClampNeg).toNatClampNeg) + (v 152 (v 154 ((x1 * 6) + x3).toNatClampNeg).toNatClampNeg)) = (v x2 x1.toNatClampNeg) → (z_J G (d + 1) mX8_edgeFrom (2, [.ref 149, .int x1, .ref x2, .int (x3 + 1), .null], [], S, v) Q)) ∧ (((v x2 (if v 150 (v 154 ((x1 * 6) + x3).toNatClampNeg).toNatClampNeg = x1 then v 151 (v 154 ((x1 * 6) + x3).toNatClampNeg).toNatClampNeg else v 150 (v 154 ((x1 * 6) + x3).toNatClampNeg).toNatClampNeg).toNatClampNeg) + (v 152 (v 154 ((x1 * 6) + x3).toNatClampNeg).toNatClampNeg)) = (v x2 x1.toNatClampNeg) → (Q (some (.int (v 154 ((x1 * 6) + x3).toNatClampNeg))) S v))))))))))) :
    z_J G (d + 1) mX8_edgeFrom (2, [.ref 149, .int x1, .ref x2, .int x3, .null], [], S, v) Q := by
  refine zj_iload_n dX8_edgeFrom_2 rfl rfl ?_
  refine zj_aload_n dX8_edgeFrom_3 rfl rfl ?_
  refine zj_getR (ci := 4) (j := 7) dX8_edgeFrom_4 wf_X8_76 (by decide) (by decide) (zk_149 hL) rfl (zr_149_7 hL) ?_
  refine zj_iload_n dX8_edgeFrom_7 rfl rfl ?_
  refine zj_iaload dX8_edgeFrom_8 (zk_153 hL) (by rw [(zl_153 hL)]; exact h.1) ?_
  replace h := h.2
  refine zj_icmp_ge (tgt := 52) dX8_edgeFrom_9 (by decide) (fun c => ?_) (fun c => ?_)
  · replace h := h.1 c
    refine zj_iconst (x := (-1)) dX8_edgeFrom_52 rfl ?_
    exact zj_iret dX8_edgeFrom_53 rfl rfl h
  · replace h := h.2 c
    refine zj_aload_n dX8_edgeFrom_12 rfl rfl ?_
    refine zj_iload_n dX8_edgeFrom_13 rfl rfl ?_
    refine zj_iload_n dX8_edgeFrom_14 rfl rfl ?_
    refine zj_callV (M' := mX4_nearAt) (avs := [.int x1, .int x3]) (st := []) (ci := 4) dX8_edgeFrom_15 wm_X4_nearAt wl_X8_79 wi_X4_nearAt ws_X4_nearAt (by decide) (zk_149 hL) rfl rfl (by decide) rfl (Nat.le_of_ble_eq_true rfl) (Nat.le_of_ble_eq_true rfl) ⟨Or.inl (z_k0 (zk_149 hL)), Or.inl (z_k0 hx2), trivial⟩ trivial (hp_X4_nearAt hL h.1 ?_)
    replace h := h.2
    refine zj_istore (ls2 := [.ref 149, .int x1, .ref x2, .int x3, .int (v 154 ((x1 * 6) + x3).toNatClampNeg)]) dX8_edgeFrom_18 (by decide) rfl rfl ?_
    refine zj_aload_n dX8_edgeFrom_20 rfl rfl ?_
    refine zj_aload_n dX8_edgeFrom_21 rfl rfl ?_
    refine zj_iload dX8_edgeFrom_22 rfl ?_
    refine zj_iload_n dX8_edgeFrom_24 rfl rfl ?_
    refine zj_callV (M' := mX4_otherEnd) (avs := [.int (v 154 ((x1 * 6) + x3).toNatClampNeg), .int x1]) (st := [.ref x2]) (ci := 4) dX8_edgeFrom_25 wm_X4_otherEnd wl_X8_83 wi_X4_otherEnd ws_X4_otherEnd (by decide) (zk_149 hL) rfl rfl (by decide) rfl (Nat.le_of_ble_eq_true rfl) (Nat.le_of_ble_eq_true rfl) ⟨Or.inl (z_k0 (zk_149 hL)), Or.inl (z_k0 hx2), trivial⟩ ⟨Or.inl (z_k0 hx2), trivial⟩ (hp_X4_otherEnd hL h.1 ?_)
    replace h := h.2
    refine zj_iaload dX8_edgeFrom_28 hx2 h.1 ?_
    replace h := h.2
    refine zj_aload_n dX8_edgeFrom_29 rfl rfl ?_
    refine zj_getR (ci := 4) (j := 6) dX8_edgeFrom_30 wf_X8_74 (by decide) (by decide) (zk_149 hL) rfl (zr_149_6 hL) ?_
    refine zj_iload dX8_edgeFrom_33 rfl ?_
    refine zj_iaload dX8_edgeFrom_35 (zk_152 hL) (by rw [(zl_152 hL)]; exact h.1) ?_
    replace h := h.2
    refine zj_iadd dX8_edgeFrom_36 ?_
    refine zj_aload_n dX8_edgeFrom_37 rfl rfl ?_
    refine zj_iload_n dX8_edgeFrom_38 rfl rfl ?_
    refine zj_iaload dX8_edgeFrom_39 hx2 h.1 ?_
    replace h := h.2
    refine zj_icmp_ne (tgt := 46) dX8_edgeFrom_40 (by decide) (fun c => ?_) (fun c => ?_)
    · replace h := h.1 c
      refine zj_iinc (y := x3 + 1) (ls2 := [.ref 149, .int x1, .ref x2, .int (x3 + 1), .int (v 154 ((x1 * 6) + x3).toNatClampNeg)]) dX8_edgeFrom_46 rfl rfl (by decide) rfl rfl ?_
      refine zj_goto (tgt := 2) dX8_edgeFrom_49 (by decide) ?_
      refine zj_forget (ls2 := [.ref 149, .int x1, .ref x2, .int (x3 + 1), .null]) ⟨Or.inr rfl, Or.inr rfl, Or.inr rfl, Or.inr rfl, Or.inl rfl, trivial⟩ ?_
      exact h
    · replace h := h.2 c
      refine zj_iload dX8_edgeFrom_43 rfl ?_
      exact zj_iret dX8_edgeFrom_45 rfl rfl h
theorem sg_X8_measure_0 {G : z_G} {d : Nat} {S : z_Shp} {v : z_Dat} {Q : Option Value → z_Shp → z_Dat → Prop} {x2 : Int32} {x3 : Nat} (hL : z_L S) (hx3 : z_k S x3 = 21)
    (h : z_J G d mJ7_fill_53178 (0, [.ref x3, .int 256, .null, .null], [], S, v) (fun r S1 v1 => r = none ∧ S1 = S ∧ (z_J G d mJ7_fill_53178 (0, [.ref 161, .int (-1), .null, .null], [], S, v1) (fun r S1 v2 => r = none ∧ S1 = S ∧ (∀ v3, v3 = z_u v2 158 7 0 → ((¬ x2 = (v3 149 1) → (z_J G d mX8_offer (0, [.ref 158, .ref x3, .int x2, .int 0], [], S, v3) (fun r S1 v4 => r = none ∧ S1 = S ∧ (z_J G (d + 1) mX8_measure (50, [.ref 158, .ref 149, .int x2, .ref x3, .int 0, .int 0, .null, .null], [], S, v4) Q)))) ∧ (x2 = (v3 149 1) → (z_J G d mX8_offerFromBorder (0, [.ref 158, .ref 149, .ref x3, .null], [], S, v3) (fun r S1 v5 => r = none ∧ S1 = S ∧ (z_J G (d + 1) mX8_measure (50, [.ref 158, .ref 149, .int x2, .ref x3, .int 0, .int 0, .null, .null], [], S, v5) Q)))))))))) :
    z_J G (d + 1) mX8_measure (0, [.ref 158, .ref 149, .int x2, .ref x3, .null, .null, .null, .null], [], S, v) Q := by
  refine zj_aload_n dX8_measure_0 rfl rfl ?_
  refine zj_sipush (x := 256) dX8_measure_1 rfl ?_
  refine zj_callS (M' := mJ7_fill_53178) (avs := [.ref x3, .int 256]) (st := []) dX8_measure_4 wm_J7_fill_53178 wl_X8_41 wt_J7_fill_53178 rfl (by decide) rfl (Nat.le_of_ble_eq_true rfl) (Nat.le_of_ble_eq_true rfl) ⟨Or.inl (z_k0 (zk_158 hL)), Or.inl (z_k0 (zk_149 hL)), Or.inl (z_k0 hx3), trivial⟩ trivial (z_J.mono h (fun r S1 v1 hq => ?_))
  obtain ⟨rfl, rfl, h⟩ := hq
  refine zj_aload_n dX8_measure_7 rfl rfl ?_
  refine zj_getR (ci := 8) (j := 4) dX8_measure_8 wf_X8_20 (by decide) (by decide) (zk_158 hL) rfl (zr_158_4 hL) ?_
  refine zj_iconst (x := (-1)) dX8_measure_11 rfl ?_
  refine zj_callS (M' := mJ7_fill_53178) (avs := [.ref 161, .int (-1)]) (st := []) dX8_measure_12 wm_J7_fill_53178 wl_X8_41 wt_J7_fill_53178 rfl (by decide) rfl (Nat.le_of_ble_eq_true rfl) (Nat.le_of_ble_eq_true rfl) ⟨Or.inl (z_k0 (zk_158 hL)), Or.inl (z_k0 (zk_149 hL)), Or.inl (z_k0 hx3), trivial⟩ trivial (z_J.mono h (fun r S1 v2 hq => ?_))
  obtain ⟨rfl, rfl, h⟩ := hq
  refine zj_aload_n dX8_measure_15 rfl rfl ?_
  refine zj_iconst (x := 0) dX8_measure_16 rfl ?_
  refine zj_putI (ci := 8) (j := 7) dX8_measure_17 wf_X8_47 (by decide) (by decide) (zk_158 hL) rfl rfl rfl rfl (fun v3 ev3 => ?_)
  replace h := h v3 ev3
  refine zj_iload_n dX8_measure_20 rfl rfl ?_
  refine zj_aload_n dX8_measure_21 rfl rfl ?_
  refine zj_getI (ci := 4) (j := 1) dX8_measure_22 wf_X8_50 (by decide) (by decide) (zk_149 hL) rfl ?_
  refine zj_icmp_ne (tgt := 37) dX8_measure_25 (by decide) (fun c => ?_) (fun c => ?_)
  · replace h := h.1 c
    refine zj_aload_n dX8_measure_37 rfl rfl ?_
    refine zj_aload_n dX8_measure_38 rfl rfl ?_
    refine zj_iload_n dX8_measure_39 rfl rfl ?_
    refine zj_iconst (x := 0) dX8_measure_40 rfl ?_
    refine zj_callV (M' := mX8_offer) (avs := [.ref x3, .int x2, .int 0]) (st := []) (ci := 8) dX8_measure_41 wm_X8_offer wl_X8_57 wi_X8_offer ws_X8_offer (by decide) (zk_158 hL) rfl rfl (by decide) rfl (Nat.le_of_ble_eq_true rfl) (Nat.le_of_ble_eq_true rfl) ⟨Or.inl (z_k0 (zk_158 hL)), Or.inl (z_k0 (zk_149 hL)), Or.inl (z_k0 hx3), trivial⟩ trivial (z_J.mono h (fun r S1 v4 hq => ?_))
    obtain ⟨rfl, rfl, h⟩ := hq
    refine zj_iconst (x := 0) dX8_measure_44 rfl ?_
    refine zj_istore (ls2 := [.ref 158, .ref 149, .int x2, .ref x3, .int 0, .null, .null, .null]) dX8_measure_45 (by decide) rfl rfl ?_
    refine zj_iconst (x := 0) dX8_measure_47 rfl ?_
    refine zj_istore (ls2 := [.ref 158, .ref 149, .int x2, .ref x3, .int 0, .int 0, .null, .null]) dX8_measure_48 (by decide) rfl rfl ?_
    exact h
  · replace h := h.2 c
    refine zj_aload_n dX8_measure_28 rfl rfl ?_
    refine zj_aload_n dX8_measure_29 rfl rfl ?_
    refine zj_aload_n dX8_measure_30 rfl rfl ?_
    refine zj_callV (M' := mX8_offerFromBorder) (avs := [.ref 149, .ref x3]) (st := []) (ci := 8) dX8_measure_31 wm_X8_offerFromBorder wl_X8_53 wi_X8_offerFromBorder ws_X8_offerFromBorder (by decide) (zk_158 hL) rfl rfl (by decide) rfl (Nat.le_of_ble_eq_true rfl) (Nat.le_of_ble_eq_true rfl) ⟨Or.inl (z_k0 (zk_158 hL)), Or.inl (z_k0 (zk_149 hL)), Or.inl (z_k0 hx3), trivial⟩ trivial (z_J.mono h (fun r S1 v5 hq => ?_))
    obtain ⟨rfl, rfl, h⟩ := hq
    refine zj_goto (tgt := 44) dX8_measure_34 (by decide) ?_
    refine zj_iconst (x := 0) dX8_measure_44 rfl ?_
    refine zj_istore (ls2 := [.ref 158, .ref 149, .int x2, .ref x3, .int 0, .null, .null, .null]) dX8_measure_45 (by decide) rfl rfl ?_
    refine zj_iconst (x := 0) dX8_measure_47 rfl ?_
    refine zj_istore (ls2 := [.ref 158, .ref 149, .int x2, .ref x3, .int 0, .int 0, .null, .null]) dX8_measure_48 (by decide) rfl rfl ?_
    exact h
theorem sg_X8_measure_50 {G : z_G} {d : Nat} {S : z_Shp} {v : z_Dat} {Q : Option Value → z_Shp → z_Dat → Prop} {x2 : Int32} {x4 : Int32} {x5 : Int32} {x3 : Nat} (hL : z_L S) (hx3 : z_k S x3 = 21)
    (h : (256 ≤ x5 → (Q none S v)) ∧ (¬ 256 ≤ x5 → (((v 158 7) ≤ x4 → (Q none S v)) ∧ (¬ (v 158 7) ≤ x4 → ((vp_in x5 256) ∧ (z_J G d mX8_measure (79, [.ref 158, .ref 149, .int x2, .ref x3, .int x4, .int x5, .int (v 161 x5.toNatClampNeg), .int 0], [], S, v) Q)))))) :
    z_J G d mX8_measure (50, [.ref 158, .ref 149, .int x2, .ref x3, .int x4, .int x5, .null, .null], [], S, v) Q := by
  refine zj_iload dX8_measure_50 rfl ?_
  refine zj_sipush (x := 256) dX8_measure_52 rfl ?_
  refine zj_icmp_ge (tgt := 144) dX8_measure_55 (by decide) (fun c => ?_) (fun c => ?_)
  · replace h := h.1 c
    exact zj_vret dX8_measure_144 rfl h
  · replace h := h.2 c
    refine zj_iload dX8_measure_58 rfl ?_
    refine zj_aload_n dX8_measure_60 rfl rfl ?_
    refine zj_getI (ci := 8) (j := 7) dX8_measure_61 wf_X8_47 (by decide) (by decide) (zk_158 hL) rfl ?_
    refine zj_icmp_ge (tgt := 144) dX8_measure_64 (by decide) (fun c => ?_) (fun c => ?_)
    · replace h := h.1 c
      exact zj_vret dX8_measure_144 rfl h
    · replace h := h.2 c
      refine zj_aload_n dX8_measure_67 rfl rfl ?_
      refine zj_getR (ci := 8) (j := 4) dX8_measure_68 wf_X8_20 (by decide) (by decide) (zk_158 hL) rfl (zr_158_4 hL) ?_
      refine zj_iload dX8_measure_71 rfl ?_
      refine zj_iaload dX8_measure_73 (zk_161 hL) (by rw [(zl_161 hL)]; exact h.1) ?_
      replace h := h.2
      refine zj_istore (ls2 := [.ref 158, .ref 149, .int x2, .ref x3, .int x4, .int x5, .int (v 161 x5.toNatClampNeg), .null]) dX8_measure_74 (by decide) rfl rfl ?_
      refine zj_iconst (x := 0) dX8_measure_76 rfl ?_
      refine zj_istore (ls2 := [.ref 158, .ref 149, .int x2, .ref x3, .int x4, .int x5, .int (v 161 x5.toNatClampNeg), .int 0]) dX8_measure_77 (by decide) rfl rfl ?_
      exact h
theorem sg_X8_measure_79 {G : z_G} {d : Nat} {S : z_Shp} {v : z_Dat} {Q : Option Value → z_Shp → z_Dat → Prop} {x2 : Int32} {x4 : Int32} {x5 : Int32} {x6 : Int32} {x7 : Int32} {x3 : Nat} (hL : z_L S) (hx3 : z_k S x3 = 21)
    (h : (969 ≤ x7 → (z_J G (d + 1) mX8_measure (50, [.ref 158, .ref 149, .int x2, .ref x3, .int x4, .int (x5 + 1), .null, .null], [], S, v) Q)) ∧ (¬ 969 ≤ x7 → ((x6 = (-1) → (z_J G (d + 1) mX8_measure (50, [.ref 158, .ref 149, .int x2, .ref x3, .int x4, .int (x5 + 1), .null, .null], [], S, v) Q)) ∧ (¬ x6 = (-1) → ((vp_in x6 969) ∧ ((vp_in (v 162 x6.toNatClampNeg) (z_l S x3)) ∧ ((¬ (v x3 (v 162 x6.toNatClampNeg).toNatClampNeg) = x5 → ((vp_in x6 969) ∧ (z_J G (d + 1) mX8_measure (79, [.ref 158, .ref 149, .int x2, .ref x3, .int (x4 + 1), .int x5, .int (v 163 x6.toNatClampNeg), .int (x7 + 1)], [], S, v) Q))) ∧ ((v x3 (v 162 x6.toNatClampNeg).toNatClampNeg) = x5 → ((vp_in x6 969) ∧ (z_J G d mX8_offerFrom (0, [.ref 158, .ref 149, .ref x3, .int (v 162 x6.toNatClampNeg), .null, .null, .null], [], S, v) (fun r S1 v1 => r = none ∧ S1 = S ∧ ((vp_in x6 969) ∧ (z_J G (d + 1) mX8_measure (79, [.ref 158, .ref 149, .int x2, .ref x3, .int (x4 + 1), .int x5, .int (v1 163 x6.toNatClampNeg), .int (x7 + 1)], [], S, v1) Q))))))))))))) :
    z_J G (d + 1) mX8_measure (79, [.ref 158, .ref 149, .int x2, .ref x3, .int x4, .int x5, .int x6, .int x7], [], S, v) Q := by
  refine zj_iload dX8_measure_79 rfl ?_
  refine zj_sipush (x := 969) dX8_measure_81 rfl ?_
  refine zj_icmp_ge (tgt := 138) dX8_measure_84 (by decide) (fun c => ?_) (fun c => ?_)
  · replace h := h.1 c
    refine zj_iinc (y := x5 + 1) (ls2 := [.ref 158, .ref 149, .int x2, .ref x3, .int x4, .int (x5 + 1), .int x6, .int x7]) dX8_measure_138 rfl rfl (by decide) rfl rfl ?_
    refine zj_goto (tgt := 50) dX8_measure_141 (by decide) ?_
    refine zj_forget (ls2 := [.ref 158, .ref 149, .int x2, .ref x3, .int x4, .int (x5 + 1), .null, .null]) ⟨Or.inr rfl, Or.inr rfl, Or.inr rfl, Or.inr rfl, Or.inr rfl, Or.inr rfl, Or.inl rfl, Or.inl rfl, trivial⟩ ?_
    exact h
  · replace h := h.2 c
    refine zj_iload dX8_measure_87 rfl ?_
    refine zj_iconst (x := (-1)) dX8_measure_89 rfl ?_
    refine zj_icmp_eq (tgt := 138) dX8_measure_90 (by decide) (fun c => ?_) (fun c => ?_)
    · replace h := h.1 c
      refine zj_iinc (y := x5 + 1) (ls2 := [.ref 158, .ref 149, .int x2, .ref x3, .int x4, .int (x5 + 1), .int x6, .int x7]) dX8_measure_138 rfl rfl (by decide) rfl rfl ?_
      refine zj_goto (tgt := 50) dX8_measure_141 (by decide) ?_
      refine zj_forget (ls2 := [.ref 158, .ref 149, .int x2, .ref x3, .int x4, .int (x5 + 1), .null, .null]) ⟨Or.inr rfl, Or.inr rfl, Or.inr rfl, Or.inr rfl, Or.inr rfl, Or.inr rfl, Or.inl rfl, Or.inl rfl, trivial⟩ ?_
      exact h
    · replace h := h.2 c
      refine zj_iinc (y := x4 + 1) (ls2 := [.ref 158, .ref 149, .int x2, .ref x3, .int (x4 + 1), .int x5, .int x6, .int x7]) dX8_measure_93 rfl rfl (by decide) rfl rfl ?_
      refine zj_aload_n dX8_measure_96 rfl rfl ?_
      refine zj_aload_n dX8_measure_97 rfl rfl ?_
      refine zj_getR (ci := 8) (j := 5) dX8_measure_98 wf_X8_23 (by decide) (by decide) (zk_158 hL) rfl (zr_158_5 hL) ?_
      refine zj_iload dX8_measure_101 rfl ?_
      refine zj_iaload dX8_measure_103 (zk_162 hL) (by rw [(zl_162 hL)]; exact h.1) ?_
      replace h := h.2
      refine zj_iaload dX8_measure_104 hx3 h.1 ?_
      replace h := h.2
      refine zj_iload dX8_measure_105 rfl ?_
      refine zj_icmp_ne (tgt := 123) dX8_measure_107 (by decide) (fun c => ?_) (fun c => ?_)
      · replace h := h.1 c
        refine zj_aload_n dX8_measure_123 rfl rfl ?_
        refine zj_getR (ci := 8) (j := 6) dX8_measure_124 wf_X8_26 (by decide) (by decide) (zk_158 hL) rfl (zr_158_6 hL) ?_
        refine zj_iload dX8_measure_127 rfl ?_
        refine zj_iaload dX8_measure_129 (zk_163 hL) (by rw [(zl_163 hL)]; exact h.1) ?_
        replace h := h.2
        refine zj_istore (ls2 := [.ref 158, .ref 149, .int x2, .ref x3, .int (x4 + 1), .int x5, .int (v 163 x6.toNatClampNeg), .int x7]) dX8_measure_130 (by decide) rfl rfl ?_
        refine zj_iinc (y := x7 + 1) (ls2 := [.ref 158, .ref 149, .int x2, .ref x3, .int (x4 + 1), .int x5, .int (v 163 x6.toNatClampNeg), .int (x7 + 1)]) dX8_measure_132 rfl rfl (by decide) rfl rfl ?_
        refine zj_goto (tgt := 79) dX8_measure_135 (by decide) ?_
        exact h
      · replace h := h.2 c
        refine zj_aload_n dX8_measure_110 rfl rfl ?_
        refine zj_aload_n dX8_measure_111 rfl rfl ?_
        refine zj_aload_n dX8_measure_112 rfl rfl ?_
        refine zj_aload_n dX8_measure_113 rfl rfl ?_
        refine zj_getR (ci := 8) (j := 5) dX8_measure_114 wf_X8_23 (by decide) (by decide) (zk_158 hL) rfl (zr_158_5 hL) ?_
        refine zj_iload dX8_measure_117 rfl ?_
        refine zj_iaload dX8_measure_119 (zk_162 hL) (by rw [(zl_162 hL)]; exact h.1) ?_
        replace h := h.2
        refine zj_callV (M' := mX8_offerFrom) (avs := [.ref 149, .ref x3, .int (v 162 x6.toNatClampNeg)]) (st := []) (ci := 8) dX8_measure_120 wm_X8_offerFrom wl_X8_61 wi_X8_offerFrom ws_X8_offerFrom (by decide) (zk_158 hL) rfl rfl (by decide) rfl (Nat.le_of_ble_eq_true rfl) (Nat.le_of_ble_eq_true rfl) ⟨Or.inl (z_k0 (zk_158 hL)), Or.inl (z_k0 (zk_149 hL)), Or.inl (z_k0 hx3), trivial⟩ trivial (z_J.mono h (fun r S1 v1 hq => ?_))
        obtain ⟨rfl, rfl, h⟩ := hq
        refine zj_aload_n dX8_measure_123 rfl rfl ?_
        refine zj_getR (ci := 8) (j := 6) dX8_measure_124 wf_X8_26 (by decide) (by decide) (zk_158 hL) rfl (zr_158_6 hL) ?_
        refine zj_iload dX8_measure_127 rfl ?_
        refine zj_iaload dX8_measure_129 (zk_163 hL) (by rw [(zl_163 hL)]; exact h.1) ?_
        replace h := h.2
        refine zj_istore (ls2 := [.ref 158, .ref 149, .int x2, .ref x3, .int (x4 + 1), .int x5, .int (v1 163 x6.toNatClampNeg), .int x7]) dX8_measure_130 (by decide) rfl rfl ?_
        refine zj_iinc (y := x7 + 1) (ls2 := [.ref 158, .ref 149, .int x2, .ref x3, .int (x4 + 1), .int x5, .int (v1 163 x6.toNatClampNeg), .int (x7 + 1)]) dX8_measure_132 rfl rfl (by decide) rfl rfl ?_
        refine zj_goto (tgt := 79) dX8_measure_135 (by decide) ?_
        exact h
theorem sg_X8_offer_0 {G : z_G} {d : Nat} {S : z_Shp} {v : z_Dat} {Q : Option Value → z_Shp → z_Dat → Prop} {x1 : Nat} {x2 : Int32} {x3 : Int32} (hL : z_L S) (hx1 : z_k S x1 = 21)
    (h : (vp_in x2 (z_l S x1)) ∧ (((v x1 x2.toNatClampNeg) ≤ x3 → (Q none S v)) ∧ (¬ (v x1 x2.toNatClampNeg) ≤ x3 → ((256 ≤ x3 → (Q none S v)) ∧ (¬ 256 ≤ x3 → (((v 158 7) < 969 → (vp_in x2 (z_l S x1) ∧ (∀ v1, v1 = z_u v x1 x2.toNatClampNeg x3 → (vp_in (v1 158 7) 969 ∧ (∀ v2, v2 = z_u v1 162 (v1 158 7).toNatClampNeg x2 → ((vp_in x3 256) ∧ (vp_in (v2 158 7) 969 ∧ (∀ v3, v3 = z_u v2 163 (v2 158 7).toNatClampNeg (v2 161 x3.toNatClampNeg) → (vp_in x3 256 ∧ (∀ v4, v4 = z_u v3 161 x3.toNatClampNeg (v3 158 7) → (∀ v5, v5 = z_u v4 158 7 ((v4 158 7) + 1) → (Q none S v5)))))))))))) ∧ (¬ (v 158 7) < 969 → (Q none S v)))))))) :
    z_J G d mX8_offer (0, [.ref 158, .ref x1, .int x2, .int x3], [], S, v) Q := by
  refine zj_iload_n dX8_offer_0 rfl rfl ?_
  refine zj_aload_n dX8_offer_1 rfl rfl ?_
  refine zj_iload_n dX8_offer_2 rfl rfl ?_
  refine zj_iaload dX8_offer_3 hx1 h.1 ?_
  replace h := h.2
  refine zj_icmp_ge (tgt := 24) dX8_offer_4 (by decide) (fun c => ?_) (fun c => ?_)
  · replace h := h.1 c
    exact zj_vret dX8_offer_24 rfl h
  · replace h := h.2 c
    refine zj_iload_n dX8_offer_7 rfl rfl ?_
    refine zj_sipush (x := 256) dX8_offer_8 rfl ?_
    refine zj_icmp_ge (tgt := 24) dX8_offer_11 (by decide) (fun c => ?_) (fun c => ?_)
    · replace h := h.1 c
      exact zj_vret dX8_offer_24 rfl h
    · replace h := h.2 c
      refine zj_aload_n dX8_offer_14 rfl rfl ?_
      refine zj_getI (ci := 8) (j := 7) dX8_offer_15 wf_X8_47 (by decide) (by decide) (zk_158 hL) rfl ?_
      refine zj_sipush (x := 969) dX8_offer_18 rfl ?_
      refine zj_icmp_lt (tgt := 25) dX8_offer_21 (by decide) (fun c => ?_) (fun c => ?_)
      · replace h := h.1 c
        refine zj_aload_n dX8_offer_25 rfl rfl ?_
        refine zj_iload_n dX8_offer_26 rfl rfl ?_
        refine zj_iload_n dX8_offer_27 rfl rfl ?_
        refine zj_iastore dX8_offer_28 hx1 h.1 (fun v1 ev1 => ?_)
        replace h := h.2 v1 ev1
        refine zj_aload_n dX8_offer_29 rfl rfl ?_
        refine zj_getR (ci := 8) (j := 5) dX8_offer_30 wf_X8_23 (by decide) (by decide) (zk_158 hL) rfl (zr_158_5 hL) ?_
        refine zj_aload_n dX8_offer_33 rfl rfl ?_
        refine zj_getI (ci := 8) (j := 7) dX8_offer_34 wf_X8_47 (by decide) (by decide) (zk_158 hL) rfl ?_
        refine zj_iload_n dX8_offer_37 rfl rfl ?_
        refine zj_iastore dX8_offer_38 (zk_162 hL) (by rw [(zl_162 hL)]; exact h.1) (fun v2 ev2 => ?_)
        replace h := h.2 v2 ev2
        refine zj_aload_n dX8_offer_39 rfl rfl ?_
        refine zj_getR (ci := 8) (j := 6) dX8_offer_40 wf_X8_26 (by decide) (by decide) (zk_158 hL) rfl (zr_158_6 hL) ?_
        refine zj_aload_n dX8_offer_43 rfl rfl ?_
        refine zj_getI (ci := 8) (j := 7) dX8_offer_44 wf_X8_47 (by decide) (by decide) (zk_158 hL) rfl ?_
        refine zj_aload_n dX8_offer_47 rfl rfl ?_
        refine zj_getR (ci := 8) (j := 4) dX8_offer_48 wf_X8_20 (by decide) (by decide) (zk_158 hL) rfl (zr_158_4 hL) ?_
        refine zj_iload_n dX8_offer_51 rfl rfl ?_
        refine zj_iaload dX8_offer_52 (zk_161 hL) (by rw [(zl_161 hL)]; exact h.1) ?_
        replace h := h.2
        refine zj_iastore dX8_offer_53 (zk_163 hL) (by rw [(zl_163 hL)]; exact h.1) (fun v3 ev3 => ?_)
        replace h := h.2 v3 ev3
        refine zj_aload_n dX8_offer_54 rfl rfl ?_
        refine zj_getR (ci := 8) (j := 4) dX8_offer_55 wf_X8_20 (by decide) (by decide) (zk_158 hL) rfl (zr_158_4 hL) ?_
        refine zj_iload_n dX8_offer_58 rfl rfl ?_
        refine zj_aload_n dX8_offer_59 rfl rfl ?_
        refine zj_getI (ci := 8) (j := 7) dX8_offer_60 wf_X8_47 (by decide) (by decide) (zk_158 hL) rfl ?_
        refine zj_iastore dX8_offer_63 (zk_161 hL) (by rw [(zl_161 hL)]; exact h.1) (fun v4 ev4 => ?_)
        replace h := h.2 v4 ev4
        refine zj_aload_n dX8_offer_64 rfl rfl ?_
        refine zj_dup dX8_offer_65 rfl ?_
        refine zj_getI (ci := 8) (j := 7) dX8_offer_66 wf_X8_47 (by decide) (by decide) (zk_158 hL) rfl ?_
        refine zj_iconst (x := 1) dX8_offer_69 rfl ?_
        refine zj_iadd dX8_offer_70 ?_
        refine zj_putI (ci := 8) (j := 7) dX8_offer_71 wf_X8_47 (by decide) (by decide) (zk_158 hL) rfl rfl rfl rfl (fun v5 ev5 => ?_)
        replace h := h v5 ev5
        exact zj_vret dX8_offer_74 rfl h
      · replace h := h.2 c
        exact zj_vret dX8_offer_24 rfl h
theorem sg_X8_offerFrom_0 {G : z_G} {d : Nat} {S : z_Shp} {v : z_Dat} {Q : Option Value → z_Shp → z_Dat → Prop} {x2 : Nat} {x3 : Int32} (hx2 : z_k S x2 = 21)
    (h : z_J G d mX8_offerFrom (3, [.ref 158, .ref 149, .ref x2, .int x3, .int 0, .null, .null], [], S, v) Q) :
    z_J G d mX8_offerFrom (0, [.ref 158, .ref 149, .ref x2, .int x3, .null, .null, .null], [], S, v) Q := by
  refine zj_iconst (x := 0) dX8_offerFrom_0 rfl ?_
  refine zj_istore (ls2 := [.ref 158, .ref 149, .ref x2, .int x3, .int 0, .null, .null]) dX8_offerFrom_1 (by decide) rfl rfl ?_
  exact h
theorem sg_X8_offerFrom_3 {G : z_G} {d : Nat} {S : z_Shp} {v : z_Dat} {Q : Option Value → z_Shp → z_Dat → Prop} {x3 : Int32} {x4 : Int32} {x2 : Nat} (hL : z_L S) (hx2 : z_k S x2 = 21)
    (h : (vp_in x3 108) ∧ (((v 153 x3.toNatClampNeg) ≤ x4 → (Q none S v)) ∧ (¬ (v 153 x3.toNatClampNeg) ≤ x4 → ((vp_in ((x3 * 6) + x4) 648) ∧ ((vp_in (v 154 ((x3 * 6) + x4).toNatClampNeg) 321) ∧ (((if v 150 (v 154 ((x3 * 6) + x4).toNatClampNeg).toNatClampNeg = x3 then v 151 (v 154 ((x3 * 6) + x4).toNatClampNeg).toNatClampNeg else v 150 (v 154 ((x3 * 6) + x4).toNatClampNeg).toNatClampNeg) = (v 149 1) → (z_J G (d + 1) mX8_offerFrom (3, [.ref 158, .ref 149, .ref x2, .int x3, .int (x4 + 1), .null, .null], [], S, v) Q)) ∧ (¬ (if v 150 (v 154 ((x3 * 6) + x4).toNatClampNeg).toNatClampNeg = x3 then v 151 (v 154 ((x3 * 6) + x4).toNatClampNeg).toNatClampNeg else v 150 (v 154 ((x3 * 6) + x4).toNatClampNeg).toNatClampNeg) = (v 149 1) → ((vp_in x3 (z_l S x2)) ∧ ((vp_in (v 154 ((x3 * 6) + x4).toNatClampNeg) 321) ∧ (z_J G d mX8_offer (0, [.ref 158, .ref x2, .int (if v 150 (v 154 ((x3 * 6) + x4).toNatClampNeg).toNatClampNeg = x3 then v 151 (v 154 ((x3 * 6) + x4).toNatClampNeg).toNatClampNeg else v 150 (v 154 ((x3 * 6) + x4).toNatClampNeg).toNatClampNeg), .int ((v x2 x3.toNatClampNeg) + (v 152 (v 154 ((x3 * 6) + x4).toNatClampNeg).toNatClampNeg))], [], S, v) (fun r S1 v1 => r = none ∧ S1 = S ∧ (z_J G (d + 1) mX8_offerFrom (3, [.ref 158, .ref 149, .ref x2, .int x3, .int (x4 + 1), .null, .null], [], S, v1) Q)))))))))))) :
    z_J G (d + 1) mX8_offerFrom (3, [.ref 158, .ref 149, .ref x2, .int x3, .int x4, .null, .null], [], S, v) Q := by
  refine zj_iload dX8_offerFrom_3 rfl ?_
  refine zj_aload_n dX8_offerFrom_5 rfl rfl ?_
  refine zj_getR (ci := 4) (j := 7) dX8_offerFrom_6 wf_X8_76 (by decide) (by decide) (zk_149 hL) rfl (zr_149_7 hL) ?_
  refine zj_iload_n dX8_offerFrom_9 rfl rfl ?_
  refine zj_iaload dX8_offerFrom_10 (zk_153 hL) (by rw [(zl_153 hL)]; exact h.1) ?_
  replace h := h.2
  refine zj_icmp_ge (tgt := 65) dX8_offerFrom_11 (by decide) (fun c => ?_) (fun c => ?_)
  · replace h := h.1 c
    exact zj_vret dX8_offerFrom_65 rfl h
  · replace h := h.2 c
    refine zj_aload_n dX8_offerFrom_14 rfl rfl ?_
    refine zj_iload_n dX8_offerFrom_15 rfl rfl ?_
    refine zj_iload dX8_offerFrom_16 rfl ?_
    refine zj_callV (M' := mX4_nearAt) (avs := [.int x3, .int x4]) (st := []) (ci := 4) dX8_offerFrom_18 wm_X4_nearAt wl_X8_79 wi_X4_nearAt ws_X4_nearAt (by decide) (zk_149 hL) rfl rfl (by decide) rfl (Nat.le_of_ble_eq_true rfl) (Nat.le_of_ble_eq_true rfl) ⟨Or.inl (z_k0 (zk_158 hL)), Or.inl (z_k0 (zk_149 hL)), Or.inl (z_k0 hx2), trivial⟩ trivial (hp_X4_nearAt hL h.1 ?_)
    replace h := h.2
    refine zj_istore (ls2 := [.ref 158, .ref 149, .ref x2, .int x3, .int x4, .int (v 154 ((x3 * 6) + x4).toNatClampNeg), .null]) dX8_offerFrom_21 (by decide) rfl rfl ?_
    refine zj_aload_n dX8_offerFrom_23 rfl rfl ?_
    refine zj_iload dX8_offerFrom_24 rfl ?_
    refine zj_iload_n dX8_offerFrom_26 rfl rfl ?_
    refine zj_callV (M' := mX4_otherEnd) (avs := [.int (v 154 ((x3 * 6) + x4).toNatClampNeg), .int x3]) (st := []) (ci := 4) dX8_offerFrom_27 wm_X4_otherEnd wl_X8_83 wi_X4_otherEnd ws_X4_otherEnd (by decide) (zk_149 hL) rfl rfl (by decide) rfl (Nat.le_of_ble_eq_true rfl) (Nat.le_of_ble_eq_true rfl) ⟨Or.inl (z_k0 (zk_158 hL)), Or.inl (z_k0 (zk_149 hL)), Or.inl (z_k0 hx2), trivial⟩ trivial (hp_X4_otherEnd hL h.1 ?_)
    replace h := h.2
    refine zj_istore (ls2 := [.ref 158, .ref 149, .ref x2, .int x3, .int x4, .int (v 154 ((x3 * 6) + x4).toNatClampNeg), .int (if v 150 (v 154 ((x3 * 6) + x4).toNatClampNeg).toNatClampNeg = x3 then v 151 (v 154 ((x3 * 6) + x4).toNatClampNeg).toNatClampNeg else v 150 (v 154 ((x3 * 6) + x4).toNatClampNeg).toNatClampNeg)]) dX8_offerFrom_30 (by decide) rfl rfl ?_
    refine zj_iload dX8_offerFrom_32 rfl ?_
    refine zj_aload_n dX8_offerFrom_34 rfl rfl ?_
    refine zj_getI (ci := 4) (j := 1) dX8_offerFrom_35 wf_X8_50 (by decide) (by decide) (zk_149 hL) rfl ?_
    refine zj_icmp_eq (tgt := 59) dX8_offerFrom_38 (by decide) (fun c => ?_) (fun c => ?_)
    · replace h := h.1 c
      refine zj_iinc (y := x4 + 1) (ls2 := [.ref 158, .ref 149, .ref x2, .int x3, .int (x4 + 1), .int (v 154 ((x3 * 6) + x4).toNatClampNeg), .int (if v 150 (v 154 ((x3 * 6) + x4).toNatClampNeg).toNatClampNeg = x3 then v 151 (v 154 ((x3 * 6) + x4).toNatClampNeg).toNatClampNeg else v 150 (v 154 ((x3 * 6) + x4).toNatClampNeg).toNatClampNeg)]) dX8_offerFrom_59 rfl rfl (by decide) rfl rfl ?_
      refine zj_goto (tgt := 3) dX8_offerFrom_62 (by decide) ?_
      refine zj_forget (ls2 := [.ref 158, .ref 149, .ref x2, .int x3, .int (x4 + 1), .null, .null]) ⟨Or.inr rfl, Or.inr rfl, Or.inr rfl, Or.inr rfl, Or.inr rfl, Or.inl rfl, Or.inl rfl, trivial⟩ ?_
      exact h
    · replace h := h.2 c
      refine zj_aload_n dX8_offerFrom_41 rfl rfl ?_
      refine zj_aload_n dX8_offerFrom_42 rfl rfl ?_
      refine zj_iload dX8_offerFrom_43 rfl ?_
      refine zj_aload_n dX8_offerFrom_45 rfl rfl ?_
      refine zj_iload_n dX8_offerFrom_46 rfl rfl ?_
      refine zj_iaload dX8_offerFrom_47 hx2 h.1 ?_
      replace h := h.2
      refine zj_aload_n dX8_offerFrom_48 rfl rfl ?_
      refine zj_getR (ci := 4) (j := 6) dX8_offerFrom_49 wf_X8_74 (by decide) (by decide) (zk_149 hL) rfl (zr_149_6 hL) ?_
      refine zj_iload dX8_offerFrom_52 rfl ?_
      refine zj_iaload dX8_offerFrom_54 (zk_152 hL) (by rw [(zl_152 hL)]; exact h.1) ?_
      replace h := h.2
      refine zj_iadd dX8_offerFrom_55 ?_
      refine zj_callV (M' := mX8_offer) (avs := [.ref x2, .int (if v 150 (v 154 ((x3 * 6) + x4).toNatClampNeg).toNatClampNeg = x3 then v 151 (v 154 ((x3 * 6) + x4).toNatClampNeg).toNatClampNeg else v 150 (v 154 ((x3 * 6) + x4).toNatClampNeg).toNatClampNeg), .int ((v x2 x3.toNatClampNeg) + (v 152 (v 154 ((x3 * 6) + x4).toNatClampNeg).toNatClampNeg))]) (st := []) (ci := 8) dX8_offerFrom_56 wm_X8_offer wl_X8_57 wi_X8_offer ws_X8_offer (by decide) (zk_158 hL) rfl rfl (by decide) rfl (Nat.le_of_ble_eq_true rfl) (Nat.le_of_ble_eq_true rfl) ⟨Or.inl (z_k0 (zk_158 hL)), Or.inl (z_k0 (zk_149 hL)), Or.inl (z_k0 hx2), trivial⟩ trivial (z_J.mono h (fun r S1 v1 hq => ?_))
      obtain ⟨rfl, rfl, h⟩ := hq
      refine zj_iinc (y := x4 + 1) (ls2 := [.ref 158, .ref 149, .ref x2, .int x3, .int (x4 + 1), .int (v 154 ((x3 * 6) + x4).toNatClampNeg), .int (if v 150 (v 154 ((x3 * 6) + x4).toNatClampNeg).toNatClampNeg = x3 then v 151 (v 154 ((x3 * 6) + x4).toNatClampNeg).toNatClampNeg else v 150 (v 154 ((x3 * 6) + x4).toNatClampNeg).toNatClampNeg)]) dX8_offerFrom_59 rfl rfl (by decide) rfl rfl ?_
      refine zj_goto (tgt := 3) dX8_offerFrom_62 (by decide) ?_
      refine zj_forget (ls2 := [.ref 158, .ref 149, .ref x2, .int x3, .int (x4 + 1), .null, .null]) ⟨Or.inr rfl, Or.inr rfl, Or.inr rfl, Or.inr rfl, Or.inr rfl, Or.inl rfl, Or.inl rfl, trivial⟩ ?_
      exact h
theorem sg_X8_offerFromBorder_0 {G : z_G} {d : Nat} {S : z_Shp} {v : z_Dat} {Q : Option Value → z_Shp → z_Dat → Prop} {x2 : Nat} (hL : z_L S) (hx2 : z_k S x2 = 21)
    (h : vp_in (v 149 1) (z_l S x2) ∧ (∀ v1, v1 = z_u v x2 (v 149 1).toNatClampNeg 0 → (z_J G d mX8_offerFromBorder (9, [.ref 158, .ref 149, .ref x2, .int 0], [], S, v1) Q))) :
    z_J G d mX8_offerFromBorder (0, [.ref 158, .ref 149, .ref x2, .null], [], S, v) Q := by
  refine zj_aload_n dX8_offerFromBorder_0 rfl rfl ?_
  refine zj_aload_n dX8_offerFromBorder_1 rfl rfl ?_
  refine zj_getI (ci := 4) (j := 1) dX8_offerFromBorder_2 wf_X8_50 (by decide) (by decide) (zk_149 hL) rfl ?_
  refine zj_iconst (x := 0) dX8_offerFromBorder_5 rfl ?_
  refine zj_iastore dX8_offerFromBorder_6 hx2 h.1 (fun v1 ev1 => ?_)
  replace h := h.2 v1 ev1
  refine zj_iconst (x := 0) dX8_offerFromBorder_7 rfl ?_
  refine zj_istore_n (ls2 := [.ref 158, .ref 149, .ref x2, .int 0]) dX8_offerFromBorder_8 rfl (by decide) rfl rfl ?_
  exact h
theorem sg_X8_offerFromBorder_9 {G : z_G} {d : Nat} {S : z_Shp} {v : z_Dat} {Q : Option Value → z_Shp → z_Dat → Prop} {x3 : Int32} {x2 : Nat} (hL : z_L S) (hx2 : z_k S x2 = 21)
    (h : ((v 149 2) ≤ x3 → (Q none S v)) ∧ (¬ (v 149 2) ≤ x3 → ((vp_in x3 321) ∧ ((¬ (v 151 x3.toNatClampNeg) = (v 149 1) → (z_J G (d + 1) mX8_offerFromBorder (9, [.ref 158, .ref 149, .ref x2, .int (x3 + 1)], [], S, v) Q)) ∧ ((v 151 x3.toNatClampNeg) = (v 149 1) → ((vp_in x3 321) ∧ ((vp_in x3 321) ∧ (z_J G d mX8_offer (0, [.ref 158, .ref x2, .int (v 150 x3.toNatClampNeg), .int (v 152 x3.toNatClampNeg)], [], S, v) (fun r S1 v1 => r = none ∧ S1 = S ∧ (z_J G (d + 1) mX8_offerFromBorder (9, [.ref 158, .ref 149, .ref x2, .int (x3 + 1)], [], S, v1) Q)))))))))) :
    z_J G (d + 1) mX8_offerFromBorder (9, [.ref 158, .ref 149, .ref x2, .int x3], [], S, v) Q := by
  refine zj_iload_n dX8_offerFromBorder_9 rfl rfl ?_
  refine zj_aload_n dX8_offerFromBorder_10 rfl rfl ?_
  refine zj_getI (ci := 4) (j := 2) dX8_offerFromBorder_11 wf_X8_65 (by decide) (by decide) (zk_149 hL) rfl ?_
  refine zj_icmp_ge (tgt := 53) dX8_offerFromBorder_14 (by decide) (fun c => ?_) (fun c => ?_)
  · replace h := h.1 c
    exact zj_vret dX8_offerFromBorder_53 rfl h
  · replace h := h.2 c
    refine zj_aload_n dX8_offerFromBorder_17 rfl rfl ?_
    refine zj_getR (ci := 4) (j := 5) dX8_offerFromBorder_18 wf_X8_68 (by decide) (by decide) (zk_149 hL) rfl (zr_149_5 hL) ?_
    refine zj_iload_n dX8_offerFromBorder_21 rfl rfl ?_
    refine zj_iaload dX8_offerFromBorder_22 (zk_151 hL) (by rw [(zl_151 hL)]; exact h.1) ?_
    replace h := h.2
    refine zj_aload_n dX8_offerFromBorder_23 rfl rfl ?_
    refine zj_getI (ci := 4) (j := 1) dX8_offerFromBorder_24 wf_X8_50 (by decide) (by decide) (zk_149 hL) rfl ?_
    refine zj_icmp_ne (tgt := 47) dX8_offerFromBorder_27 (by decide) (fun c => ?_) (fun c => ?_)
    · replace h := h.1 c
      refine zj_iinc (y := x3 + 1) (ls2 := [.ref 158, .ref 149, .ref x2, .int (x3 + 1)]) dX8_offerFromBorder_47 rfl rfl (by decide) rfl rfl ?_
      refine zj_goto (tgt := 9) dX8_offerFromBorder_50 (by decide) ?_
      exact h
    · replace h := h.2 c
      refine zj_aload_n dX8_offerFromBorder_30 rfl rfl ?_
      refine zj_aload_n dX8_offerFromBorder_31 rfl rfl ?_
      refine zj_aload_n dX8_offerFromBorder_32 rfl rfl ?_
      refine zj_getR (ci := 4) (j := 4) dX8_offerFromBorder_33 wf_X8_71 (by decide) (by decide) (zk_149 hL) rfl (zr_149_4 hL) ?_
      refine zj_iload_n dX8_offerFromBorder_36 rfl rfl ?_
      refine zj_iaload dX8_offerFromBorder_37 (zk_150 hL) (by rw [(zl_150 hL)]; exact h.1) ?_
      replace h := h.2
      refine zj_aload_n dX8_offerFromBorder_38 rfl rfl ?_
      refine zj_getR (ci := 4) (j := 6) dX8_offerFromBorder_39 wf_X8_74 (by decide) (by decide) (zk_149 hL) rfl (zr_149_6 hL) ?_
      refine zj_iload_n dX8_offerFromBorder_42 rfl rfl ?_
      refine zj_iaload dX8_offerFromBorder_43 (zk_152 hL) (by rw [(zl_152 hL)]; exact h.1) ?_
      replace h := h.2
      refine zj_callV (M' := mX8_offer) (avs := [.ref x2, .int (v 150 x3.toNatClampNeg), .int (v 152 x3.toNatClampNeg)]) (st := []) (ci := 8) dX8_offerFromBorder_44 wm_X8_offer wl_X8_57 wi_X8_offer ws_X8_offer (by decide) (zk_158 hL) rfl rfl (by decide) rfl (Nat.le_of_ble_eq_true rfl) (Nat.le_of_ble_eq_true rfl) ⟨Or.inl (z_k0 (zk_158 hL)), Or.inl (z_k0 (zk_149 hL)), Or.inl (z_k0 hx2), trivial⟩ trivial (z_J.mono h (fun r S1 v1 hq => ?_))
      obtain ⟨rfl, rfl, h⟩ := hq
      refine zj_iinc (y := x3 + 1) (ls2 := [.ref 158, .ref 149, .ref x2, .int (x3 + 1)]) dX8_offerFromBorder_47 rfl rfl (by decide) rfl rfl ?_
      refine zj_goto (tgt := 9) dX8_offerFromBorder_50 (by decide) ?_
      exact h
theorem sg_X8_seek_0 {G : z_G} {d : Nat} {S : z_Shp} {v : z_Dat} {Q : Option Value → z_Shp → z_Dat → Prop} {x2 : Int32} {x3 : Int32} (hL : z_L S)
    (h : z_J G d mX8_measure (0, [.ref 158, .ref 149, .int x3, .ref 160, .null, .null, .null, .null], [], S, v) (fun r S1 v1 => r = none ∧ S1 = S ∧ ((vp_in x2 109) ∧ (∀ v2, v2 = z_u v1 158 0 (v1 160 x2.toNatClampNeg) → (z_J G d mX8_walk (0, [.ref 158, .ref 149, .int x2, .int x3, .ref 160, .null, .null, .null], [], S, v2) (fun r S1 v3 => r = none ∧ S1 = S ∧ (Q none S v3))))))) :
    z_J G (d + 1) mX8_seek (0, [.ref 158, .ref 149, .int x2, .int x3], [], S, v) Q := by
  refine zj_aload_n dX8_seek_0 rfl rfl ?_
  refine zj_aload_n dX8_seek_1 rfl rfl ?_
  refine zj_iload_n dX8_seek_2 rfl rfl ?_
  refine zj_aload_n dX8_seek_3 rfl rfl ?_
  refine zj_getR (ci := 8) (j := 3) dX8_seek_4 wf_X8_17 (by decide) (by decide) (zk_158 hL) rfl (zr_158_3 hL) ?_
  refine zj_callV (M' := mX8_measure) (avs := [.ref 149, .int x3, .ref 160]) (st := []) (ci := 8) dX8_seek_7 wm_X8_measure wl_X8_29 wi_X8_measure ws_X8_measure (by decide) (zk_158 hL) rfl rfl (by decide) rfl (Nat.le_of_ble_eq_true rfl) (Nat.le_of_ble_eq_true rfl) ⟨Or.inl (z_k0 (zk_158 hL)), Or.inl (z_k0 (zk_149 hL)), trivial⟩ trivial (z_J.mono h (fun r S1 v1 hq => ?_))
  obtain ⟨rfl, rfl, h⟩ := hq
  refine zj_aload_n dX8_seek_10 rfl rfl ?_
  refine zj_aload_n dX8_seek_11 rfl rfl ?_
  refine zj_getR (ci := 8) (j := 3) dX8_seek_12 wf_X8_17 (by decide) (by decide) (zk_158 hL) rfl (zr_158_3 hL) ?_
  refine zj_iload_n dX8_seek_15 rfl rfl ?_
  refine zj_iaload dX8_seek_16 (zk_160 hL) (by rw [(zl_160 hL)]; exact h.1) ?_
  replace h := h.2
  refine zj_putI (ci := 8) (j := 0) dX8_seek_17 wf_X8_33 (by decide) (by decide) (zk_158 hL) rfl rfl rfl rfl (fun v2 ev2 => ?_)
  replace h := h v2 ev2
  refine zj_aload_n dX8_seek_20 rfl rfl ?_
  refine zj_aload_n dX8_seek_21 rfl rfl ?_
  refine zj_iload_n dX8_seek_22 rfl rfl ?_
  refine zj_iload_n dX8_seek_23 rfl rfl ?_
  refine zj_aload_n dX8_seek_24 rfl rfl ?_
  refine zj_getR (ci := 8) (j := 3) dX8_seek_25 wf_X8_17 (by decide) (by decide) (zk_158 hL) rfl (zr_158_3 hL) ?_
  refine zj_callV (M' := mX8_walk) (avs := [.ref 149, .int x2, .int x3, .ref 160]) (st := []) (ci := 8) dX8_seek_28 wm_X8_walk wl_X8_37 wi_X8_walk ws_X8_walk (by decide) (zk_158 hL) rfl rfl (by decide) rfl (Nat.le_of_ble_eq_true rfl) (Nat.le_of_ble_eq_true rfl) ⟨Or.inl (z_k0 (zk_158 hL)), Or.inl (z_k0 (zk_149 hL)), trivial⟩ trivial (z_J.mono h (fun r S1 v3 hq => ?_))
  obtain ⟨rfl, rfl, h⟩ := hq
  exact zj_vret dX8_seek_31 rfl h
theorem sg_X8_walk_0 {G : z_G} {d : Nat} {S : z_Shp} {v : z_Dat} {Q : Option Value → z_Shp → z_Dat → Prop} {x2 : Int32} {x3 : Int32} {x4 : Nat} (hL : z_L S) (hx4 : z_k S x4 = 21)
    (h : ∀ v1, v1 = z_u v 158 1 0 → (z_J G d mX8_walk (11, [.ref 158, .ref 149, .int x2, .int x3, .ref x4, .int x2, .int 0, .null], [], S, v1) Q)) :
    z_J G d mX8_walk (0, [.ref 158, .ref 149, .int x2, .int x3, .ref x4, .null, .null, .null], [], S, v) Q := by
  refine zj_aload_n dX8_walk_0 rfl rfl ?_
  refine zj_iconst (x := 0) dX8_walk_1 rfl ?_
  refine zj_putI (ci := 8) (j := 1) dX8_walk_2 wf_X8_86 (by decide) (by decide) (zk_158 hL) rfl rfl rfl rfl (fun v1 ev1 => ?_)
  replace h := h v1 ev1
  refine zj_iload_n dX8_walk_5 rfl rfl ?_
  refine zj_istore (ls2 := [.ref 158, .ref 149, .int x2, .int x3, .ref x4, .int x2, .null, .null]) dX8_walk_6 (by decide) rfl rfl ?_
  refine zj_iconst (x := 0) dX8_walk_8 rfl ?_
  refine zj_istore (ls2 := [.ref 158, .ref 149, .int x2, .int x3, .ref x4, .int x2, .int 0, .null]) dX8_walk_9 (by decide) rfl rfl ?_
  exact h
theorem sg_X8_walk_11 {G : z_G} {d : Nat} {S : z_Shp} {v : z_Dat} {Q : Option Value → z_Shp → z_Dat → Prop} {x2 : Int32} {x3 : Int32} {x5 : Int32} {x6 : Int32} {x4 : Nat} (hL : z_L S) (hx4 : z_k S x4 = 21)
    (h : (256 ≤ x6 → (Q none S v)) ∧ (¬ 256 ≤ x6 → ((x5 = x3 → (Q none S v)) ∧ (¬ x5 = x3 → (z_J G d mX8_edgeFrom (0, [.ref 149, .int x5, .ref x4, .null, .null], [], S, v) (fun r S1 v1 => ∃ y1 : Int32, r = some (.int y1) ∧ S1 = S ∧ ((¬ y1 = (-1) → (vp_in (v1 158 1) 256 ∧ (∀ v2, v2 = z_u v1 159 (v1 158 1).toNatClampNeg y1 → (∀ v3, v3 = z_u v2 158 1 ((v2 158 1) + 1) → ((vp_in y1 321) ∧ (z_J G (d + 1) mX8_walk (11, [.ref 158, .ref 149, .int x2, .int x3, .ref x4, .int (if v3 150 y1.toNatClampNeg = x5 then v3 151 y1.toNatClampNeg else v3 150 y1.toNatClampNeg), .int (x6 + 1), .null], [], S, v3) Q)))))) ∧ (y1 = (-1) → (Q none S v1))))))))) :
    z_J G (d + 1) mX8_walk (11, [.ref 158, .ref 149, .int x2, .int x3, .ref x4, .int x5, .int x6, .null], [], S, v) Q := by
  refine zj_iload dX8_walk_11 rfl ?_
  refine zj_sipush (x := 256) dX8_walk_13 rfl ?_
  refine zj_icmp_ge (tgt := 79) dX8_walk_16 (by decide) (fun c => ?_) (fun c => ?_)
  · replace h := h.1 c
    exact zj_vret dX8_walk_79 rfl h
  · replace h := h.2 c
    refine zj_iload dX8_walk_19 rfl ?_
    refine zj_iload_n dX8_walk_21 rfl rfl ?_
    refine zj_icmp_eq (tgt := 79) dX8_walk_22 (by decide) (fun c => ?_) (fun c => ?_)
    · replace h := h.1 c
      exact zj_vret dX8_walk_79 rfl h
    · replace h := h.2 c
      refine zj_aload_n dX8_walk_25 rfl rfl ?_
      refine zj_iload dX8_walk_26 rfl ?_
      refine zj_aload dX8_walk_28 rfl ?_
      refine zj_callS (M' := mX8_edgeFrom) (avs := [.ref 149, .int x5, .ref x4]) (st := []) dX8_walk_30 wm_X8_edgeFrom wl_X8_89 wt_X8_edgeFrom rfl (by decide) rfl (Nat.le_of_ble_eq_true rfl) (Nat.le_of_ble_eq_true rfl) ⟨Or.inl (z_k0 (zk_158 hL)), Or.inl (z_k0 (zk_149 hL)), Or.inl (z_k0 hx4), trivial⟩ trivial (z_J.mono h (fun r S1 v1 hq => ?_))
      obtain ⟨y1, rfl, rfl, h⟩ := hq
      refine zj_istore (ls2 := [.ref 158, .ref 149, .int x2, .int x3, .ref x4, .int x5, .int x6, .int y1]) dX8_walk_33 (by decide) rfl rfl ?_
      refine zj_iload dX8_walk_35 rfl ?_
      refine zj_iconst (x := (-1)) dX8_walk_37 rfl ?_
      refine zj_icmp_ne (tgt := 42) dX8_walk_38 (by decide) (fun c => ?_) (fun c => ?_)
      · replace h := h.1 c
        refine zj_aload_n dX8_walk_42 rfl rfl ?_
        refine zj_getR (ci := 8) (j := 2) dX8_walk_43 wf_X8_13 (by decide) (by decide) (zk_158 hL) rfl (zr_158_2 hL) ?_
        refine zj_aload_n dX8_walk_46 rfl rfl ?_
        refine zj_getI (ci := 8) (j := 1) dX8_walk_47 wf_X8_86 (by decide) (by decide) (zk_158 hL) rfl ?_
        refine zj_iload dX8_walk_50 rfl ?_
        refine zj_iastore dX8_walk_52 (zk_159 hL) (by rw [(zl_159 hL)]; exact h.1) (fun v2 ev2 => ?_)
        replace h := h.2 v2 ev2
        refine zj_aload_n dX8_walk_53 rfl rfl ?_
        refine zj_dup dX8_walk_54 rfl ?_
        refine zj_getI (ci := 8) (j := 1) dX8_walk_55 wf_X8_86 (by decide) (by decide) (zk_158 hL) rfl ?_
        refine zj_iconst (x := 1) dX8_walk_58 rfl ?_
        refine zj_iadd dX8_walk_59 ?_
        refine zj_putI (ci := 8) (j := 1) dX8_walk_60 wf_X8_86 (by decide) (by decide) (zk_158 hL) rfl rfl rfl rfl (fun v3 ev3 => ?_)
        replace h := h v3 ev3
        refine zj_aload_n dX8_walk_63 rfl rfl ?_
        refine zj_iload dX8_walk_64 rfl ?_
        refine zj_iload dX8_walk_66 rfl ?_
        refine zj_callV (M' := mX4_otherEnd) (avs := [.int y1, .int x5]) (st := []) (ci := 4) dX8_walk_68 wm_X4_otherEnd wl_X8_83 wi_X4_otherEnd ws_X4_otherEnd (by decide) (zk_149 hL) rfl rfl (by decide) rfl (Nat.le_of_ble_eq_true rfl) (Nat.le_of_ble_eq_true rfl) ⟨Or.inl (z_k0 (zk_158 hL)), Or.inl (z_k0 (zk_149 hL)), Or.inl (z_k0 hx4), trivial⟩ trivial (hp_X4_otherEnd hL h.1 ?_)
        replace h := h.2
        refine zj_istore (ls2 := [.ref 158, .ref 149, .int x2, .int x3, .ref x4, .int (if v3 150 y1.toNatClampNeg = x5 then v3 151 y1.toNatClampNeg else v3 150 y1.toNatClampNeg), .int x6, .int y1]) dX8_walk_71 (by decide) rfl rfl ?_
        refine zj_iinc (y := x6 + 1) (ls2 := [.ref 158, .ref 149, .int x2, .int x3, .ref x4, .int (if v3 150 y1.toNatClampNeg = x5 then v3 151 y1.toNatClampNeg else v3 150 y1.toNatClampNeg), .int (x6 + 1), .int y1]) dX8_walk_73 rfl rfl (by decide) rfl rfl ?_
        refine zj_goto (tgt := 11) dX8_walk_76 (by decide) ?_
        refine zj_forget (ls2 := [.ref 158, .ref 149, .int x2, .int x3, .ref x4, .int (if v3 150 y1.toNatClampNeg = x5 then v3 151 y1.toNatClampNeg else v3 150 y1.toNatClampNeg), .int (x6 + 1), .null]) ⟨Or.inr rfl, Or.inr rfl, Or.inr rfl, Or.inr rfl, Or.inr rfl, Or.inr rfl, Or.inr rfl, Or.inl rfl, trivial⟩ ?_
        exact h
      · replace h := h.2 c
        exact zj_vret dX8_walk_41 rfl h
theorem sg_X9_bitsAt_0 {G : z_G} {d : Nat} {S : z_Shp} {v : z_Dat} {Q : Option Value → z_Shp → z_Dat → Prop} {w : Nat} {x1 : Int32} {x2 : Int32} (hw : z_isW w)
    (h : z_J G d mX9_bitsAt (7, [.ref w, .int x1, .int x2, .int 0, .int (x1 - 1), .null], [], S, v) Q) :
    z_J G d mX9_bitsAt (0, [.ref w, .int x1, .int x2, .null, .null, .null], [], S, v) Q := by
  refine zj_iconst (x := 0) dX9_bitsAt_0 rfl ?_
  refine zj_istore_n (ls2 := [.ref w, .int x1, .int x2, .int 0, .null, .null]) dX9_bitsAt_1 rfl (by decide) rfl rfl ?_
  refine zj_iload_n dX9_bitsAt_2 rfl rfl ?_
  refine zj_iconst (x := 1) dX9_bitsAt_3 rfl ?_
  refine zj_isub dX9_bitsAt_4 ?_
  refine zj_istore (ls2 := [.ref w, .int x1, .int x2, .int 0, .int (x1 - 1), .null]) dX9_bitsAt_5 (by decide) rfl rfl ?_
  exact h
theorem sg_X9_bitsAt_7 {G : z_G} {d : Nat} {S : z_Shp} {v : z_Dat} {Q : Option Value → z_Shp → z_Dat → Prop} {x1 : Int32} {x2 : Int32} {x3 : Int32} {x4 : Int32} {w : Nat} (hw : z_isW w)
    (h : (x1 < x4 → (Q (some (.int x3)) S v)) ∧ (¬ x1 < x4 → (z_J G d mX9_bitsAt (18, [.ref w, .int x1, .int x2, .int x3, .int x4, .int (x2 - 1)], [], S, v) Q))) :
    z_J G d mX9_bitsAt (7, [.ref w, .int x1, .int x2, .int x3, .int x4, .null], [], S, v) Q := by
  refine zj_iload dX9_bitsAt_7 rfl ?_
  refine zj_iload_n dX9_bitsAt_9 rfl rfl ?_
  refine zj_icmp_gt (tgt := 79) dX9_bitsAt_10 (by decide) (fun c => ?_) (fun c => ?_)
  · replace h := h.1 c
    refine zj_iload_n dX9_bitsAt_79 rfl rfl ?_
    exact zj_iret dX9_bitsAt_80 rfl rfl h
  · replace h := h.2 c
    refine zj_iload_n dX9_bitsAt_13 rfl rfl ?_
    refine zj_iconst (x := 1) dX9_bitsAt_14 rfl ?_
    refine zj_isub dX9_bitsAt_15 ?_
    refine zj_istore (ls2 := [.ref w, .int x1, .int x2, .int x3, .int x4, .int (x2 - 1)]) dX9_bitsAt_16 (by decide) rfl rfl ?_
    exact h
theorem sg_X9_bitsAt_18 {G : z_G} {d : Nat} {S : z_Shp} {v : z_Dat} {Q : Option Value → z_Shp → z_Dat → Prop} {x1 : Int32} {x2 : Int32} {x3 : Int32} {x4 : Int32} {x5 : Int32} {w : Nat} (hL : z_L S) (hw : z_isW w)
    (h : (x2 < x5 → (z_J G d mX9_bitsAt (7, [.ref w, .int x1, .int x2, .int x3, .int (x4 + 1), .null], [], S, v) Q)) ∧ (¬ x2 < x5 → ((x4 < 0 → (z_J G d mX9_bitsAt (18, [.ref w, .int x1, .int x2, .int x3, .int x4, .int (x5 + 1)], [], S, v) Q)) ∧ (¬ x4 < 0 → (((v w 0) ≤ x4 → (z_J G d mX9_bitsAt (18, [.ref w, .int x1, .int x2, .int x3, .int x4, .int (x5 + 1)], [], S, v) Q)) ∧ (¬ (v w 0) ≤ x4 → ((x5 < 0 → (z_J G d mX9_bitsAt (18, [.ref w, .int x1, .int x2, .int x3, .int x4, .int (x5 + 1)], [], S, v) Q)) ∧ (¬ x5 < 0 → (((v w 0) ≤ x5 → (z_J G d mX9_bitsAt (18, [.ref w, .int x1, .int x2, .int x3, .int x4, .int (x5 + 1)], [], S, v) Q)) ∧ (¬ (v w 0) ≤ x5 → (z_J G d mX9_bitsAt (18, [.ref w, .int x1, .int x2, .int (x3 ||| ((1 : Int32) <<< (((x4 * (v w 0)) + x5) &&& 31))), .int x4, .int (x5 + 1)], [], S, v) Q))))))))))) :
    z_J G d mX9_bitsAt (18, [.ref w, .int x1, .int x2, .int x3, .int x4, .int x5], [], S, v) Q := by
  refine zj_iload dX9_bitsAt_18 rfl ?_
  refine zj_iload_n dX9_bitsAt_20 rfl rfl ?_
  refine zj_icmp_gt (tgt := 73) dX9_bitsAt_21 (by decide) (fun c => ?_) (fun c => ?_)
  · replace h := h.1 c
    refine zj_iinc (y := x4 + 1) (ls2 := [.ref w, .int x1, .int x2, .int x3, .int (x4 + 1), .int x5]) dX9_bitsAt_73 rfl rfl (by decide) rfl rfl ?_
    refine zj_goto (tgt := 7) dX9_bitsAt_76 (by decide) ?_
    refine zj_forget (ls2 := [.ref w, .int x1, .int x2, .int x3, .int (x4 + 1), .null]) ⟨Or.inr rfl, Or.inr rfl, Or.inr rfl, Or.inr rfl, Or.inr rfl, Or.inl rfl, trivial⟩ ?_
    exact h
  · replace h := h.2 c
    refine zj_iload dX9_bitsAt_24 rfl ?_
    refine zj_if_lt (tgt := 67) dX9_bitsAt_26 (by decide) (fun c => ?_) (fun c => ?_)
    · replace h := h.1 c
      refine zj_iinc (y := x5 + 1) (ls2 := [.ref w, .int x1, .int x2, .int x3, .int x4, .int (x5 + 1)]) dX9_bitsAt_67 rfl rfl (by decide) rfl rfl ?_
      refine zj_goto (tgt := 18) dX9_bitsAt_70 (by decide) ?_
      exact h
    · replace h := h.2 c
      refine zj_iload dX9_bitsAt_29 rfl ?_
      refine zj_aload_n dX9_bitsAt_31 rfl rfl ?_
      refine zj_getI (ci := 9) (j := 0) dX9_bitsAt_32 wf_X9_35 (by decide) (by decide) (zWk0 hL hw) rfl ?_
      refine zj_icmp_ge (tgt := 67) dX9_bitsAt_35 (by decide) (fun c => ?_) (fun c => ?_)
      · replace h := h.1 c
        refine zj_iinc (y := x5 + 1) (ls2 := [.ref w, .int x1, .int x2, .int x3, .int x4, .int (x5 + 1)]) dX9_bitsAt_67 rfl rfl (by decide) rfl rfl ?_
        refine zj_goto (tgt := 18) dX9_bitsAt_70 (by decide) ?_
        exact h
      · replace h := h.2 c
        refine zj_iload dX9_bitsAt_38 rfl ?_
        refine zj_if_lt (tgt := 67) dX9_bitsAt_40 (by decide) (fun c => ?_) (fun c => ?_)
        · replace h := h.1 c
          refine zj_iinc (y := x5 + 1) (ls2 := [.ref w, .int x1, .int x2, .int x3, .int x4, .int (x5 + 1)]) dX9_bitsAt_67 rfl rfl (by decide) rfl rfl ?_
          refine zj_goto (tgt := 18) dX9_bitsAt_70 (by decide) ?_
          exact h
        · replace h := h.2 c
          refine zj_iload dX9_bitsAt_43 rfl ?_
          refine zj_aload_n dX9_bitsAt_45 rfl rfl ?_
          refine zj_getI (ci := 9) (j := 0) dX9_bitsAt_46 wf_X9_35 (by decide) (by decide) (zWk0 hL hw) rfl ?_
          refine zj_icmp_ge (tgt := 67) dX9_bitsAt_49 (by decide) (fun c => ?_) (fun c => ?_)
          · replace h := h.1 c
            refine zj_iinc (y := x5 + 1) (ls2 := [.ref w, .int x1, .int x2, .int x3, .int x4, .int (x5 + 1)]) dX9_bitsAt_67 rfl rfl (by decide) rfl rfl ?_
            refine zj_goto (tgt := 18) dX9_bitsAt_70 (by decide) ?_
            exact h
          · replace h := h.2 c
            refine zj_iload_n dX9_bitsAt_52 rfl rfl ?_
            refine zj_iconst (x := 1) dX9_bitsAt_53 rfl ?_
            refine zj_iload dX9_bitsAt_54 rfl ?_
            refine zj_aload_n dX9_bitsAt_56 rfl rfl ?_
            refine zj_getI (ci := 9) (j := 0) dX9_bitsAt_57 wf_X9_35 (by decide) (by decide) (zWk0 hL hw) rfl ?_
            refine zj_imul dX9_bitsAt_60 ?_
            refine zj_iload dX9_bitsAt_61 rfl ?_
            refine zj_iadd dX9_bitsAt_63 ?_
            refine zj_ishl dX9_bitsAt_64 ?_
            refine zj_ior dX9_bitsAt_65 ?_
            refine zj_istore_n (ls2 := [.ref w, .int x1, .int x2, .int (x3 ||| ((1 : Int32) <<< (((x4 * (v w 0)) + x5) &&& 31))), .int x4, .int x5]) dX9_bitsAt_66 rfl (by decide) rfl rfl ?_
            refine zj_iinc (y := x5 + 1) (ls2 := [.ref w, .int x1, .int x2, .int (x3 ||| ((1 : Int32) <<< (((x4 * (v w 0)) + x5) &&& 31))), .int x4, .int (x5 + 1)]) dX9_bitsAt_67 rfl rfl (by decide) rfl rfl ?_
            refine zj_goto (tgt := 18) dX9_bitsAt_70 (by decide) ?_
            exact h
theorem sg_X9_checksOn_0 {G : z_G} {d : Nat} {S : z_Shp} {v : z_Dat} {Q : Option Value → z_Shp → z_Dat → Prop} {w : Nat} {x1 : Int32} {x2 : Int32} (hw : z_isW w)
    (h : z_J G d mX9_checksOn (5, [.ref w, .int x1, .int x2, .int 0, .int 0], [], S, v) Q) :
    z_J G d mX9_checksOn (0, [.ref w, .int x1, .int x2, .null, .null], [], S, v) Q := by
  refine zj_iconst (x := 0) dX9_checksOn_0 rfl ?_
  refine zj_istore_n (ls2 := [.ref w, .int x1, .int x2, .int 0, .null]) dX9_checksOn_1 rfl (by decide) rfl rfl ?_
  refine zj_iconst (x := 0) dX9_checksOn_2 rfl ?_
  refine zj_istore (ls2 := [.ref w, .int x1, .int x2, .int 0, .int 0]) dX9_checksOn_3 (by decide) rfl rfl ?_
  exact h
theorem sg_X9_checksOn_5 {G : z_G} {d : Nat} {S : z_Shp} {v : z_Dat} {Q : Option Value → z_Shp → z_Dat → Prop} {x1 : Int32} {x2 : Int32} {x3 : Int32} {x4 : Int32} {w : Nat} (hL : z_L S) (hw : z_isW w)
    (h : ((v w 2) ≤ x4 → (Q (some (.int x3)) S v)) ∧ (¬ (v w 2) ≤ x4 → ((vp_in x1 2) ∧ ((vp_in x4 12) ∧ (z_J G d mX9_checksOn (5, [.ref w, .int x1, .int x2, .int (x3 ||| ((((v (w + 8 + x1.toNatClampNeg) x4.toNatClampNeg) >>> (x2 &&& 31)) &&& 1) <<< (x4 &&& 31))), .int (x4 + 1)], [], S, v) Q))))) :
    z_J G d mX9_checksOn (5, [.ref w, .int x1, .int x2, .int x3, .int x4], [], S, v) Q := by
  refine zj_iload dX9_checksOn_5 rfl ?_
  refine zj_aload_n dX9_checksOn_7 rfl rfl ?_
  refine zj_getI (ci := 9) (j := 2) dX9_checksOn_8 wf_X9_42 (by decide) (by decide) (zWk0 hL hw) rfl ?_
  refine zj_icmp_ge (tgt := 39) dX9_checksOn_11 (by decide) (fun c => ?_) (fun c => ?_)
  · replace h := h.1 c
    refine zj_iload_n dX9_checksOn_39 rfl rfl ?_
    exact zj_iret dX9_checksOn_40 rfl rfl h
  · replace h := h.2 c
    refine zj_iload_n dX9_checksOn_14 rfl rfl ?_
    refine zj_aload_n dX9_checksOn_15 rfl rfl ?_
    refine zj_getR (ci := 9) (j := 5) dX9_checksOn_16 wf_X9_19 (by decide) (by decide) (zWk0 hL hw) rfl (zWr0_5 hL hw) ?_
    refine zj_iload_n dX9_checksOn_19 rfl rfl ?_
    obtain ⟨hi1, h⟩ := h
    refine zj_aaload0 dX9_checksOn_20 (zWk7 hL hw) (by rw [(zWl7 hL hw)]; exact hi1) (zWg7r hL hw hi1) ?_
    refine zj_iload dX9_checksOn_21 rfl ?_
    refine zj_iaload dX9_checksOn_23 (zWg7k hL hw hi1) (by rw [(zWg7l hL hw hi1)]; exact h.1) ?_
    replace h := h.2
    refine zj_iload_n dX9_checksOn_24 rfl rfl ?_
    refine zj_ishr dX9_checksOn_25 ?_
    refine zj_iconst (x := 1) dX9_checksOn_26 rfl ?_
    refine zj_iand dX9_checksOn_27 ?_
    refine zj_iload dX9_checksOn_28 rfl ?_
    refine zj_ishl dX9_checksOn_30 ?_
    refine zj_ior dX9_checksOn_31 ?_
    refine zj_istore_n (ls2 := [.ref w, .int x1, .int x2, .int (x3 ||| ((((v (w + 8 + x1.toNatClampNeg) x4.toNatClampNeg) >>> (x2 &&& 31)) &&& 1) <<< (x4 &&& 31))), .int x4]) dX9_checksOn_32 rfl (by decide) rfl rfl ?_
    refine zj_iinc (y := x4 + 1) (ls2 := [.ref w, .int x1, .int x2, .int (x3 ||| ((((v (w + 8 + x1.toNatClampNeg) x4.toNatClampNeg) >>> (x2 &&& 31)) &&& 1) <<< (x4 &&& 31))), .int (x4 + 1)]) dX9_checksOn_33 rfl rfl (by decide) rfl rfl ?_
    refine zj_goto (tgt := 5) dX9_checksOn_36 (by decide) ?_
    exact h
theorem sg_X9_kindAt_0 {G : z_G} {d : Nat} {S : z_Shp} {v : z_Dat} {Q : Option Value → z_Shp → z_Dat → Prop} {w : Nat} {x1 : Int32} {x2 : Int32} (hL : z_L S) (hw : z_isW w)
    (h : (x1 < 1 → ((x2 < 1 → ((¬ ((x1 + x2) - (x1 + x2) / 2 * 2) = 0 → (Q (some (.int (-1))) S v)) ∧ (((x1 + x2) - (x1 + x2) / 2 * 2) = 0 → (Q (some (.int (-1))) S v)))) ∧ (¬ x2 < 1 → (((v w 0) ≤ x2 → ((¬ ((x1 + x2) - (x1 + x2) / 2 * 2) = 0 → (Q (some (.int (-1))) S v)) ∧ (((x1 + x2) - (x1 + x2) / 2 * 2) = 0 → (Q (some (.int (-1))) S v)))) ∧ (¬ (v w 0) ≤ x2 → ((¬ ((x1 + x2) - (x1 + x2) / 2 * 2) = 0 → (Q (some (.int 1)) S v)) ∧ (((x1 + x2) - (x1 + x2) / 2 * 2) = 0 → (Q (some (.int (-1))) S v)))))))) ∧ (¬ x1 < 1 → (((v w 0) ≤ x1 → ((x2 < 1 → ((¬ ((x1 + x2) - (x1 + x2) / 2 * 2) = 0 → (Q (some (.int (-1))) S v)) ∧ (((x1 + x2) - (x1 + x2) / 2 * 2) = 0 → (Q (some (.int (-1))) S v)))) ∧ (¬ x2 < 1 → (((v w 0) ≤ x2 → ((¬ ((x1 + x2) - (x1 + x2) / 2 * 2) = 0 → (Q (some (.int (-1))) S v)) ∧ (((x1 + x2) - (x1 + x2) / 2 * 2) = 0 → (Q (some (.int (-1))) S v)))) ∧ (¬ (v w 0) ≤ x2 → ((¬ ((x1 + x2) - (x1 + x2) / 2 * 2) = 0 → (Q (some (.int 1)) S v)) ∧ (((x1 + x2) - (x1 + x2) / 2 * 2) = 0 → (Q (some (.int (-1))) S v)))))))) ∧ (¬ (v w 0) ≤ x1 → ((x2 < 1 → ((¬ ((x1 + x2) - (x1 + x2) / 2 * 2) = 0 → (Q (some (.int (-1))) S v)) ∧ (((x1 + x2) - (x1 + x2) / 2 * 2) = 0 → (Q (some (.int 0)) S v)))) ∧ (¬ x2 < 1 → (((v w 0) ≤ x2 → ((¬ ((x1 + x2) - (x1 + x2) / 2 * 2) = 0 → (Q (some (.int (-1))) S v)) ∧ (((x1 + x2) - (x1 + x2) / 2 * 2) = 0 → (Q (some (.int 0)) S v)))) ∧ (¬ (v w 0) ≤ x2 → ((¬ ((x1 + x2) - (x1 + x2) / 2 * 2) = 0 → (Q (some (.int 1)) S v)) ∧ (((x1 + x2) - (x1 + x2) / 2 * 2) = 0 → (Q (some (.int 0)) S v))))))))))) :
    z_J G d mX9_kindAt (0, [.ref w, .int x1, .int x2, .null, .null, .null], [], S, v) Q := by
  refine zj_iload_n dX9_kindAt_0 rfl rfl ?_
  refine zj_iconst (x := 1) dX9_kindAt_1 rfl ?_
  refine zj_icmp_lt (tgt := 17) dX9_kindAt_2 (by decide) (fun c => ?_) (fun c => ?_)
  · replace h := h.1 c
    refine zj_iconst (x := 0) dX9_kindAt_17 rfl ?_
    refine zj_istore_n (ls2 := [.ref w, .int x1, .int x2, .int 0, .null, .null]) dX9_kindAt_18 rfl (by decide) rfl rfl ?_
    refine zj_iload_n dX9_kindAt_19 rfl rfl ?_
    refine zj_iconst (x := 1) dX9_kindAt_20 rfl ?_
    refine zj_icmp_lt (tgt := 36) dX9_kindAt_21 (by decide) (fun c => ?_) (fun c => ?_)
    · replace h := h.1 c
      refine zj_iconst (x := 0) dX9_kindAt_36 rfl ?_
      refine zj_istore (ls2 := [.ref w, .int x1, .int x2, .int 0, .int 0, .null]) dX9_kindAt_37 (by decide) rfl rfl ?_
      refine zj_iload_n dX9_kindAt_39 rfl rfl ?_
      refine zj_iload_n dX9_kindAt_40 rfl rfl ?_
      refine zj_iadd dX9_kindAt_41 ?_
      refine zj_iconst (x := 2) dX9_kindAt_42 rfl ?_
      refine zj_irem dX9_kindAt_43 (by decide) ?_
      refine zj_if_ne (tgt := 51) dX9_kindAt_44 (by decide) (fun c => ?_) (fun c => ?_)
      · replace h := h.1 c
        refine zj_iconst (x := 1) dX9_kindAt_51 rfl ?_
        refine zj_istore (ls2 := [.ref w, .int x1, .int x2, .int 0, .int 0, .int 1]) dX9_kindAt_52 (by decide) rfl rfl ?_
        refine zj_iload_n dX9_kindAt_54 rfl rfl ?_
        refine zj_if_eq (tgt := 66) dX9_kindAt_55 (by decide) (fun _ => ?_) (fun q => absurd (by decide) q)
        refine zj_iload_n dX9_kindAt_66 rfl rfl ?_
        refine zj_if_eq (tgt := 81) dX9_kindAt_67 (by decide) (fun _ => ?_) (fun q => absurd (by decide) q)
        refine zj_iload dX9_kindAt_81 rfl ?_
        refine zj_if_eq (tgt := 98) dX9_kindAt_83 (by decide) (fun _ => ?_) (fun q => absurd (by decide) q)
        refine zj_iconst (x := (-1)) dX9_kindAt_98 rfl ?_
        exact zj_iret dX9_kindAt_99 rfl rfl h
      · replace h := h.2 c
        refine zj_iconst (x := 0) dX9_kindAt_47 rfl ?_
        refine zj_goto (tgt := 52) dX9_kindAt_48 (by decide) ?_
        refine zj_istore (ls2 := [.ref w, .int x1, .int x2, .int 0, .int 0, .int 0]) dX9_kindAt_52 (by decide) rfl rfl ?_
        refine zj_iload_n dX9_kindAt_54 rfl rfl ?_
        refine zj_if_eq (tgt := 66) dX9_kindAt_55 (by decide) (fun _ => ?_) (fun q => absurd (by decide) q)
        refine zj_iload_n dX9_kindAt_66 rfl rfl ?_
        refine zj_if_eq (tgt := 81) dX9_kindAt_67 (by decide) (fun _ => ?_) (fun q => absurd (by decide) q)
        refine zj_iload dX9_kindAt_81 rfl ?_
        refine zj_if_eq (tgt := 98) dX9_kindAt_83 (by decide) (fun _ => ?_) (fun q => absurd (by decide) q)
        refine zj_iconst (x := (-1)) dX9_kindAt_98 rfl ?_
        exact zj_iret dX9_kindAt_99 rfl rfl h
    · replace h := h.2 c
      refine zj_iload_n dX9_kindAt_24 rfl rfl ?_
      refine zj_aload_n dX9_kindAt_25 rfl rfl ?_
      refine zj_getI (ci := 9) (j := 0) dX9_kindAt_26 wf_X9_35 (by decide) (by decide) (zWk0 hL hw) rfl ?_
      refine zj_icmp_ge (tgt := 36) dX9_kindAt_29 (by decide) (fun c => ?_) (fun c => ?_)
      · replace h := h.1 c
        refine zj_iconst (x := 0) dX9_kindAt_36 rfl ?_
        refine zj_istore (ls2 := [.ref w, .int x1, .int x2, .int 0, .int 0, .null]) dX9_kindAt_37 (by decide) rfl rfl ?_
        refine zj_iload_n dX9_kindAt_39 rfl rfl ?_
        refine zj_iload_n dX9_kindAt_40 rfl rfl ?_
        refine zj_iadd dX9_kindAt_41 ?_
        refine zj_iconst (x := 2) dX9_kindAt_42 rfl ?_
        refine zj_irem dX9_kindAt_43 (by decide) ?_
        refine zj_if_ne (tgt := 51) dX9_kindAt_44 (by decide) (fun c => ?_) (fun c => ?_)
        · replace h := h.1 c
          refine zj_iconst (x := 1) dX9_kindAt_51 rfl ?_
          refine zj_istore (ls2 := [.ref w, .int x1, .int x2, .int 0, .int 0, .int 1]) dX9_kindAt_52 (by decide) rfl rfl ?_
          refine zj_iload_n dX9_kindAt_54 rfl rfl ?_
          refine zj_if_eq (tgt := 66) dX9_kindAt_55 (by decide) (fun _ => ?_) (fun q => absurd (by decide) q)
          refine zj_iload_n dX9_kindAt_66 rfl rfl ?_
          refine zj_if_eq (tgt := 81) dX9_kindAt_67 (by decide) (fun _ => ?_) (fun q => absurd (by decide) q)
          refine zj_iload dX9_kindAt_81 rfl ?_
          refine zj_if_eq (tgt := 98) dX9_kindAt_83 (by decide) (fun _ => ?_) (fun q => absurd (by decide) q)
          refine zj_iconst (x := (-1)) dX9_kindAt_98 rfl ?_
          exact zj_iret dX9_kindAt_99 rfl rfl h
        · replace h := h.2 c
          refine zj_iconst (x := 0) dX9_kindAt_47 rfl ?_
          refine zj_goto (tgt := 52) dX9_kindAt_48 (by decide) ?_
          refine zj_istore (ls2 := [.ref w, .int x1, .int x2, .int 0, .int 0, .int 0]) dX9_kindAt_52 (by decide) rfl rfl ?_
          refine zj_iload_n dX9_kindAt_54 rfl rfl ?_
          refine zj_if_eq (tgt := 66) dX9_kindAt_55 (by decide) (fun _ => ?_) (fun q => absurd (by decide) q)
          refine zj_iload_n dX9_kindAt_66 rfl rfl ?_
          refine zj_if_eq (tgt := 81) dX9_kindAt_67 (by decide) (fun _ => ?_) (fun q => absurd (by decide) q)
          refine zj_iload dX9_kindAt_81 rfl ?_
          refine zj_if_eq (tgt := 98) dX9_kindAt_83 (by decide) (fun _ => ?_) (fun q => absurd (by decide) q)
          refine zj_iconst (x := (-1)) dX9_kindAt_98 rfl ?_
          exact zj_iret dX9_kindAt_99 rfl rfl h
      · replace h := h.2 c
        refine zj_iconst (x := 1) dX9_kindAt_32 rfl ?_
        refine zj_goto (tgt := 37) dX9_kindAt_33 (by decide) ?_
        refine zj_istore (ls2 := [.ref w, .int x1, .int x2, .int 0, .int 1, .null]) dX9_kindAt_37 (by decide) rfl rfl ?_
        refine zj_iload_n dX9_kindAt_39 rfl rfl ?_
        refine zj_iload_n dX9_kindAt_40 rfl rfl ?_
        refine zj_iadd dX9_kindAt_41 ?_
        refine zj_iconst (x := 2) dX9_kindAt_42 rfl ?_
        refine zj_irem dX9_kindAt_43 (by decide) ?_
        refine zj_if_ne (tgt := 51) dX9_kindAt_44 (by decide) (fun c => ?_) (fun c => ?_)
        · replace h := h.1 c
          refine zj_iconst (x := 1) dX9_kindAt_51 rfl ?_
          refine zj_istore (ls2 := [.ref w, .int x1, .int x2, .int 0, .int 1, .int 1]) dX9_kindAt_52 (by decide) rfl rfl ?_
          refine zj_iload_n dX9_kindAt_54 rfl rfl ?_
          refine zj_if_eq (tgt := 66) dX9_kindAt_55 (by decide) (fun _ => ?_) (fun q => absurd (by decide) q)
          refine zj_iload_n dX9_kindAt_66 rfl rfl ?_
          refine zj_if_eq (tgt := 81) dX9_kindAt_67 (by decide) (fun _ => ?_) (fun q => absurd (by decide) q)
          refine zj_iload dX9_kindAt_81 rfl ?_
          refine zj_if_eq (tgt := 98) dX9_kindAt_83 (by decide) (fun q => absurd q (by decide)) (fun _ => ?_)
          refine zj_iload dX9_kindAt_86 rfl ?_
          refine zj_iconst (x := 1) dX9_kindAt_88 rfl ?_
          refine zj_icmp_ne (tgt := 96) dX9_kindAt_89 (by decide) (fun q => absurd (by decide) q) (fun _ => ?_)
          refine zj_iconst (x := 1) dX9_kindAt_92 rfl ?_
          refine zj_goto (tgt := 97) dX9_kindAt_93 (by decide) ?_
          exact zj_iret dX9_kindAt_97 rfl rfl h
        · replace h := h.2 c
          refine zj_iconst (x := 0) dX9_kindAt_47 rfl ?_
          refine zj_goto (tgt := 52) dX9_kindAt_48 (by decide) ?_
          refine zj_istore (ls2 := [.ref w, .int x1, .int x2, .int 0, .int 1, .int 0]) dX9_kindAt_52 (by decide) rfl rfl ?_
          refine zj_iload_n dX9_kindAt_54 rfl rfl ?_
          refine zj_if_eq (tgt := 66) dX9_kindAt_55 (by decide) (fun _ => ?_) (fun q => absurd (by decide) q)
          refine zj_iload_n dX9_kindAt_66 rfl rfl ?_
          refine zj_if_eq (tgt := 81) dX9_kindAt_67 (by decide) (fun _ => ?_) (fun q => absurd (by decide) q)
          refine zj_iload dX9_kindAt_81 rfl ?_
          refine zj_if_eq (tgt := 98) dX9_kindAt_83 (by decide) (fun q => absurd q (by decide)) (fun _ => ?_)
          refine zj_iload dX9_kindAt_86 rfl ?_
          refine zj_iconst (x := 1) dX9_kindAt_88 rfl ?_
          refine zj_icmp_ne (tgt := 96) dX9_kindAt_89 (by decide) (fun _ => ?_) (fun q => absurd q (by decide))
          refine zj_iconst (x := (-1)) dX9_kindAt_96 rfl ?_
          exact zj_iret dX9_kindAt_97 rfl rfl h
  · replace h := h.2 c
    refine zj_iload_n dX9_kindAt_5 rfl rfl ?_
    refine zj_aload_n dX9_kindAt_6 rfl rfl ?_
    refine zj_getI (ci := 9) (j := 0) dX9_kindAt_7 wf_X9_35 (by decide) (by decide) (zWk0 hL hw) rfl ?_
    refine zj_icmp_ge (tgt := 17) dX9_kindAt_10 (by decide) (fun c => ?_) (fun c => ?_)
    · replace h := h.1 c
      refine zj_iconst (x := 0) dX9_kindAt_17 rfl ?_
      refine zj_istore_n (ls2 := [.ref w, .int x1, .int x2, .int 0, .null, .null]) dX9_kindAt_18 rfl (by decide) rfl rfl ?_
      refine zj_iload_n dX9_kindAt_19 rfl rfl ?_
      refine zj_iconst (x := 1) dX9_kindAt_20 rfl ?_
      refine zj_icmp_lt (tgt := 36) dX9_kindAt_21 (by decide) (fun c => ?_) (fun c => ?_)
      · replace h := h.1 c
        refine zj_iconst (x := 0) dX9_kindAt_36 rfl ?_
        refine zj_istore (ls2 := [.ref w, .int x1, .int x2, .int 0, .int 0, .null]) dX9_kindAt_37 (by decide) rfl rfl ?_
        refine zj_iload_n dX9_kindAt_39 rfl rfl ?_
        refine zj_iload_n dX9_kindAt_40 rfl rfl ?_
        refine zj_iadd dX9_kindAt_41 ?_
        refine zj_iconst (x := 2) dX9_kindAt_42 rfl ?_
        refine zj_irem dX9_kindAt_43 (by decide) ?_
        refine zj_if_ne (tgt := 51) dX9_kindAt_44 (by decide) (fun c => ?_) (fun c => ?_)
        · replace h := h.1 c
          refine zj_iconst (x := 1) dX9_kindAt_51 rfl ?_
          refine zj_istore (ls2 := [.ref w, .int x1, .int x2, .int 0, .int 0, .int 1]) dX9_kindAt_52 (by decide) rfl rfl ?_
          refine zj_iload_n dX9_kindAt_54 rfl rfl ?_
          refine zj_if_eq (tgt := 66) dX9_kindAt_55 (by decide) (fun _ => ?_) (fun q => absurd (by decide) q)
          refine zj_iload_n dX9_kindAt_66 rfl rfl ?_
          refine zj_if_eq (tgt := 81) dX9_kindAt_67 (by decide) (fun _ => ?_) (fun q => absurd (by decide) q)
          refine zj_iload dX9_kindAt_81 rfl ?_
          refine zj_if_eq (tgt := 98) dX9_kindAt_83 (by decide) (fun _ => ?_) (fun q => absurd (by decide) q)
          refine zj_iconst (x := (-1)) dX9_kindAt_98 rfl ?_
          exact zj_iret dX9_kindAt_99 rfl rfl h
        · replace h := h.2 c
          refine zj_iconst (x := 0) dX9_kindAt_47 rfl ?_
          refine zj_goto (tgt := 52) dX9_kindAt_48 (by decide) ?_
          refine zj_istore (ls2 := [.ref w, .int x1, .int x2, .int 0, .int 0, .int 0]) dX9_kindAt_52 (by decide) rfl rfl ?_
          refine zj_iload_n dX9_kindAt_54 rfl rfl ?_
          refine zj_if_eq (tgt := 66) dX9_kindAt_55 (by decide) (fun _ => ?_) (fun q => absurd (by decide) q)
          refine zj_iload_n dX9_kindAt_66 rfl rfl ?_
          refine zj_if_eq (tgt := 81) dX9_kindAt_67 (by decide) (fun _ => ?_) (fun q => absurd (by decide) q)
          refine zj_iload dX9_kindAt_81 rfl ?_
          refine zj_if_eq (tgt := 98) dX9_kindAt_83 (by decide) (fun _ => ?_) (fun q => absurd (by decide) q)
          refine zj_iconst (x := (-1)) dX9_kindAt_98 rfl ?_
          exact zj_iret dX9_kindAt_99 rfl rfl h
      · replace h := h.2 c
        refine zj_iload_n dX9_kindAt_24 rfl rfl ?_
        refine zj_aload_n dX9_kindAt_25 rfl rfl ?_
        refine zj_getI (ci := 9) (j := 0) dX9_kindAt_26 wf_X9_35 (by decide) (by decide) (zWk0 hL hw) rfl ?_
        refine zj_icmp_ge (tgt := 36) dX9_kindAt_29 (by decide) (fun c => ?_) (fun c => ?_)
        · replace h := h.1 c
          refine zj_iconst (x := 0) dX9_kindAt_36 rfl ?_
          refine zj_istore (ls2 := [.ref w, .int x1, .int x2, .int 0, .int 0, .null]) dX9_kindAt_37 (by decide) rfl rfl ?_
          refine zj_iload_n dX9_kindAt_39 rfl rfl ?_
          refine zj_iload_n dX9_kindAt_40 rfl rfl ?_
          refine zj_iadd dX9_kindAt_41 ?_
          refine zj_iconst (x := 2) dX9_kindAt_42 rfl ?_
          refine zj_irem dX9_kindAt_43 (by decide) ?_
          refine zj_if_ne (tgt := 51) dX9_kindAt_44 (by decide) (fun c => ?_) (fun c => ?_)
          · replace h := h.1 c
            refine zj_iconst (x := 1) dX9_kindAt_51 rfl ?_
            refine zj_istore (ls2 := [.ref w, .int x1, .int x2, .int 0, .int 0, .int 1]) dX9_kindAt_52 (by decide) rfl rfl ?_
            refine zj_iload_n dX9_kindAt_54 rfl rfl ?_
            refine zj_if_eq (tgt := 66) dX9_kindAt_55 (by decide) (fun _ => ?_) (fun q => absurd (by decide) q)
            refine zj_iload_n dX9_kindAt_66 rfl rfl ?_
            refine zj_if_eq (tgt := 81) dX9_kindAt_67 (by decide) (fun _ => ?_) (fun q => absurd (by decide) q)
            refine zj_iload dX9_kindAt_81 rfl ?_
            refine zj_if_eq (tgt := 98) dX9_kindAt_83 (by decide) (fun _ => ?_) (fun q => absurd (by decide) q)
            refine zj_iconst (x := (-1)) dX9_kindAt_98 rfl ?_
            exact zj_iret dX9_kindAt_99 rfl rfl h
          · replace h := h.2 c
            refine zj_iconst (x := 0) dX9_kindAt_47 rfl ?_
            refine zj_goto (tgt := 52) dX9_kindAt_48 (by decide) ?_
            refine zj_istore (ls2 := [.ref w, .int x1, .int x2, .int 0, .int 0, .int 0]) dX9_kindAt_52 (by decide) rfl rfl ?_
            refine zj_iload_n dX9_kindAt_54 rfl rfl ?_
            refine zj_if_eq (tgt := 66) dX9_kindAt_55 (by decide) (fun _ => ?_) (fun q => absurd (by decide) q)
            refine zj_iload_n dX9_kindAt_66 rfl rfl ?_
            refine zj_if_eq (tgt := 81) dX9_kindAt_67 (by decide) (fun _ => ?_) (fun q => absurd (by decide) q)
            refine zj_iload dX9_kindAt_81 rfl ?_
            refine zj_if_eq (tgt := 98) dX9_kindAt_83 (by decide) (fun _ => ?_) (fun q => absurd (by decide) q)
            refine zj_iconst (x := (-1)) dX9_kindAt_98 rfl ?_
            exact zj_iret dX9_kindAt_99 rfl rfl h
        · replace h := h.2 c
          refine zj_iconst (x := 1) dX9_kindAt_32 rfl ?_
          refine zj_goto (tgt := 37) dX9_kindAt_33 (by decide) ?_
          refine zj_istore (ls2 := [.ref w, .int x1, .int x2, .int 0, .int 1, .null]) dX9_kindAt_37 (by decide) rfl rfl ?_
          refine zj_iload_n dX9_kindAt_39 rfl rfl ?_
          refine zj_iload_n dX9_kindAt_40 rfl rfl ?_
          refine zj_iadd dX9_kindAt_41 ?_
          refine zj_iconst (x := 2) dX9_kindAt_42 rfl ?_
          refine zj_irem dX9_kindAt_43 (by decide) ?_
          refine zj_if_ne (tgt := 51) dX9_kindAt_44 (by decide) (fun c => ?_) (fun c => ?_)
          · replace h := h.1 c
            refine zj_iconst (x := 1) dX9_kindAt_51 rfl ?_
            refine zj_istore (ls2 := [.ref w, .int x1, .int x2, .int 0, .int 1, .int 1]) dX9_kindAt_52 (by decide) rfl rfl ?_
            refine zj_iload_n dX9_kindAt_54 rfl rfl ?_
            refine zj_if_eq (tgt := 66) dX9_kindAt_55 (by decide) (fun _ => ?_) (fun q => absurd (by decide) q)
            refine zj_iload_n dX9_kindAt_66 rfl rfl ?_
            refine zj_if_eq (tgt := 81) dX9_kindAt_67 (by decide) (fun _ => ?_) (fun q => absurd (by decide) q)
            refine zj_iload dX9_kindAt_81 rfl ?_
            refine zj_if_eq (tgt := 98) dX9_kindAt_83 (by decide) (fun q => absurd q (by decide)) (fun _ => ?_)
            refine zj_iload dX9_kindAt_86 rfl ?_
            refine zj_iconst (x := 1) dX9_kindAt_88 rfl ?_
            refine zj_icmp_ne (tgt := 96) dX9_kindAt_89 (by decide) (fun q => absurd (by decide) q) (fun _ => ?_)
            refine zj_iconst (x := 1) dX9_kindAt_92 rfl ?_
            refine zj_goto (tgt := 97) dX9_kindAt_93 (by decide) ?_
            exact zj_iret dX9_kindAt_97 rfl rfl h
          · replace h := h.2 c
            refine zj_iconst (x := 0) dX9_kindAt_47 rfl ?_
            refine zj_goto (tgt := 52) dX9_kindAt_48 (by decide) ?_
            refine zj_istore (ls2 := [.ref w, .int x1, .int x2, .int 0, .int 1, .int 0]) dX9_kindAt_52 (by decide) rfl rfl ?_
            refine zj_iload_n dX9_kindAt_54 rfl rfl ?_
            refine zj_if_eq (tgt := 66) dX9_kindAt_55 (by decide) (fun _ => ?_) (fun q => absurd (by decide) q)
            refine zj_iload_n dX9_kindAt_66 rfl rfl ?_
            refine zj_if_eq (tgt := 81) dX9_kindAt_67 (by decide) (fun _ => ?_) (fun q => absurd (by decide) q)
            refine zj_iload dX9_kindAt_81 rfl ?_
            refine zj_if_eq (tgt := 98) dX9_kindAt_83 (by decide) (fun q => absurd q (by decide)) (fun _ => ?_)
            refine zj_iload dX9_kindAt_86 rfl ?_
            refine zj_iconst (x := 1) dX9_kindAt_88 rfl ?_
            refine zj_icmp_ne (tgt := 96) dX9_kindAt_89 (by decide) (fun _ => ?_) (fun q => absurd q (by decide))
            refine zj_iconst (x := (-1)) dX9_kindAt_96 rfl ?_
            exact zj_iret dX9_kindAt_97 rfl rfl h
    · replace h := h.2 c
      refine zj_iconst (x := 1) dX9_kindAt_13 rfl ?_
      refine zj_goto (tgt := 18) dX9_kindAt_14 (by decide) ?_
      refine zj_istore_n (ls2 := [.ref w, .int x1, .int x2, .int 1, .null, .null]) dX9_kindAt_18 rfl (by decide) rfl rfl ?_
      refine zj_iload_n dX9_kindAt_19 rfl rfl ?_
      refine zj_iconst (x := 1) dX9_kindAt_20 rfl ?_
      refine zj_icmp_lt (tgt := 36) dX9_kindAt_21 (by decide) (fun c => ?_) (fun c => ?_)
      · replace h := h.1 c
        refine zj_iconst (x := 0) dX9_kindAt_36 rfl ?_
        refine zj_istore (ls2 := [.ref w, .int x1, .int x2, .int 1, .int 0, .null]) dX9_kindAt_37 (by decide) rfl rfl ?_
        refine zj_iload_n dX9_kindAt_39 rfl rfl ?_
        refine zj_iload_n dX9_kindAt_40 rfl rfl ?_
        refine zj_iadd dX9_kindAt_41 ?_
        refine zj_iconst (x := 2) dX9_kindAt_42 rfl ?_
        refine zj_irem dX9_kindAt_43 (by decide) ?_
        refine zj_if_ne (tgt := 51) dX9_kindAt_44 (by decide) (fun c => ?_) (fun c => ?_)
        · replace h := h.1 c
          refine zj_iconst (x := 1) dX9_kindAt_51 rfl ?_
          refine zj_istore (ls2 := [.ref w, .int x1, .int x2, .int 1, .int 0, .int 1]) dX9_kindAt_52 (by decide) rfl rfl ?_
          refine zj_iload_n dX9_kindAt_54 rfl rfl ?_
          refine zj_if_eq (tgt := 66) dX9_kindAt_55 (by decide) (fun q => absurd q (by decide)) (fun _ => ?_)
          refine zj_iload dX9_kindAt_58 rfl ?_
          refine zj_if_eq (tgt := 66) dX9_kindAt_60 (by decide) (fun _ => ?_) (fun q => absurd (by decide) q)
          refine zj_iload_n dX9_kindAt_66 rfl rfl ?_
          refine zj_if_eq (tgt := 81) dX9_kindAt_67 (by decide) (fun q => absurd q (by decide)) (fun _ => ?_)
          refine zj_iload dX9_kindAt_70 rfl ?_
          refine zj_if_ne (tgt := 79) dX9_kindAt_72 (by decide) (fun _ => ?_) (fun q => absurd q (by decide))
          refine zj_iconst (x := (-1)) dX9_kindAt_79 rfl ?_
          exact zj_iret dX9_kindAt_80 rfl rfl h
        · replace h := h.2 c
          refine zj_iconst (x := 0) dX9_kindAt_47 rfl ?_
          refine zj_goto (tgt := 52) dX9_kindAt_48 (by decide) ?_
          refine zj_istore (ls2 := [.ref w, .int x1, .int x2, .int 1, .int 0, .int 0]) dX9_kindAt_52 (by decide) rfl rfl ?_
          refine zj_iload_n dX9_kindAt_54 rfl rfl ?_
          refine zj_if_eq (tgt := 66) dX9_kindAt_55 (by decide) (fun q => absurd q (by decide)) (fun _ => ?_)
          refine zj_iload dX9_kindAt_58 rfl ?_
          refine zj_if_eq (tgt := 66) dX9_kindAt_60 (by decide) (fun _ => ?_) (fun q => absurd (by decide) q)
          refine zj_iload_n dX9_kindAt_66 rfl rfl ?_
          refine zj_if_eq (tgt := 81) dX9_kindAt_67 (by decide) (fun q => absurd q (by decide)) (fun _ => ?_)
          refine zj_iload dX9_kindAt_70 rfl ?_
          refine zj_if_ne (tgt := 79) dX9_kindAt_72 (by decide) (fun q => absurd (by decide) q) (fun _ => ?_)
          refine zj_iconst (x := 0) dX9_kindAt_75 rfl ?_
          refine zj_goto (tgt := 80) dX9_kindAt_76 (by decide) ?_
          exact zj_iret dX9_kindAt_80 rfl rfl h
      · replace h := h.2 c
        refine zj_iload_n dX9_kindAt_24 rfl rfl ?_
        refine zj_aload_n dX9_kindAt_25 rfl rfl ?_
        refine zj_getI (ci := 9) (j := 0) dX9_kindAt_26 wf_X9_35 (by decide) (by decide) (zWk0 hL hw) rfl ?_
        refine zj_icmp_ge (tgt := 36) dX9_kindAt_29 (by decide) (fun c => ?_) (fun c => ?_)
        · replace h := h.1 c
          refine zj_iconst (x := 0) dX9_kindAt_36 rfl ?_
          refine zj_istore (ls2 := [.ref w, .int x1, .int x2, .int 1, .int 0, .null]) dX9_kindAt_37 (by decide) rfl rfl ?_
          refine zj_iload_n dX9_kindAt_39 rfl rfl ?_
          refine zj_iload_n dX9_kindAt_40 rfl rfl ?_
          refine zj_iadd dX9_kindAt_41 ?_
          refine zj_iconst (x := 2) dX9_kindAt_42 rfl ?_
          refine zj_irem dX9_kindAt_43 (by decide) ?_
          refine zj_if_ne (tgt := 51) dX9_kindAt_44 (by decide) (fun c => ?_) (fun c => ?_)
          · replace h := h.1 c
            refine zj_iconst (x := 1) dX9_kindAt_51 rfl ?_
            refine zj_istore (ls2 := [.ref w, .int x1, .int x2, .int 1, .int 0, .int 1]) dX9_kindAt_52 (by decide) rfl rfl ?_
            refine zj_iload_n dX9_kindAt_54 rfl rfl ?_
            refine zj_if_eq (tgt := 66) dX9_kindAt_55 (by decide) (fun q => absurd q (by decide)) (fun _ => ?_)
            refine zj_iload dX9_kindAt_58 rfl ?_
            refine zj_if_eq (tgt := 66) dX9_kindAt_60 (by decide) (fun _ => ?_) (fun q => absurd (by decide) q)
            refine zj_iload_n dX9_kindAt_66 rfl rfl ?_
            refine zj_if_eq (tgt := 81) dX9_kindAt_67 (by decide) (fun q => absurd q (by decide)) (fun _ => ?_)
            refine zj_iload dX9_kindAt_70 rfl ?_
            refine zj_if_ne (tgt := 79) dX9_kindAt_72 (by decide) (fun _ => ?_) (fun q => absurd q (by decide))
            refine zj_iconst (x := (-1)) dX9_kindAt_79 rfl ?_
            exact zj_iret dX9_kindAt_80 rfl rfl h
          · replace h := h.2 c
            refine zj_iconst (x := 0) dX9_kindAt_47 rfl ?_
            refine zj_goto (tgt := 52) dX9_kindAt_48 (by decide) ?_
            refine zj_istore (ls2 := [.ref w, .int x1, .int x2, .int 1, .int 0, .int 0]) dX9_kindAt_52 (by decide) rfl rfl ?_
            refine zj_iload_n dX9_kindAt_54 rfl rfl ?_
            refine zj_if_eq (tgt := 66) dX9_kindAt_55 (by decide) (fun q => absurd q (by decide)) (fun _ => ?_)
            refine zj_iload dX9_kindAt_58 rfl ?_
            refine zj_if_eq (tgt := 66) dX9_kindAt_60 (by decide) (fun _ => ?_) (fun q => absurd (by decide) q)
            refine zj_iload_n dX9_kindAt_66 rfl rfl ?_
            refine zj_if_eq (tgt := 81) dX9_kindAt_67 (by decide) (fun q => absurd q (by decide)) (fun _ => ?_)
            refine zj_iload dX9_kindAt_70 rfl ?_
            refine zj_if_ne (tgt := 79) dX9_kindAt_72 (by decide) (fun q => absurd (by decide) q) (fun _ => ?_)
            refine zj_iconst (x := 0) dX9_kindAt_75 rfl ?_
            refine zj_goto (tgt := 80) dX9_kindAt_76 (by decide) ?_
            exact zj_iret dX9_kindAt_80 rfl rfl h
        · replace h := h.2 c
          refine zj_iconst (x := 1) dX9_kindAt_32 rfl ?_
          refine zj_goto (tgt := 37) dX9_kindAt_33 (by decide) ?_
          refine zj_istore (ls2 := [.ref w, .int x1, .int x2, .int 1, .int 1, .null]) dX9_kindAt_37 (by decide) rfl rfl ?_
          refine zj_iload_n dX9_kindAt_39 rfl rfl ?_
          refine zj_iload_n dX9_kindAt_40 rfl rfl ?_
          refine zj_iadd dX9_kindAt_41 ?_
          refine zj_iconst (x := 2) dX9_kindAt_42 rfl ?_
          refine zj_irem dX9_kindAt_43 (by decide) ?_
          refine zj_if_ne (tgt := 51) dX9_kindAt_44 (by decide) (fun c => ?_) (fun c => ?_)
          · replace h := h.1 c
            refine zj_iconst (x := 1) dX9_kindAt_51 rfl ?_
            refine zj_istore (ls2 := [.ref w, .int x1, .int x2, .int 1, .int 1, .int 1]) dX9_kindAt_52 (by decide) rfl rfl ?_
            refine zj_iload_n dX9_kindAt_54 rfl rfl ?_
            refine zj_if_eq (tgt := 66) dX9_kindAt_55 (by decide) (fun q => absurd q (by decide)) (fun _ => ?_)
            refine zj_iload dX9_kindAt_58 rfl ?_
            refine zj_if_eq (tgt := 66) dX9_kindAt_60 (by decide) (fun q => absurd q (by decide)) (fun _ => ?_)
            refine zj_iload dX9_kindAt_63 rfl ?_
            exact zj_iret dX9_kindAt_65 rfl rfl h
          · replace h := h.2 c
            refine zj_iconst (x := 0) dX9_kindAt_47 rfl ?_
            refine zj_goto (tgt := 52) dX9_kindAt_48 (by decide) ?_
            refine zj_istore (ls2 := [.ref w, .int x1, .int x2, .int 1, .int 1, .int 0]) dX9_kindAt_52 (by decide) rfl rfl ?_
            refine zj_iload_n dX9_kindAt_54 rfl rfl ?_
            refine zj_if_eq (tgt := 66) dX9_kindAt_55 (by decide) (fun q => absurd q (by decide)) (fun _ => ?_)
            refine zj_iload dX9_kindAt_58 rfl ?_
            refine zj_if_eq (tgt := 66) dX9_kindAt_60 (by decide) (fun q => absurd q (by decide)) (fun _ => ?_)
            refine zj_iload dX9_kindAt_63 rfl ?_
            exact zj_iret dX9_kindAt_65 rfl rfl h
theorem sg_X9_layBorders_0 {G : z_G} {d : Nat} {S : z_Shp} {v : z_Dat} {Q : Option Value → z_Shp → z_Dat → Prop} {w : Nat} (hw : z_isW w)
    (h : z_J G d mX9_layBorders (2, [.ref w, .int 0], [], S, v) Q) :
    z_J G d mX9_layBorders (0, [.ref w, .null], [], S, v) Q := by
  refine zj_iconst (x := 0) dX9_layBorders_0 rfl ?_
  refine zj_istore_n (ls2 := [.ref w, .int 0]) dX9_layBorders_1 rfl (by decide) rfl rfl ?_
  exact h
theorem sg_X9_layBorders_2 {G : z_G} {d : Nat} {S : z_Shp} {v : z_Dat} {Q : Option Value → z_Shp → z_Dat → Prop} {x1 : Int32} {w : Nat} (hL : z_L S) (hw : z_isW w)
    (h : ((v w 0) ≤ x1 → (∀ v1, v1 = z_u v (w + 17) 0 (v (w + 16) 1) → (∀ v2, v2 = z_u v1 (w + 17) 1 (v1 (w + 16) 0) → (Q none S v2)))) ∧ (¬ (v w 0) ≤ x1 → (∀ v3, v3 = z_u v (w + 16) 0 ((v (w + 16) 0) ||| ((1 : Int32) <<< (x1 &&& 31))) → (∀ v4, v4 = z_u v3 (w + 16) 1 ((v3 (w + 16) 1) ||| ((1 : Int32) <<< ((x1 * (v3 w 0)) &&& 31))) → (z_J G d mX9_layBorders (2, [.ref w, .int (x1 + 1)], [], S, v4) Q))))) :
    z_J G d mX9_layBorders (2, [.ref w, .int x1], [], S, v) Q := by
  refine zj_iload_n dX9_layBorders_2 rfl rfl ?_
  refine zj_aload_n dX9_layBorders_3 rfl rfl ?_
  refine zj_getI (ci := 9) (j := 0) dX9_layBorders_4 wf_X9_35 (by decide) (by decide) (zWk0 hL hw) rfl ?_
  refine zj_icmp_ge (tgt := 45) dX9_layBorders_7 (by decide) (fun c => ?_) (fun c => ?_)
  · replace h := h.1 c
    refine zj_aload_n dX9_layBorders_45 rfl rfl ?_
    refine zj_getR (ci := 9) (j := 9) dX9_layBorders_46 wf_X9_32 (by decide) (by decide) (zWk0 hL hw) rfl (zWr0_9 hL hw) ?_
    refine zj_iconst (x := 0) dX9_layBorders_49 rfl ?_
    refine zj_aload_n dX9_layBorders_50 rfl rfl ?_
    refine zj_getR (ci := 9) (j := 8) dX9_layBorders_51 wf_X9_28 (by decide) (by decide) (zWk0 hL hw) rfl (zWr0_8 hL hw) ?_
    refine zj_iconst (x := 1) dX9_layBorders_54 rfl ?_
    refine zj_iaload dX9_layBorders_55 (zWk16 hL hw) (by rw [(zWl16 hL hw)]; exact z_vin (by decide)) ?_
    refine zj_iastore dX9_layBorders_56 (zWk17 hL hw) (by rw [(zWl17 hL hw)]; exact z_vin (by decide)) (fun v1 ev1 => ?_)
    replace h := h v1 ev1
    refine zj_aload_n dX9_layBorders_57 rfl rfl ?_
    refine zj_getR (ci := 9) (j := 9) dX9_layBorders_58 wf_X9_32 (by decide) (by decide) (zWk0 hL hw) rfl (zWr0_9 hL hw) ?_
    refine zj_iconst (x := 1) dX9_layBorders_61 rfl ?_
    refine zj_aload_n dX9_layBorders_62 rfl rfl ?_
    refine zj_getR (ci := 9) (j := 8) dX9_layBorders_63 wf_X9_28 (by decide) (by decide) (zWk0 hL hw) rfl (zWr0_8 hL hw) ?_
    refine zj_iconst (x := 0) dX9_layBorders_66 rfl ?_
    refine zj_iaload dX9_layBorders_67 (zWk16 hL hw) (by rw [(zWl16 hL hw)]; exact z_vin (by decide)) ?_
    refine zj_iastore dX9_layBorders_68 (zWk17 hL hw) (by rw [(zWl17 hL hw)]; exact z_vin (by decide)) (fun v2 ev2 => ?_)
    replace h := h v2 ev2
    exact zj_vret dX9_layBorders_69 rfl h
  · replace h := h.2 c
    refine zj_aload_n dX9_layBorders_10 rfl rfl ?_
    refine zj_getR (ci := 9) (j := 8) dX9_layBorders_11 wf_X9_28 (by decide) (by decide) (zWk0 hL hw) rfl (zWr0_8 hL hw) ?_
    refine zj_iconst (x := 0) dX9_layBorders_14 rfl ?_
    refine zj_dup2 dX9_layBorders_15 rfl rfl ?_
    refine zj_iaload dX9_layBorders_16 (zWk16 hL hw) (by rw [(zWl16 hL hw)]; exact z_vin (by decide)) ?_
    refine zj_iconst (x := 1) dX9_layBorders_17 rfl ?_
    refine zj_iload_n dX9_layBorders_18 rfl rfl ?_
    refine zj_ishl dX9_layBorders_19 ?_
    refine zj_ior dX9_layBorders_20 ?_
    refine zj_iastore dX9_layBorders_21 (zWk16 hL hw) (by rw [(zWl16 hL hw)]; exact z_vin (by decide)) (fun v3 ev3 => ?_)
    replace h := h v3 ev3
    refine zj_aload_n dX9_layBorders_22 rfl rfl ?_
    refine zj_getR (ci := 9) (j := 8) dX9_layBorders_23 wf_X9_28 (by decide) (by decide) (zWk0 hL hw) rfl (zWr0_8 hL hw) ?_
    refine zj_iconst (x := 1) dX9_layBorders_26 rfl ?_
    refine zj_dup2 dX9_layBorders_27 rfl rfl ?_
    refine zj_iaload dX9_layBorders_28 (zWk16 hL hw) (by rw [(zWl16 hL hw)]; exact z_vin (by decide)) ?_
    refine zj_iconst (x := 1) dX9_layBorders_29 rfl ?_
    refine zj_iload_n dX9_layBorders_30 rfl rfl ?_
    refine zj_aload_n dX9_layBorders_31 rfl rfl ?_
    refine zj_getI (ci := 9) (j := 0) dX9_layBorders_32 wf_X9_35 (by decide) (by decide) (zWk0 hL hw) rfl ?_
    refine zj_imul dX9_layBorders_35 ?_
    refine zj_ishl dX9_layBorders_36 ?_
    refine zj_ior dX9_layBorders_37 ?_
    refine zj_iastore dX9_layBorders_38 (zWk16 hL hw) (by rw [(zWl16 hL hw)]; exact z_vin (by decide)) (fun v4 ev4 => ?_)
    replace h := h v4 ev4
    refine zj_iinc (y := x1 + 1) (ls2 := [.ref w, .int (x1 + 1)]) dX9_layBorders_39 rfl rfl (by decide) rfl rfl ?_
    refine zj_goto (tgt := 2) dX9_layBorders_42 (by decide) ?_
    exact h
theorem sg_X9_layFaces_0 {G : z_G} {d : Nat} {S : z_Shp} {v : z_Dat} {Q : Option Value → z_Shp → z_Dat → Prop} {w : Nat} {x1 : Int32} (hw : z_isW w)
    (h : z_J G d mX9_layFaces (4, [.ref w, .int x1, .int 0, .int 0, .null], [], S, v) Q) :
    z_J G d mX9_layFaces (0, [.ref w, .int x1, .null, .null, .null], [], S, v) Q := by
  refine zj_iconst (x := 0) dX9_layFaces_0 rfl ?_
  refine zj_istore_n (ls2 := [.ref w, .int x1, .int 0, .null, .null]) dX9_layFaces_1 rfl (by decide) rfl rfl ?_
  refine zj_iconst (x := 0) dX9_layFaces_2 rfl ?_
  refine zj_istore_n (ls2 := [.ref w, .int x1, .int 0, .int 0, .null]) dX9_layFaces_3 rfl (by decide) rfl rfl ?_
  exact h
theorem sg_X9_layFaces_4 {G : z_G} {d : Nat} {S : z_Shp} {v : z_Dat} {Q : Option Value → z_Shp → z_Dat → Prop} {x1 : Int32} {x2 : Int32} {x3 : Int32} {w : Nat} (hL : z_L S) (hw : z_isW w)
    (h : ((v w 0) < x3 → (Q none S v)) ∧ (¬ (v w 0) < x3 → (z_J G d mX9_layFaces (15, [.ref w, .int x1, .int x2, .int x3, .int 0], [], S, v) Q))) :
    z_J G d mX9_layFaces (4, [.ref w, .int x1, .int x2, .int x3, .null], [], S, v) Q := by
  refine zj_iload_n dX9_layFaces_4 rfl rfl ?_
  refine zj_aload_n dX9_layFaces_5 rfl rfl ?_
  refine zj_getI (ci := 9) (j := 0) dX9_layFaces_6 wf_X9_35 (by decide) (by decide) (zWk0 hL hw) rfl ?_
  refine zj_icmp_gt (tgt := 92) dX9_layFaces_9 (by decide) (fun c => ?_) (fun c => ?_)
  · replace h := h.1 c
    exact zj_vret dX9_layFaces_92 rfl h
  · replace h := h.2 c
    refine zj_iconst (x := 0) dX9_layFaces_12 rfl ?_
    refine zj_istore (ls2 := [.ref w, .int x1, .int x2, .int x3, .int 0]) dX9_layFaces_13 (by decide) rfl rfl ?_
    exact h
theorem sg_X9_layFaces_15 {G : z_G} {d : Nat} {S : z_Shp} {v : z_Dat} {Q : Option Value → z_Shp → z_Dat → Prop} {x1 : Int32} {x2 : Int32} {x3 : Int32} {x4 : Int32} {w : Nat} (hL : z_L S) (hw : z_isW w)
    (h : ((v w 0) < x4 → (z_J G (d + 1) mX9_layFaces (4, [.ref w, .int x1, .int x2, .int (x3 + 1), .null], [], S, v) Q)) ∧ (¬ (v w 0) < x4 → (z_J G d mX9_kindAt (0, [.ref w, .int x3, .int x4, .null, .null, .null], [], S, v) (fun r S1 v1 => ∃ y1 : Int32, r = some (.int y1) ∧ S1 = S ∧ ((¬ y1 = x1 → (z_J G (d + 1) mX9_layFaces (15, [.ref w, .int x1, .int x2, .int x3, .int (x4 + 1)], [], S, v1) Q)) ∧ (y1 = x1 → (((v1 w 2) ≤ x2 → (z_J G (d + 1) mX9_layFaces (15, [.ref w, .int x1, .int x2, .int x3, .int (x4 + 1)], [], S, v1) Q)) ∧ (¬ (v1 w 2) ≤ x2 → ((vp_in x1 2) ∧ (vp_in x2 12 ∧ (∀ v2, v2 = z_u v1 (w + 2 + x1.toNatClampNeg) x2.toNatClampNeg x3 → ((vp_in x1 2) ∧ (vp_in x2 12 ∧ (∀ v3, v3 = z_u v2 (w + 5 + x1.toNatClampNeg) x2.toNatClampNeg x4 → ((vp_in x1 2) ∧ (z_J G d mX9_bitsAt (0, [.ref w, .int x3, .int x4, .null, .null, .null], [], S, v3) (fun r S1 v4 => ∃ y2 : Int32, r = some (.int y2) ∧ S1 = S ∧ (vp_in x2 12 ∧ (∀ v5, v5 = z_u v4 (w + 8 + x1.toNatClampNeg) x2.toNatClampNeg y2 → (z_J G (d + 1) mX9_layFaces (15, [.ref w, .int x1, .int (x2 + 1), .int x3, .int (x4 + 1)], [], S, v5) Q)))))))))))))))))))) :
    z_J G (d + 1) mX9_layFaces (15, [.ref w, .int x1, .int x2, .int x3, .int x4], [], S, v) Q := by
  refine zj_iload dX9_layFaces_15 rfl ?_
  refine zj_aload_n dX9_layFaces_17 rfl rfl ?_
  refine zj_getI (ci := 9) (j := 0) dX9_layFaces_18 wf_X9_35 (by decide) (by decide) (zWk0 hL hw) rfl ?_
  refine zj_icmp_gt (tgt := 86) dX9_layFaces_21 (by decide) (fun c => ?_) (fun c => ?_)
  · replace h := h.1 c
    refine zj_iinc (y := x3 + 1) (ls2 := [.ref w, .int x1, .int x2, .int (x3 + 1), .int x4]) dX9_layFaces_86 rfl rfl (by decide) rfl rfl ?_
    refine zj_goto (tgt := 4) dX9_layFaces_89 (by decide) ?_
    refine zj_forget (ls2 := [.ref w, .int x1, .int x2, .int (x3 + 1), .null]) ⟨Or.inr rfl, Or.inr rfl, Or.inr rfl, Or.inr rfl, Or.inl rfl, trivial⟩ ?_
    exact h
  · replace h := h.2 c
    refine zj_aload_n dX9_layFaces_24 rfl rfl ?_
    refine zj_iload_n dX9_layFaces_25 rfl rfl ?_
    refine zj_iload dX9_layFaces_26 rfl ?_
    refine zj_callV (M' := mX9_kindAt) (avs := [.int x3, .int x4]) (st := []) (ci := 9) dX9_layFaces_28 wm_X9_kindAt wl_X9_55 wi_X9_kindAt ws_X9_kindAt (by decide) (zWk0 hL hw) rfl rfl (by decide) rfl (Nat.le_of_ble_eq_true rfl) (Nat.le_of_ble_eq_true rfl) ⟨Or.inl (z_k0 (zWk0 hL hw)), trivial⟩ trivial (z_J.mono h (fun r S1 v1 hq => ?_))
    obtain ⟨y1, rfl, rfl, h⟩ := hq
    refine zj_iload_n dX9_layFaces_31 rfl rfl ?_
    refine zj_icmp_ne (tgt := 80) dX9_layFaces_32 (by decide) (fun c => ?_) (fun c => ?_)
    · replace h := h.1 c
      refine zj_iinc (y := x4 + 1) (ls2 := [.ref w, .int x1, .int x2, .int x3, .int (x4 + 1)]) dX9_layFaces_80 rfl rfl (by decide) rfl rfl ?_
      refine zj_goto (tgt := 15) dX9_layFaces_83 (by decide) ?_
      exact h
    · replace h := h.2 c
      refine zj_iload_n dX9_layFaces_35 rfl rfl ?_
      refine zj_aload_n dX9_layFaces_36 rfl rfl ?_
      refine zj_getI (ci := 9) (j := 2) dX9_layFaces_37 wf_X9_42 (by decide) (by decide) (zWk0 hL hw) rfl ?_
      refine zj_icmp_ge (tgt := 80) dX9_layFaces_40 (by decide) (fun c => ?_) (fun c => ?_)
      · replace h := h.1 c
        refine zj_iinc (y := x4 + 1) (ls2 := [.ref w, .int x1, .int x2, .int x3, .int (x4 + 1)]) dX9_layFaces_80 rfl rfl (by decide) rfl rfl ?_
        refine zj_goto (tgt := 15) dX9_layFaces_83 (by decide) ?_
        exact h
      · replace h := h.2 c
        refine zj_aload_n dX9_layFaces_43 rfl rfl ?_
        refine zj_getR (ci := 9) (j := 3) dX9_layFaces_44 wf_X9_11 (by decide) (by decide) (zWk0 hL hw) rfl (zWr0_3 hL hw) ?_
        refine zj_iload_n dX9_layFaces_47 rfl rfl ?_
        obtain ⟨hi1, h⟩ := h
        refine zj_aaload0 dX9_layFaces_48 (zWk1 hL hw) (by rw [(zWl1 hL hw)]; exact hi1) (zWg1r hL hw hi1) ?_
        refine zj_iload_n dX9_layFaces_49 rfl rfl ?_
        refine zj_iload_n dX9_layFaces_50 rfl rfl ?_
        refine zj_iastore dX9_layFaces_51 (zWg1k hL hw hi1) (by rw [(zWg1l hL hw hi1)]; exact h.1) (fun v2 ev2 => ?_)
        replace h := h.2 v2 ev2
        refine zj_aload_n dX9_layFaces_52 rfl rfl ?_
        refine zj_getR (ci := 9) (j := 4) dX9_layFaces_53 wf_X9_16 (by decide) (by decide) (zWk0 hL hw) rfl (zWr0_4 hL hw) ?_
        refine zj_iload_n dX9_layFaces_56 rfl rfl ?_
        obtain ⟨hi2, h⟩ := h
        refine zj_aaload0 dX9_layFaces_57 (zWk4 hL hw) (by rw [(zWl4 hL hw)]; exact hi2) (zWg4r hL hw hi2) ?_
        refine zj_iload_n dX9_layFaces_58 rfl rfl ?_
        refine zj_iload dX9_layFaces_59 rfl ?_
        refine zj_iastore dX9_layFaces_61 (zWg4k hL hw hi2) (by rw [(zWg4l hL hw hi2)]; exact h.1) (fun v3 ev3 => ?_)
        replace h := h.2 v3 ev3
        refine zj_aload_n dX9_layFaces_62 rfl rfl ?_
        refine zj_getR (ci := 9) (j := 5) dX9_layFaces_63 wf_X9_19 (by decide) (by decide) (zWk0 hL hw) rfl (zWr0_5 hL hw) ?_
        refine zj_iload_n dX9_layFaces_66 rfl rfl ?_
        obtain ⟨hi3, h⟩ := h
        refine zj_aaload0 dX9_layFaces_67 (zWk7 hL hw) (by rw [(zWl7 hL hw)]; exact hi3) (zWg7r hL hw hi3) ?_
        refine zj_iload_n dX9_layFaces_68 rfl rfl ?_
        refine zj_aload_n dX9_layFaces_69 rfl rfl ?_
        refine zj_iload_n dX9_layFaces_70 rfl rfl ?_
        refine zj_iload dX9_layFaces_71 rfl ?_
        refine zj_callV (M' := mX9_bitsAt) (avs := [.int x3, .int x4]) (st := [.int x2, .ref (w + 8 + x1.toNatClampNeg)]) (ci := 9) dX9_layFaces_73 wm_X9_bitsAt wl_X9_59 wi_X9_bitsAt ws_X9_bitsAt (by decide) (zWk0 hL hw) rfl rfl (by decide) rfl (Nat.le_of_ble_eq_true rfl) (Nat.le_of_ble_eq_true rfl) ⟨Or.inl (z_k0 (zWk0 hL hw)), trivial⟩ ⟨Or.inl (z_k0 (zWg7k hL hw hi3)), trivial⟩ (z_J.mono h (fun r S1 v4 hq => ?_))
        obtain ⟨y2, rfl, rfl, h⟩ := hq
        refine zj_iastore dX9_layFaces_76 (zWg7k hL hw hi3) (by rw [(zWg7l hL hw hi3)]; exact h.1) (fun v5 ev5 => ?_)
        replace h := h.2 v5 ev5
        refine zj_iinc (y := x2 + 1) (ls2 := [.ref w, .int x1, .int (x2 + 1), .int x3, .int x4]) dX9_layFaces_77 rfl rfl (by decide) rfl rfl ?_
        refine zj_iinc (y := x4 + 1) (ls2 := [.ref w, .int x1, .int (x2 + 1), .int x3, .int (x4 + 1)]) dX9_layFaces_80 rfl rfl (by decide) rfl rfl ?_
        refine zj_goto (tgt := 15) dX9_layFaces_83 (by decide) ?_
        exact h
theorem sg_X9_layQubits_0 {G : z_G} {d : Nat} {S : z_Shp} {v : z_Dat} {Q : Option Value → z_Shp → z_Dat → Prop} {w : Nat} {x1 : Int32} (hw : z_isW w)
    (h : z_J G d mX9_layQubits (2, [.ref w, .int x1, .int 0, .null, .null], [], S, v) Q) :
    z_J G d mX9_layQubits (0, [.ref w, .int x1, .null, .null, .null], [], S, v) Q := by
  refine zj_iconst (x := 0) dX9_layQubits_0 rfl ?_
  refine zj_istore_n (ls2 := [.ref w, .int x1, .int 0, .null, .null]) dX9_layQubits_1 rfl (by decide) rfl rfl ?_
  exact h
theorem sg_X9_layQubits_2 {G : z_G} {d : Nat} {S : z_Shp} {v : z_Dat} {Q : Option Value → z_Shp → z_Dat → Prop} {x1 : Int32} {x2 : Int32} {w : Nat} (hL : z_L S) (hw : z_isW w)
    (h : ((v w 1) ≤ x2 → (Q none S v)) ∧ (¬ (v w 1) ≤ x2 → (z_J G d mX9_checksOn (0, [.ref w, .int x1, .int x2, .null, .null], [], S, v) (fun r S1 v1 => ∃ y1 : Int32, r = some (.int y1) ∧ S1 = S ∧ ((vp_in x1 2) ∧ (vp_in x2 25 ∧ (∀ v2, v2 = z_u v1 (w + 11 + x1.toNatClampNeg) x2.toNatClampNeg (z_tz y1) → ((vp_in x1 2) ∧ ((¬ (y1 &&& (y1 - 1)) = 0 → (vp_in x2 25 ∧ (∀ v3, v3 = z_u v2 (w + 14 + x1.toNatClampNeg) x2.toNatClampNeg (z_tz (y1 &&& (y1 - 1))) → (z_J G (d + 1) mX9_layQubits (2, [.ref w, .int x1, .int (x2 + 1), .null, .null], [], S, v3) Q)))) ∧ ((y1 &&& (y1 - 1)) = 0 → (vp_in x2 25 ∧ (∀ v4, v4 = z_u v2 (w + 14 + x1.toNatClampNeg) x2.toNatClampNeg (-1) → (z_J G (d + 1) mX9_layQubits (2, [.ref w, .int x1, .int (x2 + 1), .null, .null], [], S, v4) Q))))))))))))) :
    z_J G (d + 1) mX9_layQubits (2, [.ref w, .int x1, .int x2, .null, .null], [], S, v) Q := by
  refine zj_iload_n dX9_layQubits_2 rfl rfl ?_
  refine zj_aload_n dX9_layQubits_3 rfl rfl ?_
  refine zj_getI (ci := 9) (j := 1) dX9_layQubits_4 wf_X9_39 (by decide) (by decide) (zWk0 hL hw) rfl ?_
  refine zj_icmp_ge (tgt := 64) dX9_layQubits_7 (by decide) (fun c => ?_) (fun c => ?_)
  · replace h := h.1 c
    exact zj_vret dX9_layQubits_64 rfl h
  · replace h := h.2 c
    refine zj_aload_n dX9_layQubits_10 rfl rfl ?_
    refine zj_iload_n dX9_layQubits_11 rfl rfl ?_
    refine zj_iload_n dX9_layQubits_12 rfl rfl ?_
    refine zj_callV (M' := mX9_checksOn) (avs := [.int x1, .int x2]) (st := []) (ci := 9) dX9_layQubits_13 wm_X9_checksOn wl_X9_62 wi_X9_checksOn ws_X9_checksOn (by decide) (zWk0 hL hw) rfl rfl (by decide) rfl (Nat.le_of_ble_eq_true rfl) (Nat.le_of_ble_eq_true rfl) ⟨Or.inl (z_k0 (zWk0 hL hw)), trivial⟩ trivial (z_J.mono h (fun r S1 v1 hq => ?_))
    obtain ⟨y1, rfl, rfl, h⟩ := hq
    refine zj_istore_n (ls2 := [.ref w, .int x1, .int x2, .int y1, .null]) dX9_layQubits_16 rfl (by decide) rfl rfl ?_
    refine zj_iload_n dX9_layQubits_17 rfl rfl ?_
    refine zj_iload_n dX9_layQubits_18 rfl rfl ?_
    refine zj_iconst (x := 1) dX9_layQubits_19 rfl ?_
    refine zj_isub dX9_layQubits_20 ?_
    refine zj_iand dX9_layQubits_21 ?_
    refine zj_istore (ls2 := [.ref w, .int x1, .int x2, .int y1, .int (y1 &&& (y1 - 1))]) dX9_layQubits_22 (by decide) rfl rfl ?_
    refine zj_aload_n dX9_layQubits_24 rfl rfl ?_
    refine zj_getR (ci := 9) (j := 6) dX9_layQubits_25 wf_X9_22 (by decide) (by decide) (zWk0 hL hw) rfl (zWr0_6 hL hw) ?_
    refine zj_iload_n dX9_layQubits_28 rfl rfl ?_
    obtain ⟨hi1, h⟩ := h
    refine zj_aaload0 dX9_layQubits_29 (zWk10 hL hw) (by rw [(zWl10 hL hw)]; exact hi1) (zWg10r hL hw hi1) ?_
    refine zj_iload_n dX9_layQubits_30 rfl rfl ?_
    refine zj_iload_n dX9_layQubits_31 rfl rfl ?_
    refine zj_callS (M' := mJ6_numberOfTrailingZeros_0f7a4) (avs := [.int y1]) (st := [.int x2, .ref (w + 11 + x1.toNatClampNeg)]) dX9_layQubits_32 wm_J6_numberOfTrailingZeros_0f7a4 wl_X9_65 wt_J6_numberOfTrailingZeros_0f7a4 rfl (by decide) rfl (Nat.le_of_ble_eq_true rfl) (Nat.le_of_ble_eq_true rfl) ⟨Or.inl (z_k0 (zWk0 hL hw)), trivial⟩ ⟨Or.inl (z_k0 (zWg10k hL hw hi1)), trivial⟩ (hp_J6_numberOfTrailingZeros_0f7a4 ?_)
    refine zj_iastore dX9_layQubits_35 (zWg10k hL hw hi1) (by rw [(zWg10l hL hw hi1)]; exact h.1) (fun v2 ev2 => ?_)
    replace h := h.2 v2 ev2
    refine zj_aload_n dX9_layQubits_36 rfl rfl ?_
    refine zj_getR (ci := 9) (j := 7) dX9_layQubits_37 wf_X9_25 (by decide) (by decide) (zWk0 hL hw) rfl (zWr0_7 hL hw) ?_
    refine zj_iload_n dX9_layQubits_40 rfl rfl ?_
    obtain ⟨hi2, h⟩ := h
    refine zj_aaload0 dX9_layQubits_41 (zWk13 hL hw) (by rw [(zWl13 hL hw)]; exact hi2) (zWg13r hL hw hi2) ?_
    refine zj_iload_n dX9_layQubits_42 rfl rfl ?_
    refine zj_iload dX9_layQubits_43 rfl ?_
    refine zj_if_ne (tgt := 52) dX9_layQubits_45 (by decide) (fun c => ?_) (fun c => ?_)
    · replace h := h.1 c
      refine zj_iload dX9_layQubits_52 rfl ?_
      refine zj_callS (M' := mJ6_numberOfTrailingZeros_0f7a4) (avs := [.int (y1 &&& (y1 - 1))]) (st := [.int x2, .ref (w + 14 + x1.toNatClampNeg)]) dX9_layQubits_54 wm_J6_numberOfTrailingZeros_0f7a4 wl_X9_65 wt_J6_numberOfTrailingZeros_0f7a4 rfl (by decide) rfl (Nat.le_of_ble_eq_true rfl) (Nat.le_of_ble_eq_true rfl) ⟨Or.inl (z_k0 (zWk0 hL hw)), trivial⟩ ⟨Or.inl (z_k0 (zWg13k hL hw hi2)), trivial⟩ (hp_J6_numberOfTrailingZeros_0f7a4 ?_)
      refine zj_iastore dX9_layQubits_57 (zWg13k hL hw hi2) (by rw [(zWg13l hL hw hi2)]; exact h.1) (fun v3 ev3 => ?_)
      replace h := h.2 v3 ev3
      refine zj_iinc (y := x2 + 1) (ls2 := [.ref w, .int x1, .int (x2 + 1), .int y1, .int (y1 &&& (y1 - 1))]) dX9_layQubits_58 rfl rfl (by decide) rfl rfl ?_
      refine zj_goto (tgt := 2) dX9_layQubits_61 (by decide) ?_
      refine zj_forget (ls2 := [.ref w, .int x1, .int (x2 + 1), .null, .null]) ⟨Or.inr rfl, Or.inr rfl, Or.inr rfl, Or.inl rfl, Or.inl rfl, trivial⟩ ?_
      exact h
    · replace h := h.2 c
      refine zj_iconst (x := (-1)) dX9_layQubits_48 rfl ?_
      refine zj_goto (tgt := 57) dX9_layQubits_49 (by decide) ?_
      refine zj_iastore dX9_layQubits_57 (zWg13k hL hw hi2) (by rw [(zWg13l hL hw hi2)]; exact h.1) (fun v4 ev4 => ?_)
      replace h := h.2 v4 ev4
      refine zj_iinc (y := x2 + 1) (ls2 := [.ref w, .int x1, .int (x2 + 1), .int y1, .int (y1 &&& (y1 - 1))]) dX9_layQubits_58 rfl rfl (by decide) rfl rfl ?_
      refine zj_goto (tgt := 2) dX9_layQubits_61 (by decide) ?_
      refine zj_forget (ls2 := [.ref w, .int x1, .int (x2 + 1), .null, .null]) ⟨Or.inr rfl, Or.inr rfl, Or.inr rfl, Or.inl rfl, Or.inl rfl, trivial⟩ ?_
      exact h
theorem sg_X9_logicalOf_0 {G : z_G} {d : Nat} {S : z_Shp} {v : z_Dat} {Q : Option Value → z_Shp → z_Dat → Prop} {w : Nat} {x1 : Int32} {x2 : Int32} (hL : z_L S) (hw : z_isW w)
    (h : (vp_in x1 2) ∧ (Q (some (.int ((z_pc (x2 &&& (v (w + 16) x1.toNatClampNeg))) &&& 1))) S v)) :
    z_J G (d + 1) mX9_logicalOf (0, [.ref w, .int x1, .int x2], [], S, v) Q := by
  refine zj_iload_n dX9_logicalOf_0 rfl rfl ?_
  refine zj_aload_n dX9_logicalOf_1 rfl rfl ?_
  refine zj_getR (ci := 9) (j := 8) dX9_logicalOf_2 wf_X9_28 (by decide) (by decide) (zWk0 hL hw) rfl (zWr0_8 hL hw) ?_
  refine zj_iload_n dX9_logicalOf_5 rfl rfl ?_
  refine zj_iaload dX9_logicalOf_6 (zWk16 hL hw) (by rw [(zWl16 hL hw)]; exact h.1) ?_
  replace h := h.2
  refine zj_iand dX9_logicalOf_7 ?_
  refine zj_callS (M' := mJ6_bitCount_0f7a4) (avs := [.int (x2 &&& (v (w + 16) x1.toNatClampNeg))]) (st := []) dX9_logicalOf_8 wm_J6_bitCount_0f7a4 wl_X9_71 wt_J6_bitCount_0f7a4 rfl (by decide) rfl (Nat.le_of_ble_eq_true rfl) (Nat.le_of_ble_eq_true rfl) ⟨Or.inl (z_k0 (zWk0 hL hw)), trivial⟩ trivial (hp_J6_bitCount_0f7a4 ?_)
  refine zj_iconst (x := 1) dX9_logicalOf_11 rfl ?_
  refine zj_iand dX9_logicalOf_12 ?_
  exact zj_iret dX9_logicalOf_13 rfl rfl h
