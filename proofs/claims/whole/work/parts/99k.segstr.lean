/-! SEGMENTS of the methods that use String constants (printed by wip/whole/genstr.py) -/
theorem sg_X6_spells_0 {G : z_G} {d : Nat} {S : z_Shp} {v : z_Dat} {Q : Option Value → z_Shp → z_Dat → Prop} {x1 : Nat} {x2 : Int32} (hL : z_L S) (hx1 : x1 < 14) (hd3 : 3 ≤ d)
    (h : (((v 141 12) - x2) = (nI (z_slen.getD x1 0)) → (z_J G (d + 1) mX6_spells (17, [.ref 141, .ref (z_X + x1), .int x2, .int 0], [], S, v) Q)) ∧ (¬ ((v 141 12) - x2) = (nI (z_slen.getD x1 0)) → (Q (some (.int 0)) S v))) :
    z_J G (d + 1) mX6_spells (0, [.ref 141, .ref (z_X + x1), .int x2, .null], [], S, v) Q := by
  refine zj_aload_n dX6_spells_0 rfl rfl ?_
  refine zj_getI (ci := 6) (j := 12) dX6_spells_1 wf_X6_53 (by decide) (by decide) (zk_141 hL) rfl ?_
  refine zj_iload_n dX6_spells_4 rfl rfl ?_
  refine zj_isub dX6_spells_5 ?_
  refine zj_aload_n dX6_spells_6 rfl rfl ?_
  refine zj_callVS (M' := mJ0_length_8abf5) (avs := []) (i := x1) (st := [.int ((v 141 12) - x2)]) dX6_spells_7 wm_J0_length_8abf5 wl_X6_88 wi_J0_length_8abf5 ws_J0_length_8abf5 hx1 rfl (show (parseMethodDescriptor mJ0_length_8abf5.1.desc).map (fun q => q.parameters.length) = some 0 by decide) (Nat.le_of_ble_eq_true rfl) rfl (Nat.le_of_ble_eq_true rfl) (Nat.le_of_ble_eq_true rfl) ⟨Or.inl (z_k0 (zk_141 hL)), Or.inr (Nat.le_add_right _ _), trivial⟩ trivial (sx_length (by omega) hx1 ?_)
  refine zj_icmp_eq (tgt := 15) dX6_spells_10 (by decide) (fun c => ?_) (fun c => ?_)
  · replace h := h.1 c
    refine zj_iconst (x := 0) dX6_spells_15 rfl ?_
    refine zj_istore_n (ls2 := [.ref 141, .ref (z_X + x1), .int x2, .int 0]) dX6_spells_16 rfl (by decide) rfl rfl ?_
    exact h
  · replace h := h.2 c
    refine zj_iconst (x := 0) dX6_spells_13 rfl ?_
    exact zj_iret dX6_spells_14 rfl (by decide) h
theorem sg_X6_spells_17 {G : z_G} {d : Nat} {S : z_Shp} {v : z_Dat} {Q : Option Value → z_Shp → z_Dat → Prop} {x2 : Int32} {x3 : Int32} {x1 : Nat} (hL : z_L S) (hx1 : x1 < 14) (hd3 : 3 ≤ d)
    (h : ((nI (z_slen.getD x1 0)) ≤ x3 → (Q (some (.int 1)) S v)) ∧ (¬ (nI (z_slen.getD x1 0)) ≤ x3 → ((vp_in (x2 + x3) 240) ∧ (vp_in x3 (z_slen.getD x1 0) ∧ (((v 142 (x2 + x3).toNatClampNeg) = ((z_sbyt.getD x1 []).getD x3.toNatClampNeg 0) → (z_J G (d + 1) mX6_spells (17, [.ref 141, .ref (z_X + x1), .int x2, .int (x3 + 1)], [], S, v) Q)) ∧ (¬ (v 142 (x2 + x3).toNatClampNeg) = ((z_sbyt.getD x1 []).getD x3.toNatClampNeg 0) → (Q (some (.int 0)) S v))))))) :
    z_J G (d + 1) mX6_spells (17, [.ref 141, .ref (z_X + x1), .int x2, .int x3], [], S, v) Q := by
  refine zj_iload_n dX6_spells_17 rfl rfl ?_
  refine zj_aload_n dX6_spells_18 rfl rfl ?_
  refine zj_callVS (M' := mJ0_length_8abf5) (avs := []) (i := x1) (st := [.int x3]) dX6_spells_19 wm_J0_length_8abf5 wl_X6_88 wi_J0_length_8abf5 ws_J0_length_8abf5 hx1 rfl (show (parseMethodDescriptor mJ0_length_8abf5.1.desc).map (fun q => q.parameters.length) = some 0 by decide) (Nat.le_of_ble_eq_true rfl) rfl (Nat.le_of_ble_eq_true rfl) (Nat.le_of_ble_eq_true rfl) ⟨Or.inl (z_k0 (zk_141 hL)), Or.inr (Nat.le_add_right _ _), trivial⟩ trivial (sx_length (by omega) hx1 ?_)
  refine zj_icmp_ge (tgt := 49) dX6_spells_22 (by decide) (fun c => ?_) (fun c => ?_)
  · replace h := h.1 c
    refine zj_iconst (x := 1) dX6_spells_49 rfl ?_
    exact zj_iret dX6_spells_50 rfl (by decide) h
  · replace h := h.2 c
    refine zj_aload_n dX6_spells_25 rfl rfl ?_
    refine zj_getR (ci := 6) (j := 3) dX6_spells_26 wf_X6_9 (by decide) (by decide) (zk_141 hL) rfl (zr_141_3 hL) ?_
    refine zj_iload_n dX6_spells_29 rfl rfl ?_
    refine zj_iload_n dX6_spells_30 rfl rfl ?_
    refine zj_iadd dX6_spells_31 ?_
    refine zj_iaload dX6_spells_32 (zk_142 hL) (by rw [(zl_142 hL)]; exact h.1) ?_
    replace h := h.2
    refine zj_aload_n dX6_spells_33 rfl rfl ?_
    refine zj_iload_n dX6_spells_34 rfl rfl ?_
    refine zj_callVS (M' := mJ0_charAt_5068e) (avs := [.int x3]) (i := x1) (st := [.int (v 142 (x2 + x3).toNatClampNeg)]) dX6_spells_35 wm_J0_charAt_5068e wl_X6_92 wi_J0_charAt_5068e ws_J0_charAt_5068e hx1 rfl (show (parseMethodDescriptor mJ0_charAt_5068e.1.desc).map (fun q => q.parameters.length) = some 1 by decide) (Nat.le_of_ble_eq_true rfl) rfl (Nat.le_of_ble_eq_true rfl) (Nat.le_of_ble_eq_true rfl) ⟨Or.inl (z_k0 (zk_141 hL)), Or.inr (Nat.le_add_right _ _), trivial⟩ trivial (sx_charAtI hd3 hx1 h.1 ?_)
    replace h := h.2
    refine zj_icmp_eq (tgt := 43) dX6_spells_38 (by decide) (fun c => ?_) (fun c => ?_)
    · replace h := h.1 c
      refine zj_iinc (y := x3 + 1) (ls2 := [.ref 141, .ref (z_X + x1), .int x2, .int (x3 + 1)]) dX6_spells_43 rfl rfl (by decide) rfl rfl ?_
      refine zj_goto (tgt := 17) dX6_spells_46 (by decide) ?_
      exact h
    · replace h := h.2 c
      refine zj_iconst (x := 0) dX6_spells_41 rfl ?_
      exact zj_iret dX6_spells_42 rfl (by decide) h
theorem sg_X6_shapeOf_0 {G : z_G} {d : Nat} {S : z_Shp} {v : z_Dat} {Q : Option Value → z_Shp → z_Dat → Prop} {x0 : Int32}
    (h : (x0 = 3 → (Q (some (.ref (z_X + 0))) S v)) ∧ (x0 = 4 → (Q (some (.ref (z_X + 1))) S v)) ∧ (x0 = 5 → (Q (some (.ref (z_X + 2))) S v)) ∧ (x0 = 6 → (Q (some (.ref (z_X + 3))) S v)) ∧ (x0 = 7 → (Q (some (.ref (z_X + 4))) S v)) ∧ (¬ x0 = 3 → ¬ x0 = 4 → ¬ x0 = 5 → ¬ x0 = 6 → ¬ x0 = 7 → (Q (some (.ref (z_X + 5))) S v))) :
    z_J G d mX6_shapeOf (0, [.int x0], [], S, v) Q := by
  refine zj_iload_n dX6_shapeOf_0 rfl rfl ?_
  by_cases c3 : x0 = 3
  · refine zj_tabIn (tgt := 36) dX6_shapeOf_1 (by rw [c3]; decide) (by rw [c3]; decide) (by rw [c3]; rfl) (by decide) ?_
    replace h := h.1 c3
    refine zj_ldcS (i := 0) (by decide) dX6_shapeOf_36 rfl rfl ?_
    exact zj_aret dX6_shapeOf_38 rfl h
  by_cases c4 : x0 = 4
  · refine zj_tabIn (tgt := 39) dX6_shapeOf_1 (by rw [c4]; decide) (by rw [c4]; decide) (by rw [c4]; rfl) (by decide) ?_
    replace h := h.2.1 c4
    refine zj_ldcS (i := 1) (by decide) dX6_shapeOf_39 rfl rfl ?_
    exact zj_aret dX6_shapeOf_41 rfl h
  by_cases c5 : x0 = 5
  · refine zj_tabIn (tgt := 42) dX6_shapeOf_1 (by rw [c5]; decide) (by rw [c5]; decide) (by rw [c5]; rfl) (by decide) ?_
    replace h := h.2.2.1 c5
    refine zj_ldcS (i := 2) (by decide) dX6_shapeOf_42 rfl rfl ?_
    exact zj_aret dX6_shapeOf_44 rfl h
  by_cases c6 : x0 = 6
  · refine zj_tabIn (tgt := 45) dX6_shapeOf_1 (by rw [c6]; decide) (by rw [c6]; decide) (by rw [c6]; rfl) (by decide) ?_
    replace h := h.2.2.2.1 c6
    refine zj_ldcS (i := 3) (by decide) dX6_shapeOf_45 rfl rfl ?_
    exact zj_aret dX6_shapeOf_47 rfl h
  by_cases c7 : x0 = 7
  · refine zj_tabIn (tgt := 48) dX6_shapeOf_1 (by rw [c7]; decide) (by rw [c7]; decide) (by rw [c7]; rfl) (by decide) ?_
    replace h := h.2.2.2.2.1 c7
    refine zj_ldcS (i := 4) (by decide) dX6_shapeOf_48 rfl rfl ?_
    exact zj_aret dX6_shapeOf_50 rfl h
  refine zj_tabOut (tgt := 51) dX6_shapeOf_1 (z_out_3_7 c3 c4 c5 c6 c7) (by decide) ?_
  replace h := h.2.2.2.2.2 c3 c4 c5 c6 c7
  refine zj_ldcS (i := 5) (by decide) dX6_shapeOf_51 rfl rfl ?_
  exact zj_aret dX6_shapeOf_53 rfl h
theorem sg_X6_readWord_0 {G : z_G} {d : Nat} {S : z_Shp} {v : z_Dat} {Q : Option Value → z_Shp → z_Dat → Prop} (hL : z_L S)
    (h : z_J G d mX6_readWord (5, [.ref 141, .int (v 141 12)], [], S, v) Q) :
    z_J G d mX6_readWord (0, [.ref 141, .null], [], S, v) Q := by
  refine zj_aload_n dX6_readWord_0 rfl rfl ?_
  refine zj_getI (ci := 6) (j := 12) dX6_readWord_1 wf_X6_53 (by decide) (by decide) (zk_141 hL) rfl ?_
  refine zj_istore_n (ls2 := [.ref 141, .int (v 141 12)]) dX6_readWord_4 rfl (by decide) rfl rfl ?_
  exact h
theorem sg_X6_readWord_5 {G : z_G} {d : Nat} {S : z_Shp} {v : z_Dat} {Q : Option Value → z_Shp → z_Dat → Prop} {x1 : Int32} (hL : z_L S)
    (h : ((v 141 0) ≤ (v 141 12) → (z_J G d mX6_readWord (57, [.ref 141, .int x1], [], S, v) Q)) ∧ (¬ (v 141 0) ≤ (v 141 12) → ((vp_in (v 141 12) 240) ∧ (((v 142 (v 141 12).toNatClampNeg) < 97 → (z_J G d mX6_readWord (57, [.ref 141, .int x1], [], S, v) Q)) ∧ (¬ (v 142 (v 141 12).toNatClampNeg) < 97 → ((vp_in (v 141 12) 240) ∧ ((122 < (v 142 (v 141 12).toNatClampNeg) → (z_J G d mX6_readWord (57, [.ref 141, .int x1], [], S, v) Q)) ∧ (¬ 122 < (v 142 (v 141 12).toNatClampNeg) → (∀ v1, v1 = z_u v 141 12 ((v 141 12) + 1) → (z_J G d mX6_readWord (5, [.ref 141, .int x1], [], S, v1) Q)))))))))) :
    z_J G d mX6_readWord (5, [.ref 141, .int x1], [], S, v) Q := by
  refine zj_aload_n dX6_readWord_5 rfl rfl ?_
  refine zj_getI (ci := 6) (j := 12) dX6_readWord_6 wf_X6_53 (by decide) (by decide) (zk_141 hL) rfl ?_
  refine zj_aload_n dX6_readWord_9 rfl rfl ?_
  refine zj_getI (ci := 6) (j := 0) dX6_readWord_10 wf_X6_33 (by decide) (by decide) (zk_141 hL) rfl ?_
  refine zj_icmp_ge (tgt := 57) dX6_readWord_13 (by decide) (fun c => ?_) (fun c => ?_)
  · replace h := h.1 c
    exact h
  · replace h := h.2 c
    refine zj_aload_n dX6_readWord_16 rfl rfl ?_
    refine zj_getR (ci := 6) (j := 3) dX6_readWord_17 wf_X6_9 (by decide) (by decide) (zk_141 hL) rfl (zr_141_3 hL) ?_
    refine zj_aload_n dX6_readWord_20 rfl rfl ?_
    refine zj_getI (ci := 6) (j := 12) dX6_readWord_21 wf_X6_53 (by decide) (by decide) (zk_141 hL) rfl ?_
    refine zj_iaload dX6_readWord_24 (zk_142 hL) (by rw [(zl_142 hL)]; exact h.1) ?_
    replace h := h.2
    refine zj_bipush (x := 97) dX6_readWord_25 rfl ?_
    refine zj_icmp_lt (tgt := 57) dX6_readWord_27 (by decide) (fun c => ?_) (fun c => ?_)
    · replace h := h.1 c
      exact h
    · replace h := h.2 c
      refine zj_aload_n dX6_readWord_30 rfl rfl ?_
      refine zj_getR (ci := 6) (j := 3) dX6_readWord_31 wf_X6_9 (by decide) (by decide) (zk_141 hL) rfl (zr_141_3 hL) ?_
      refine zj_aload_n dX6_readWord_34 rfl rfl ?_
      refine zj_getI (ci := 6) (j := 12) dX6_readWord_35 wf_X6_53 (by decide) (by decide) (zk_141 hL) rfl ?_
      refine zj_iaload dX6_readWord_38 (zk_142 hL) (by rw [(zl_142 hL)]; exact h.1) ?_
      replace h := h.2
      refine zj_bipush (x := 122) dX6_readWord_39 rfl ?_
      refine zj_icmp_gt (tgt := 57) dX6_readWord_41 (by decide) (fun c => ?_) (fun c => ?_)
      · replace h := h.1 c
        exact h
      · replace h := h.2 c
        refine zj_aload_n dX6_readWord_44 rfl rfl ?_
        refine zj_dup dX6_readWord_45 rfl ?_
        refine zj_getI (ci := 6) (j := 12) dX6_readWord_46 wf_X6_53 (by decide) (by decide) (zk_141 hL) rfl ?_
        refine zj_iconst (x := 1) dX6_readWord_49 rfl ?_
        refine zj_iadd dX6_readWord_50 ?_
        refine zj_putI (ci := 6) (j := 12) dX6_readWord_51 wf_X6_53 (by decide) (by decide) (zk_141 hL) rfl rfl rfl rfl (fun v1 ev1 => ?_)
        replace h := h v1 ev1
        refine zj_goto (tgt := 5) dX6_readWord_54 (by decide) ?_
        exact h
theorem sg_X6_readWord_57 {G : z_G} {d : Nat} {S : z_Shp} {v : z_Dat} {Q : Option Value → z_Shp → z_Dat → Prop} {x1 : Int32} (hL : z_L S)
    (h : z_J G d mX6_spells (0, [.ref 141, .ref (z_X + 6), .int x1, .null], [], S, v) (fun r S1 v1 => ∃ y1 : Int32, r = some (.int y1) ∧ S1 = S ∧ ((y1 = 0 → (z_J G d mX6_spells (0, [.ref 141, .ref (z_X + 7), .int x1, .null], [], S, v1) (fun r S1 v2 => ∃ y2 : Int32, r = some (.int y2) ∧ S1 = S ∧ ((y2 = 0 → (z_J G d mX6_spells (0, [.ref 141, .ref (z_X + 8), .int x1, .null], [], S, v2) (fun r S1 v3 => ∃ y3 : Int32, r = some (.int y3) ∧ S1 = S ∧ ((y3 = 0 → (z_J G d mX6_spells (0, [.ref 141, .ref (z_X + 9), .int x1, .null], [], S, v3) (fun r S1 v4 => ∃ y4 : Int32, r = some (.int y4) ∧ S1 = S ∧ ((y4 = 0 → (z_J G d mX6_spells (0, [.ref 141, .ref (z_X + 10), .int x1, .null], [], S, v4) (fun r S1 v5 => ∃ y5 : Int32, r = some (.int y5) ∧ S1 = S ∧ ((y5 = 0 → (z_J G d mX6_spells (0, [.ref 141, .ref (z_X + 11), .int x1, .null], [], S, v5) (fun r S1 v6 => ∃ y6 : Int32, r = some (.int y6) ∧ S1 = S ∧ ((y6 = 0 → (z_J G d mX6_spells (0, [.ref 141, .ref (z_X + 12), .int x1, .null], [], S, v6) (fun r S1 v7 => ∃ y7 : Int32, r = some (.int y7) ∧ S1 = S ∧ ((y7 = 0 → (z_J G d mX6_spells (0, [.ref 141, .ref (z_X + 13), .int x1, .null], [], S, v7) (fun r S1 v8 => ∃ y8 : Int32, r = some (.int y8) ∧ S1 = S ∧ ((y8 = 0 → (Q (some (.int (-1))) S v8)) ∧ (¬ y8 = 0 → (Q (some (.int 7)) S v8)))))) ∧ (¬ y7 = 0 → (Q (some (.int 6)) S v7)))))) ∧ (¬ y6 = 0 → (Q (some (.int 5)) S v6)))))) ∧ (¬ y5 = 0 → (Q (some (.int 4)) S v5)))))) ∧ (¬ y4 = 0 → (Q (some (.int 3)) S v4)))))) ∧ (¬ y3 = 0 → (Q (some (.int 2)) S v3)))))) ∧ (¬ y2 = 0 → (Q (some (.int 1)) S v2)))))) ∧ (¬ y1 = 0 → (Q (some (.int 0)) S v1))))) :
    z_J G (d + 1) mX6_readWord (57, [.ref 141, .int x1], [], S, v) Q := by
  refine zj_aload_n dX6_readWord_57 rfl rfl ?_
  refine zj_ldcS (i := 6) (by decide) dX6_readWord_58 rfl rfl ?_
  refine zj_iload_n dX6_readWord_60 rfl rfl ?_
  refine zj_callV (M' := mX6_spells) (avs := [.ref (z_X + 6), .int x1]) (st := []) (ci := 6) dX6_readWord_61 wm_X6_spells wl_X6_126 wi_X6_spells ws_X6_spells (by decide) (zk_141 hL) rfl rfl (by decide) rfl (Nat.le_of_ble_eq_true rfl) (Nat.le_of_ble_eq_true rfl) ⟨Or.inl (z_k0 (zk_141 hL)), trivial⟩ trivial (z_J.mono h (fun r S1 v1 hq => ?_))
  obtain ⟨y1, rfl, rfl, h⟩ := hq
  refine zj_if_eq (tgt := 69) dX6_readWord_64 (by decide) (fun c => ?_) (fun c => ?_)
  · replace h := h.1 c
    refine zj_aload_n dX6_readWord_69 rfl rfl ?_
    refine zj_ldcS (i := 7) (by decide) dX6_readWord_70 rfl rfl ?_
    refine zj_iload_n dX6_readWord_72 rfl rfl ?_
    refine zj_callV (M' := mX6_spells) (avs := [.ref (z_X + 7), .int x1]) (st := []) (ci := 6) dX6_readWord_73 wm_X6_spells wl_X6_126 wi_X6_spells ws_X6_spells (by decide) (zk_141 hL) rfl rfl (by decide) rfl (Nat.le_of_ble_eq_true rfl) (Nat.le_of_ble_eq_true rfl) ⟨Or.inl (z_k0 (zk_141 hL)), trivial⟩ trivial (z_J.mono h (fun r S1 v2 hq => ?_))
    obtain ⟨y2, rfl, rfl, h⟩ := hq
    refine zj_if_eq (tgt := 81) dX6_readWord_76 (by decide) (fun c => ?_) (fun c => ?_)
    · replace h := h.1 c
      refine zj_aload_n dX6_readWord_81 rfl rfl ?_
      refine zj_ldcS (i := 8) (by decide) dX6_readWord_82 rfl rfl ?_
      refine zj_iload_n dX6_readWord_84 rfl rfl ?_
      refine zj_callV (M' := mX6_spells) (avs := [.ref (z_X + 8), .int x1]) (st := []) (ci := 6) dX6_readWord_85 wm_X6_spells wl_X6_126 wi_X6_spells ws_X6_spells (by decide) (zk_141 hL) rfl rfl (by decide) rfl (Nat.le_of_ble_eq_true rfl) (Nat.le_of_ble_eq_true rfl) ⟨Or.inl (z_k0 (zk_141 hL)), trivial⟩ trivial (z_J.mono h (fun r S1 v3 hq => ?_))
      obtain ⟨y3, rfl, rfl, h⟩ := hq
      refine zj_if_eq (tgt := 93) dX6_readWord_88 (by decide) (fun c => ?_) (fun c => ?_)
      · replace h := h.1 c
        refine zj_aload_n dX6_readWord_93 rfl rfl ?_
        refine zj_ldcS (i := 9) (by decide) dX6_readWord_94 rfl rfl ?_
        refine zj_iload_n dX6_readWord_96 rfl rfl ?_
        refine zj_callV (M' := mX6_spells) (avs := [.ref (z_X + 9), .int x1]) (st := []) (ci := 6) dX6_readWord_97 wm_X6_spells wl_X6_126 wi_X6_spells ws_X6_spells (by decide) (zk_141 hL) rfl rfl (by decide) rfl (Nat.le_of_ble_eq_true rfl) (Nat.le_of_ble_eq_true rfl) ⟨Or.inl (z_k0 (zk_141 hL)), trivial⟩ trivial (z_J.mono h (fun r S1 v4 hq => ?_))
        obtain ⟨y4, rfl, rfl, h⟩ := hq
        refine zj_if_eq (tgt := 105) dX6_readWord_100 (by decide) (fun c => ?_) (fun c => ?_)
        · replace h := h.1 c
          refine zj_aload_n dX6_readWord_105 rfl rfl ?_
          refine zj_ldcS (i := 10) (by decide) dX6_readWord_106 rfl rfl ?_
          refine zj_iload_n dX6_readWord_108 rfl rfl ?_
          refine zj_callV (M' := mX6_spells) (avs := [.ref (z_X + 10), .int x1]) (st := []) (ci := 6) dX6_readWord_109 wm_X6_spells wl_X6_126 wi_X6_spells ws_X6_spells (by decide) (zk_141 hL) rfl rfl (by decide) rfl (Nat.le_of_ble_eq_true rfl) (Nat.le_of_ble_eq_true rfl) ⟨Or.inl (z_k0 (zk_141 hL)), trivial⟩ trivial (z_J.mono h (fun r S1 v5 hq => ?_))
          obtain ⟨y5, rfl, rfl, h⟩ := hq
          refine zj_if_eq (tgt := 117) dX6_readWord_112 (by decide) (fun c => ?_) (fun c => ?_)
          · replace h := h.1 c
            refine zj_aload_n dX6_readWord_117 rfl rfl ?_
            refine zj_ldcS (i := 11) (by decide) dX6_readWord_118 rfl rfl ?_
            refine zj_iload_n dX6_readWord_120 rfl rfl ?_
            refine zj_callV (M' := mX6_spells) (avs := [.ref (z_X + 11), .int x1]) (st := []) (ci := 6) dX6_readWord_121 wm_X6_spells wl_X6_126 wi_X6_spells ws_X6_spells (by decide) (zk_141 hL) rfl rfl (by decide) rfl (Nat.le_of_ble_eq_true rfl) (Nat.le_of_ble_eq_true rfl) ⟨Or.inl (z_k0 (zk_141 hL)), trivial⟩ trivial (z_J.mono h (fun r S1 v6 hq => ?_))
            obtain ⟨y6, rfl, rfl, h⟩ := hq
            refine zj_if_eq (tgt := 129) dX6_readWord_124 (by decide) (fun c => ?_) (fun c => ?_)
            · replace h := h.1 c
              refine zj_aload_n dX6_readWord_129 rfl rfl ?_
              refine zj_ldcS (i := 12) (by decide) dX6_readWord_130 rfl rfl ?_
              refine zj_iload_n dX6_readWord_132 rfl rfl ?_
              refine zj_callV (M' := mX6_spells) (avs := [.ref (z_X + 12), .int x1]) (st := []) (ci := 6) dX6_readWord_133 wm_X6_spells wl_X6_126 wi_X6_spells ws_X6_spells (by decide) (zk_141 hL) rfl rfl (by decide) rfl (Nat.le_of_ble_eq_true rfl) (Nat.le_of_ble_eq_true rfl) ⟨Or.inl (z_k0 (zk_141 hL)), trivial⟩ trivial (z_J.mono h (fun r S1 v7 hq => ?_))
              obtain ⟨y7, rfl, rfl, h⟩ := hq
              refine zj_if_eq (tgt := 142) dX6_readWord_136 (by decide) (fun c => ?_) (fun c => ?_)
              · replace h := h.1 c
                refine zj_aload_n dX6_readWord_142 rfl rfl ?_
                refine zj_ldcS (i := 13) (by decide) dX6_readWord_143 rfl rfl ?_
                refine zj_iload_n dX6_readWord_145 rfl rfl ?_
                refine zj_callV (M' := mX6_spells) (avs := [.ref (z_X + 13), .int x1]) (st := []) (ci := 6) dX6_readWord_146 wm_X6_spells wl_X6_126 wi_X6_spells ws_X6_spells (by decide) (zk_141 hL) rfl rfl (by decide) rfl (Nat.le_of_ble_eq_true rfl) (Nat.le_of_ble_eq_true rfl) ⟨Or.inl (z_k0 (zk_141 hL)), trivial⟩ trivial (z_J.mono h (fun r S1 v8 hq => ?_))
                obtain ⟨y8, rfl, rfl, h⟩ := hq
                refine zj_if_eq (tgt := 157) dX6_readWord_149 (by decide) (fun c => ?_) (fun c => ?_)
                · replace h := h.1 c
                  refine zj_iconst (x := (-1)) dX6_readWord_157 rfl ?_
                  exact zj_iret dX6_readWord_158 rfl rfl h
                · replace h := h.2 c
                  refine zj_bipush (x := 7) dX6_readWord_152 rfl ?_
                  refine zj_goto (tgt := 158) dX6_readWord_154 (by decide) ?_
                  exact zj_iret dX6_readWord_158 rfl rfl h
              · replace h := h.2 c
                refine zj_bipush (x := 6) dX6_readWord_139 rfl ?_
                exact zj_iret dX6_readWord_141 rfl rfl h
            · replace h := h.2 c
              refine zj_iconst (x := 5) dX6_readWord_127 rfl ?_
              exact zj_iret dX6_readWord_128 rfl rfl h
          · replace h := h.2 c
            refine zj_iconst (x := 4) dX6_readWord_115 rfl ?_
            exact zj_iret dX6_readWord_116 rfl rfl h
        · replace h := h.2 c
          refine zj_iconst (x := 3) dX6_readWord_103 rfl ?_
          exact zj_iret dX6_readWord_104 rfl rfl h
      · replace h := h.2 c
        refine zj_iconst (x := 2) dX6_readWord_91 rfl ?_
        exact zj_iret dX6_readWord_92 rfl rfl h
    · replace h := h.2 c
      refine zj_iconst (x := 1) dX6_readWord_79 rfl ?_
      exact zj_iret dX6_readWord_80 rfl rfl h
  · replace h := h.2 c
    refine zj_iconst (x := 0) dX6_readWord_67 rfl ?_
    exact zj_iret dX6_readWord_68 rfl rfl h
theorem sg_X6_readStep_0 {G : z_G} {d : Nat} {S : z_Shp} {v : z_Dat} {Q : Option Value → z_Shp → z_Dat → Prop} (hL : z_L S)
    (h : z_J G d mX6_readWord (0, [.ref 141, .null], [], S, v) (fun r S1 v1 => ∃ y1 : Int32, r = some (.int y1) ∧ S1 = S ∧ ((¬ y1 = (-1) → (((v1 141 11) < 30 → ((¬ y1 = 7 → (z_J G (d + 1) mX6_readStep (59, [.ref 141, .int (v 141 12), .int y1, .null, .null, .null], [], S, v1) Q)) ∧ (y1 = 7 → (((v1 141 10) < 2 → (z_J G (d + 1) mX6_readStep (59, [.ref 141, .int (v 141 12), .int y1, .null, .null, .null], [], S, v1) Q)) ∧ (¬ (v1 141 10) < 2 → (z_J G d mX6_hasFault (0, [.ref 141, .int 4, .int (v 141 12)], [], S, v1) (fun r S1 v2 => ∃ y2 : Int32, r = some (.int y2) ∧ S1 = S ∧ (narrow .boolean (.int y2) = .int y2 ∧ Q (some (.int y2)) S v2)))))))) ∧ (¬ (v1 141 11) < 30 → (z_J G d mX6_hasFault (0, [.ref 141, .int 3, .int (v 141 12)], [], S, v1) (fun r S1 v3 => ∃ y3 : Int32, r = some (.int y3) ∧ S1 = S ∧ (narrow .boolean (.int y3) = .int y3 ∧ Q (some (.int y3)) S v3)))))) ∧ (y1 = (-1) → (z_J G d mX6_hasFault (0, [.ref 141, .int 1, .int (v 141 12)], [], S, v1) (fun r S1 v4 => ∃ y4 : Int32, r = some (.int y4) ∧ S1 = S ∧ (narrow .boolean (.int y4) = .int y4 ∧ Q (some (.int y4)) S v4))))))) :
    z_J G (d + 1) mX6_readStep (0, [.ref 141, .null, .null, .null, .null, .null], [], S, v) Q := by
  refine zj_aload_n dX6_readStep_0 rfl rfl ?_
  refine zj_getI (ci := 6) (j := 12) dX6_readStep_1 wf_X6_53 (by decide) (by decide) (zk_141 hL) rfl ?_
  refine zj_istore_n (ls2 := [.ref 141, .int (v 141 12), .null, .null, .null, .null]) dX6_readStep_4 rfl (by decide) rfl rfl ?_
  refine zj_aload_n dX6_readStep_5 rfl rfl ?_
  refine zj_callV (M' := mX6_readWord) (avs := []) (st := []) (ci := 6) dX6_readStep_6 wm_X6_readWord wl_X6_81 wi_X6_readWord ws_X6_readWord (by decide) (zk_141 hL) rfl rfl (by decide) rfl (Nat.le_of_ble_eq_true rfl) (Nat.le_of_ble_eq_true rfl) ⟨Or.inl (z_k0 (zk_141 hL)), trivial⟩ trivial (z_J.mono h (fun r S1 v1 hq => ?_))
  obtain ⟨y1, rfl, rfl, h⟩ := hq
  refine zj_istore_n (ls2 := [.ref 141, .int (v 141 12), .int y1, .null, .null, .null]) dX6_readStep_9 rfl (by decide) rfl rfl ?_
  refine zj_iload_n dX6_readStep_10 rfl rfl ?_
  refine zj_iconst (x := (-1)) dX6_readStep_11 rfl ?_
  refine zj_icmp_ne (tgt := 22) dX6_readStep_12 (by decide) (fun c => ?_) (fun c => ?_)
  · replace h := h.1 c
    refine zj_aload_n dX6_readStep_22 rfl rfl ?_
    refine zj_getI (ci := 6) (j := 11) dX6_readStep_23 wf_X6_47 (by decide) (by decide) (zk_141 hL) rfl ?_
    refine zj_bipush (x := 30) dX6_readStep_26 rfl ?_
    refine zj_icmp_lt (tgt := 38) dX6_readStep_28 (by decide) (fun c => ?_) (fun c => ?_)
    · replace h := h.1 c
      refine zj_iload_n dX6_readStep_38 rfl rfl ?_
      refine zj_bipush (x := 7) dX6_readStep_39 rfl ?_
      refine zj_icmp_ne (tgt := 59) dX6_readStep_41 (by decide) (fun c => ?_) (fun c => ?_)
      · replace h := h.1 c
        exact h
      · replace h := h.2 c
        refine zj_aload_n dX6_readStep_44 rfl rfl ?_
        refine zj_getI (ci := 6) (j := 10) dX6_readStep_45 wf_X6_50 (by decide) (by decide) (zk_141 hL) rfl ?_
        refine zj_iconst (x := 2) dX6_readStep_48 rfl ?_
        refine zj_icmp_lt (tgt := 59) dX6_readStep_49 (by decide) (fun c => ?_) (fun c => ?_)
        · replace h := h.1 c
          exact h
        · replace h := h.2 c
          refine zj_aload_n dX6_readStep_52 rfl rfl ?_
          refine zj_iconst (x := 4) dX6_readStep_53 rfl ?_
          refine zj_iload_n dX6_readStep_54 rfl rfl ?_
          refine zj_callV (M' := mX6_hasFault) (avs := [.int 4, .int (v 141 12)]) (st := []) (ci := 6) dX6_readStep_55 wm_X6_hasFault wl_X6_62 wi_X6_hasFault ws_X6_hasFault (by decide) (zk_141 hL) rfl rfl (by decide) rfl (Nat.le_of_ble_eq_true rfl) (Nat.le_of_ble_eq_true rfl) ⟨Or.inl (z_k0 (zk_141 hL)), trivial⟩ trivial (z_J.mono h (fun r S1 v2 hq => ?_))
          obtain ⟨y2, rfl, rfl, h⟩ := hq
          exact zj_iret dX6_readStep_58 rfl h.1 h.2
    · replace h := h.2 c
      refine zj_aload_n dX6_readStep_31 rfl rfl ?_
      refine zj_iconst (x := 3) dX6_readStep_32 rfl ?_
      refine zj_iload_n dX6_readStep_33 rfl rfl ?_
      refine zj_callV (M' := mX6_hasFault) (avs := [.int 3, .int (v 141 12)]) (st := []) (ci := 6) dX6_readStep_34 wm_X6_hasFault wl_X6_62 wi_X6_hasFault ws_X6_hasFault (by decide) (zk_141 hL) rfl rfl (by decide) rfl (Nat.le_of_ble_eq_true rfl) (Nat.le_of_ble_eq_true rfl) ⟨Or.inl (z_k0 (zk_141 hL)), trivial⟩ trivial (z_J.mono h (fun r S1 v3 hq => ?_))
      obtain ⟨y3, rfl, rfl, h⟩ := hq
      exact zj_iret dX6_readStep_37 rfl h.1 h.2
  · replace h := h.2 c
    refine zj_aload_n dX6_readStep_15 rfl rfl ?_
    refine zj_iconst (x := 1) dX6_readStep_16 rfl ?_
    refine zj_iload_n dX6_readStep_17 rfl rfl ?_
    refine zj_callV (M' := mX6_hasFault) (avs := [.int 1, .int (v 141 12)]) (st := []) (ci := 6) dX6_readStep_18 wm_X6_hasFault wl_X6_62 wi_X6_hasFault ws_X6_hasFault (by decide) (zk_141 hL) rfl rfl (by decide) rfl (Nat.le_of_ble_eq_true rfl) (Nat.le_of_ble_eq_true rfl) ⟨Or.inl (z_k0 (zk_141 hL)), trivial⟩ trivial (z_J.mono h (fun r S1 v4 hq => ?_))
    obtain ⟨y4, rfl, rfl, h⟩ := hq
    exact zj_iret dX6_readStep_21 rfl h.1 h.2
theorem sg_X6_readStep_59 {G : z_G} {d : Nat} {S : z_Shp} {v : z_Dat} {Q : Option Value → z_Shp → z_Dat → Prop} {x1 : Int32} {x2 : Int32} (hL : z_L S)
    (h : ∀ v1, v1 = z_u v 141 11 ((v 141 11) + 1) → (vp_in (v 141 11) 30 ∧ (∀ v2, v2 = z_u v1 143 (v 141 11).toNatClampNeg x2 → (z_J G d mX6_shapeOf (0, [.int x2], [], S, v2) (fun r S1 v3 => ∃ sy1 : Nat, sy1 < 14 ∧ r = some (.ref (z_X + sy1)) ∧ S1 = S ∧ (z_J G (d + 1) mX6_readStep (90, [.ref 141, .int x1, .int x2, .int (v 141 11), .ref (z_X + sy1), .int 0], [], S, v3) Q)))))) :
    z_J G (d + 1) mX6_readStep (59, [.ref 141, .int x1, .int x2, .null, .null, .null], [], S, v) Q := by
  refine zj_aload_n dX6_readStep_59 rfl rfl ?_
  refine zj_getI (ci := 6) (j := 11) dX6_readStep_60 wf_X6_47 (by decide) (by decide) (zk_141 hL) rfl ?_
  refine zj_istore_n (ls2 := [.ref 141, .int x1, .int x2, .int (v 141 11), .null, .null]) dX6_readStep_63 rfl (by decide) rfl rfl ?_
  refine zj_aload_n dX6_readStep_64 rfl rfl ?_
  refine zj_dup dX6_readStep_65 rfl ?_
  refine zj_getI (ci := 6) (j := 11) dX6_readStep_66 wf_X6_47 (by decide) (by decide) (zk_141 hL) rfl ?_
  refine zj_iconst (x := 1) dX6_readStep_69 rfl ?_
  refine zj_iadd dX6_readStep_70 ?_
  refine zj_putI (ci := 6) (j := 11) dX6_readStep_71 wf_X6_47 (by decide) (by decide) (zk_141 hL) rfl rfl rfl rfl (fun v1 ev1 => ?_)
  replace h := h v1 ev1
  refine zj_aload_n dX6_readStep_74 rfl rfl ?_
  refine zj_getR (ci := 6) (j := 4) dX6_readStep_75 wf_X6_15 (by decide) (by decide) (zk_141 hL) rfl (zr_141_4 hL) ?_
  refine zj_iload_n dX6_readStep_78 rfl rfl ?_
  refine zj_iload_n dX6_readStep_79 rfl rfl ?_
  refine zj_iastore dX6_readStep_80 (zk_143 hL) (by rw [(zl_143 hL)]; exact h.1) (fun v2 ev2 => ?_)
  replace h := h.2 v2 ev2
  refine zj_iload_n dX6_readStep_81 rfl rfl ?_
  refine zj_callS (M' := mX6_shapeOf) (avs := [.int x2]) (st := []) dX6_readStep_82 wm_X6_shapeOf wl_X6_84 wt_X6_shapeOf rfl (by decide) rfl (Nat.le_of_ble_eq_true rfl) (Nat.le_of_ble_eq_true rfl) ⟨Or.inl (z_k0 (zk_141 hL)), trivial⟩ trivial (z_J.mono h (fun r S1 v3 hq => ?_))
  obtain ⟨sy1, hsy1, rfl, rfl, h⟩ := hq
  refine zj_astore (ls2 := [.ref 141, .int x1, .int x2, .int (v 141 11), .ref (z_X + sy1), .null]) dX6_readStep_85 (by decide) rfl rfl ?_
  refine zj_iconst (x := 0) dX6_readStep_87 rfl ?_
  refine zj_istore (ls2 := [.ref 141, .int x1, .int x2, .int (v 141 11), .ref (z_X + sy1), .int 0]) dX6_readStep_88 (by decide) rfl rfl ?_
  exact h
theorem sg_X6_readStep_90 {G : z_G} {d : Nat} {S : z_Shp} {v : z_Dat} {Q : Option Value → z_Shp → z_Dat → Prop} {x1 : Int32} {x2 : Int32} {x3 : Int32} {x5 : Int32} {sy1 : Nat} (hL : z_L S) (hsy1 : sy1 < 14) (hd3 : 3 ≤ d)
    (h : ((nI (z_slen.getD sy1 0)) ≤ x5 → (z_J G (d + 1) mX6_readStep (123, [.ref 141, .int x1, .int x2, .int x3, .ref (z_X + sy1), .int x5], [], S, v) Q)) ∧ (¬ (nI (z_slen.getD sy1 0)) ≤ x5 → (vp_in x5 (z_slen.getD sy1 0) ∧ (z_J G d mX6_readPart (0, [.ref 141, .int ((z_sbyt.getD sy1 []).getD x5.toNatClampNeg 0), .int x3], [], S, v) (fun r S1 v1 => ∃ y1 : Int32, r = some (.int y1) ∧ S1 = S ∧ ((¬ y1 = 0 → (z_J G (d + 1) mX6_readStep (90, [.ref 141, .int x1, .int x2, .int x3, .ref (z_X + sy1), .int (x5 + 1)], [], S, v1) Q)) ∧ (y1 = 0 → (Q (some (.int 0)) S v1)))))))) :
    z_J G (d + 1) mX6_readStep (90, [.ref 141, .int x1, .int x2, .int x3, .ref (z_X + sy1), .int x5], [], S, v) Q := by
  refine zj_iload dX6_readStep_90 rfl ?_
  refine zj_aload dX6_readStep_92 rfl ?_
  refine zj_callVS (M' := mJ0_length_8abf5) (avs := []) (i := sy1) (st := [.int x5]) dX6_readStep_94 wm_J0_length_8abf5 wl_X6_88 wi_J0_length_8abf5 ws_J0_length_8abf5 hsy1 rfl (show (parseMethodDescriptor mJ0_length_8abf5.1.desc).map (fun q => q.parameters.length) = some 0 by decide) (Nat.le_of_ble_eq_true rfl) rfl (Nat.le_of_ble_eq_true rfl) (Nat.le_of_ble_eq_true rfl) ⟨Or.inl (z_k0 (zk_141 hL)), Or.inr (Nat.le_add_right _ _), trivial⟩ trivial (sx_length (by omega) hsy1 ?_)
  refine zj_icmp_ge (tgt := 123) dX6_readStep_97 (by decide) (fun c => ?_) (fun c => ?_)
  · replace h := h.1 c
    exact h
  · replace h := h.2 c
    refine zj_aload_n dX6_readStep_100 rfl rfl ?_
    refine zj_aload dX6_readStep_101 rfl ?_
    refine zj_iload dX6_readStep_103 rfl ?_
    refine zj_callVS (M' := mJ0_charAt_5068e) (avs := [.int x5]) (i := sy1) (st := [.ref 141]) dX6_readStep_105 wm_J0_charAt_5068e wl_X6_92 wi_J0_charAt_5068e ws_J0_charAt_5068e hsy1 rfl (show (parseMethodDescriptor mJ0_charAt_5068e.1.desc).map (fun q => q.parameters.length) = some 1 by decide) (Nat.le_of_ble_eq_true rfl) rfl (Nat.le_of_ble_eq_true rfl) (Nat.le_of_ble_eq_true rfl) ⟨Or.inl (z_k0 (zk_141 hL)), Or.inr (Nat.le_add_right _ _), trivial⟩ ⟨Or.inl (z_k0 (zk_141 hL)), trivial⟩ (sx_charAtI hd3 hsy1 h.1 ?_)
    replace h := h.2
    refine zj_iload_n dX6_readStep_108 rfl rfl ?_
    refine zj_callV (M' := mX6_readPart) (avs := [.int ((z_sbyt.getD sy1 []).getD x5.toNatClampNeg 0), .int x3]) (st := []) (ci := 6) dX6_readStep_109 wm_X6_readPart wl_X6_96 wi_X6_readPart ws_X6_readPart (by decide) (zk_141 hL) rfl rfl (by decide) rfl (Nat.le_of_ble_eq_true rfl) (Nat.le_of_ble_eq_true rfl) ⟨Or.inl (z_k0 (zk_141 hL)), Or.inr (Nat.le_add_right _ _), trivial⟩ trivial (z_J.mono h (fun r S1 v1 hq => ?_))
    obtain ⟨y1, rfl, rfl, h⟩ := hq
    refine zj_if_ne (tgt := 117) dX6_readStep_112 (by decide) (fun c => ?_) (fun c => ?_)
    · replace h := h.1 c
      refine zj_iinc (y := x5 + 1) (ls2 := [.ref 141, .int x1, .int x2, .int x3, .ref (z_X + sy1), .int (x5 + 1)]) dX6_readStep_117 rfl rfl (by decide) rfl rfl ?_
      refine zj_goto (tgt := 90) dX6_readStep_120 (by decide) ?_
      exact h
    · replace h := h.2 c
      refine zj_iconst (x := 0) dX6_readStep_115 rfl ?_
      exact zj_iret dX6_readStep_116 rfl (by decide) h
theorem sg_X6_readStep_123 {G : z_G} {d : Nat} {S : z_Shp} {v : z_Dat} {Q : Option Value → z_Shp → z_Dat → Prop} {x1 : Int32} {x2 : Int32} {x3 : Int32} {x5 : Int32} {sy1 : Nat} (hL : z_L S) (hsy1 : sy1 < 14)
    (h : (¬ x2 = 7 → (z_J G d mX6_readSign (0, [.ref 141, .int 59], [], S, v) (fun r S1 v1 => ∃ y1 : Int32, r = some (.int y1) ∧ S1 = S ∧ (narrow .boolean (.int y1) = .int y1 ∧ Q (some (.int y1)) S v1)))) ∧ (x2 = 7 → (vp_in (v 141 10) 2 ∧ (∀ v2, v2 = z_u v 148 (v 141 10).toNatClampNeg x3 → (∀ v3, v3 = z_u v2 141 10 ((v2 141 10) + 1) → (Q (some (.int 1)) S v3)))))) :
    z_J G (d + 1) mX6_readStep (123, [.ref 141, .int x1, .int x2, .int x3, .ref (z_X + sy1), .int x5], [], S, v) Q := by
  refine zj_iload_n dX6_readStep_123 rfl rfl ?_
  refine zj_bipush (x := 7) dX6_readStep_124 rfl ?_
  refine zj_icmp_ne (tgt := 151) dX6_readStep_126 (by decide) (fun c => ?_) (fun c => ?_)
  · replace h := h.1 c
    refine zj_aload_n dX6_readStep_151 rfl rfl ?_
    refine zj_bipush (x := 59) dX6_readStep_152 rfl ?_
    refine zj_callV (M' := mX6_readSign) (avs := [.int 59]) (st := []) (ci := 6) dX6_readStep_154 wm_X6_readSign wl_X6_77 wi_X6_readSign ws_X6_readSign (by decide) (zk_141 hL) rfl rfl (by decide) rfl (Nat.le_of_ble_eq_true rfl) (Nat.le_of_ble_eq_true rfl) ⟨Or.inl (z_k0 (zk_141 hL)), Or.inr (Nat.le_add_right _ _), trivial⟩ trivial (z_J.mono h (fun r S1 v1 hq => ?_))
    obtain ⟨y1, rfl, rfl, h⟩ := hq
    exact zj_iret dX6_readStep_157 rfl h.1 h.2
  · replace h := h.2 c
    refine zj_aload_n dX6_readStep_129 rfl rfl ?_
    refine zj_getR (ci := 6) (j := 9) dX6_readStep_130 wf_X6_30 (by decide) (by decide) (zk_141 hL) rfl (zr_141_9 hL) ?_
    refine zj_aload_n dX6_readStep_133 rfl rfl ?_
    refine zj_getI (ci := 6) (j := 10) dX6_readStep_134 wf_X6_50 (by decide) (by decide) (zk_141 hL) rfl ?_
    refine zj_iload_n dX6_readStep_137 rfl rfl ?_
    refine zj_iastore dX6_readStep_138 (zk_148 hL) (by rw [(zl_148 hL)]; exact h.1) (fun v2 ev2 => ?_)
    replace h := h.2 v2 ev2
    refine zj_aload_n dX6_readStep_139 rfl rfl ?_
    refine zj_dup dX6_readStep_140 rfl ?_
    refine zj_getI (ci := 6) (j := 10) dX6_readStep_141 wf_X6_50 (by decide) (by decide) (zk_141 hL) rfl ?_
    refine zj_iconst (x := 1) dX6_readStep_144 rfl ?_
    refine zj_iadd dX6_readStep_145 ?_
    refine zj_putI (ci := 6) (j := 10) dX6_readStep_146 wf_X6_50 (by decide) (by decide) (zk_141 hL) rfl rfl rfl rfl (fun v3 ev3 => ?_)
    replace h := h v3 ev3
    refine zj_iconst (x := 1) dX6_readStep_149 rfl ?_
    exact zj_iret dX6_readStep_150 rfl (by decide) h
