/-! SEGMENTS of check, qubit, edge: returning, throwing (printed by wip/whole/genthrow.py) -/
theorem sg_X10_check_0 {G : z_G} {d : Nat} {S : z_Shp} {v : z_Dat} {Q : Option Value → z_Shp → z_Dat → Prop} {x1 : Int32} {x2 : Int32} {x3 : Int32} {w_37 : Nat} (hL : z_L S) (rw_37 : z_r S 37 0 = some w_37) (hw_37 : z_isW w_37)
    (h : z_J G d mX10_isCheck (0, [.ref 0, .int x1, .int x2], [], S, v) (fun r S1 v1 => ∃ y1 : Int32, r = some (.int y1) ∧ S1 = S ∧ ((¬ y1 = 0 → ((x3 = 0 → ((vp_in x1 2) ∧ ((vp_in x2 12) ∧ (Q (some (.int (v1 (w_37 + 2 + x1.toNatClampNeg) x2.toNatClampNeg))) S v1)))) ∧ (x3 = 1 → ((vp_in x1 2) ∧ ((vp_in x2 12) ∧ (Q (some (.int (v1 (w_37 + 5 + x1.toNatClampNeg) x2.toNatClampNeg))) S v1)))) ∧ (x3 = 2 → ((vp_in x1 2) ∧ ((vp_in x2 12) ∧ (Q (some (.int (v1 (w_37 + 8 + x1.toNatClampNeg) x2.toNatClampNeg))) S v1)))) ∧ (x3 = 3 → ((vp_in x1 2) ∧ ((vp_in x2 12) ∧ (Q (some (.int (v1 (37 + 8 + x1.toNatClampNeg) x2.toNatClampNeg))) S v1)))) ∧ (¬ x3 = 0 → ¬ x3 = 1 → ¬ x3 = 2 → ¬ x3 = 3 → False))) ∧ (y1 = 0 → False)))) :
    z_J G (d + 1) mX10_check (0, [.ref 0, .int x1, .int x2, .int x3], [], S, v) Q := by
  refine zj_aload_n dX10_check_0 rfl rfl ?_
  refine zj_iload_n dX10_check_1 rfl rfl ?_
  refine zj_iload_n dX10_check_2 rfl rfl ?_
  refine zj_callV (M' := mX10_isCheck) (avs := [.int x1, .int x2]) (st := []) (ci := 10) dX10_check_3 wm_X10_isCheck wl_X10_154 wi_X10_isCheck ws_X10_isCheck (by decide) (zk_0 hL) rfl rfl (by decide) rfl (Nat.le_of_ble_eq_true rfl) (Nat.le_of_ble_eq_true rfl) ⟨Or.inl (z_k0 (zk_0 hL)), trivial⟩ trivial (z_J.mono h (fun r S1 v1 hq => ?_))
  obtain ⟨y1, rfl, rfl, h⟩ := hq
  refine zj_if_ne (tgt := 17) dX10_check_6 (by decide) (fun c => ?_) (fun c => ?_)
  · replace h := h.1 c
    refine zj_iload_n dX10_check_17 rfl rfl ?_
    by_cases c0 : x3 = 0
    · refine zj_tabIn (tgt := 48) dX10_check_18 (by rw [c0]; decide) (by rw [c0]; decide) (by rw [c0]; rfl) (by decide) ?_
      replace h := h.1 c0
      refine zj_aload_n dX10_check_48 rfl rfl ?_
      refine zj_getR (ci := 10) (j := 2) dX10_check_49 wf_X10_26 (by decide) (by decide) (zk_0 hL) rfl (zr_0_2 hL) ?_
      refine zj_getR (ci := 0) (j := 0) dX10_check_52 wf_X10_113 (by decide) (by decide) (zk_37 hL) rfl rw_37 ?_
      refine zj_getR (ci := 9) (j := 3) dX10_check_55 wf_X10_161 (by decide) (by decide) (zWk0 hL hw_37) rfl (zWr0_3 hL hw_37) ?_
      refine zj_iload_n dX10_check_58 rfl rfl ?_
      obtain ⟨hi1, h⟩ := h
      refine zj_aaload0 dX10_check_59 (zWk1 hL hw_37) (by rw [(zWl1 hL hw_37)]; exact hi1) (zWg1r hL hw_37 hi1) ?_
      refine zj_iload_n dX10_check_60 rfl rfl ?_
      refine zj_iaload dX10_check_61 (zWg1k hL hw_37 hi1) (by rw [(zWg1l hL hw_37 hi1)]; exact h.1) ?_
      replace h := h.2
      exact zj_iret dX10_check_62 rfl rfl h
    by_cases c1 : x3 = 1
    · refine zj_tabIn (tgt := 63) dX10_check_18 (by rw [c1]; decide) (by rw [c1]; decide) (by rw [c1]; rfl) (by decide) ?_
      replace h := h.2.1 c1
      refine zj_aload_n dX10_check_63 rfl rfl ?_
      refine zj_getR (ci := 10) (j := 2) dX10_check_64 wf_X10_26 (by decide) (by decide) (zk_0 hL) rfl (zr_0_2 hL) ?_
      refine zj_getR (ci := 0) (j := 0) dX10_check_67 wf_X10_113 (by decide) (by decide) (zk_37 hL) rfl rw_37 ?_
      refine zj_getR (ci := 9) (j := 4) dX10_check_70 wf_X10_165 (by decide) (by decide) (zWk0 hL hw_37) rfl (zWr0_4 hL hw_37) ?_
      refine zj_iload_n dX10_check_73 rfl rfl ?_
      obtain ⟨hi2, h⟩ := h
      refine zj_aaload0 dX10_check_74 (zWk4 hL hw_37) (by rw [(zWl4 hL hw_37)]; exact hi2) (zWg4r hL hw_37 hi2) ?_
      refine zj_iload_n dX10_check_75 rfl rfl ?_
      refine zj_iaload dX10_check_76 (zWg4k hL hw_37 hi2) (by rw [(zWg4l hL hw_37 hi2)]; exact h.1) ?_
      replace h := h.2
      exact zj_iret dX10_check_77 rfl rfl h
    by_cases c2 : x3 = 2
    · refine zj_tabIn (tgt := 78) dX10_check_18 (by rw [c2]; decide) (by rw [c2]; decide) (by rw [c2]; rfl) (by decide) ?_
      replace h := h.2.2.1 c2
      refine zj_aload_n dX10_check_78 rfl rfl ?_
      refine zj_getR (ci := 10) (j := 2) dX10_check_79 wf_X10_26 (by decide) (by decide) (zk_0 hL) rfl (zr_0_2 hL) ?_
      refine zj_getR (ci := 0) (j := 0) dX10_check_82 wf_X10_113 (by decide) (by decide) (zk_37 hL) rfl rw_37 ?_
      refine zj_getR (ci := 9) (j := 5) dX10_check_85 wf_X10_168 (by decide) (by decide) (zWk0 hL hw_37) rfl (zWr0_5 hL hw_37) ?_
      refine zj_iload_n dX10_check_88 rfl rfl ?_
      obtain ⟨hi3, h⟩ := h
      refine zj_aaload0 dX10_check_89 (zWk7 hL hw_37) (by rw [(zWl7 hL hw_37)]; exact hi3) (zWg7r hL hw_37 hi3) ?_
      refine zj_iload_n dX10_check_90 rfl rfl ?_
      refine zj_iaload dX10_check_91 (zWg7k hL hw_37 hi3) (by rw [(zWg7l hL hw_37 hi3)]; exact h.1) ?_
      replace h := h.2
      exact zj_iret dX10_check_92 rfl rfl h
    by_cases c3 : x3 = 3
    · refine zj_tabIn (tgt := 93) dX10_check_18 (by rw [c3]; decide) (by rw [c3]; decide) (by rw [c3]; rfl) (by decide) ?_
      replace h := h.2.2.2.1 c3
      refine zj_aload_n dX10_check_93 rfl rfl ?_
      refine zj_getR (ci := 10) (j := 2) dX10_check_94 wf_X10_26 (by decide) (by decide) (zk_0 hL) rfl (zr_0_2 hL) ?_
      refine zj_getR (ci := 0) (j := 6) dX10_check_97 wf_X10_171 (by decide) (by decide) (zk_37 hL) rfl (zr_37_6 hL) ?_
      refine zj_iload_n dX10_check_100 rfl rfl ?_
      obtain ⟨hi4, h⟩ := h
      refine zj_aaload0 dX10_check_101 (zk_44 hL) (by rw [(zl_44 hL)]; exact hi4) (zFg7r hL zF_37 hi4) ?_
      refine zj_iload_n dX10_check_102 rfl rfl ?_
      refine zj_iaload dX10_check_103 (zFg7k hL zF_37 hi4) (by rw [(zFg7l hL zF_37 hi4)]; exact h.1) ?_
      replace h := h.2
      exact zj_iret dX10_check_104 rfl rfl h
    refine zj_tabOut (tgt := 105) dX10_check_18 (z_out_0_3 c0 c1 c2 c3) (by decide) ?_
    replace h := h.2.2.2.2 c0 c1 c2 c3
    exact h.elim
  · replace h := h.2 c
    exact h.elim
theorem sg_X10_qubit_0 {G : z_G} {d : Nat} {S : z_Shp} {v : z_Dat} {Q : Option Value → z_Shp → z_Dat → Prop} {x1 : Int32} {x2 : Int32} {w_37 : Nat} (hL : z_L S) (rw_37 : z_r S 37 0 = some w_37) (hw_37 : z_isW w_37)
    (h : (x1 < 0 → False) ∧ (¬ x1 < 0 → ((x1 < (v w_37 1) → ((x2 = 0 → ((vp_in x1 25) ∧ (Q (some (.int (v 43 x1.toNatClampNeg))) S v))) ∧ (x2 = 1 → (z_J G d mX9_checksOn (0, [.ref w_37, .int (x2 - 1), .int x1, .null, .null], [], S, v) (fun r S1 v1 => ∃ y1 : Int32, r = some (.int y1) ∧ S1 = S ∧ (Q (some (.int y1)) S v1)))) ∧ (x2 = 2 → (z_J G d mX9_checksOn (0, [.ref w_37, .int (x2 - 1), .int x1, .null, .null], [], S, v) (fun r S1 v2 => ∃ y2 : Int32, r = some (.int y2) ∧ S1 = S ∧ (Q (some (.int y2)) S v2)))) ∧ (¬ x2 = 0 → ¬ x2 = 1 → ¬ x2 = 2 → False))) ∧ (¬ x1 < (v w_37 1) → False)))) :
    z_J G (d + 1) mX10_qubit (0, [.ref 0, .int x1, .int x2], [], S, v) Q := by
  refine zj_iload_n dX10_qubit_0 rfl rfl ?_
  refine zj_if_lt (tgt := 18) dX10_qubit_1 (by decide) (fun c => ?_) (fun c => ?_)
  · replace h := h.1 c
    exact h.elim
  · replace h := h.2 c
    refine zj_iload_n dX10_qubit_4 rfl rfl ?_
    refine zj_aload_n dX10_qubit_5 rfl rfl ?_
    refine zj_getR (ci := 10) (j := 2) dX10_qubit_6 wf_X10_26 (by decide) (by decide) (zk_0 hL) rfl (zr_0_2 hL) ?_
    refine zj_getR (ci := 0) (j := 0) dX10_qubit_9 wf_X10_113 (by decide) (by decide) (zk_37 hL) rfl rw_37 ?_
    refine zj_getI (ci := 9) (j := 1) dX10_qubit_12 wf_X10_116 (by decide) (by decide) (zWk0 hL hw_37) rfl ?_
    refine zj_icmp_lt (tgt := 26) dX10_qubit_15 (by decide) (fun c => ?_) (fun c => ?_)
    · replace h := h.1 c
      refine zj_iload_n dX10_qubit_26 rfl rfl ?_
      by_cases c0 : x2 = 0
      · refine zj_tabIn (tgt := 52) dX10_qubit_27 (by rw [c0]; decide) (by rw [c0]; decide) (by rw [c0]; rfl) (by decide) ?_
        replace h := h.1 c0
        refine zj_aload_n dX10_qubit_52 rfl rfl ?_
        refine zj_getR (ci := 10) (j := 2) dX10_qubit_53 wf_X10_26 (by decide) (by decide) (zk_0 hL) rfl (zr_0_2 hL) ?_
        refine zj_getR (ci := 0) (j := 5) dX10_qubit_56 wf_X10_174 (by decide) (by decide) (zk_37 hL) rfl (zr_37_5 hL) ?_
        refine zj_iload_n dX10_qubit_59 rfl rfl ?_
        refine zj_iaload dX10_qubit_60 (zk_43 hL) (by rw [(zl_43 hL)]; exact h.1) ?_
        replace h := h.2
        exact zj_iret dX10_qubit_61 rfl rfl h
      by_cases c1 : x2 = 1
      · refine zj_tabIn (tgt := 62) dX10_qubit_27 (by rw [c1]; decide) (by rw [c1]; decide) (by rw [c1]; rfl) (by decide) ?_
        replace h := h.2.1 c1
        refine zj_aload_n dX10_qubit_62 rfl rfl ?_
        refine zj_getR (ci := 10) (j := 2) dX10_qubit_63 wf_X10_26 (by decide) (by decide) (zk_0 hL) rfl (zr_0_2 hL) ?_
        refine zj_getR (ci := 0) (j := 0) dX10_qubit_66 wf_X10_113 (by decide) (by decide) (zk_37 hL) rfl rw_37 ?_
        refine zj_iload_n dX10_qubit_69 rfl rfl ?_
        refine zj_iconst (x := 1) dX10_qubit_70 rfl ?_
        refine zj_isub dX10_qubit_71 ?_
        refine zj_iload_n dX10_qubit_72 rfl rfl ?_
        refine zj_callV (M' := mX9_checksOn) (avs := [.int (x2 - 1), .int x1]) (st := []) (ci := 9) dX10_qubit_73 wm_X9_checksOn wl_X10_177 wi_X9_checksOn ws_X9_checksOn (by decide) (zWk0 hL hw_37) rfl rfl (by decide) rfl (Nat.le_of_ble_eq_true rfl) (Nat.le_of_ble_eq_true rfl) ⟨Or.inl (z_k0 (zk_0 hL)), trivial⟩ trivial (z_J.mono h (fun r S1 v1 hq => ?_))
        obtain ⟨y1, rfl, rfl, h⟩ := hq
        exact zj_iret dX10_qubit_76 rfl rfl h
      by_cases c2 : x2 = 2
      · refine zj_tabIn (tgt := 62) dX10_qubit_27 (by rw [c2]; decide) (by rw [c2]; decide) (by rw [c2]; rfl) (by decide) ?_
        replace h := h.2.2.1 c2
        refine zj_aload_n dX10_qubit_62 rfl rfl ?_
        refine zj_getR (ci := 10) (j := 2) dX10_qubit_63 wf_X10_26 (by decide) (by decide) (zk_0 hL) rfl (zr_0_2 hL) ?_
        refine zj_getR (ci := 0) (j := 0) dX10_qubit_66 wf_X10_113 (by decide) (by decide) (zk_37 hL) rfl rw_37 ?_
        refine zj_iload_n dX10_qubit_69 rfl rfl ?_
        refine zj_iconst (x := 1) dX10_qubit_70 rfl ?_
        refine zj_isub dX10_qubit_71 ?_
        refine zj_iload_n dX10_qubit_72 rfl rfl ?_
        refine zj_callV (M' := mX9_checksOn) (avs := [.int (x2 - 1), .int x1]) (st := []) (ci := 9) dX10_qubit_73 wm_X9_checksOn wl_X10_177 wi_X9_checksOn ws_X9_checksOn (by decide) (zWk0 hL hw_37) rfl rfl (by decide) rfl (Nat.le_of_ble_eq_true rfl) (Nat.le_of_ble_eq_true rfl) ⟨Or.inl (z_k0 (zk_0 hL)), trivial⟩ trivial (z_J.mono h (fun r S1 v2 hq => ?_))
        obtain ⟨y2, rfl, rfl, h⟩ := hq
        exact zj_iret dX10_qubit_76 rfl rfl h
      refine zj_tabOut (tgt := 77) dX10_qubit_27 (z_out_0_2 c0 c1 c2) (by decide) ?_
      replace h := h.2.2.2 c0 c1 c2
      exact h.elim
    · replace h := h.2 c
      exact h.elim
theorem sg_X10_edge_0 {G : z_G} {d : Nat} {S : z_Shp} {v : z_Dat} {Q : Option Value → z_Shp → z_Dat → Prop} {x1 : Int32} {x2 : Int32} {x3 : Int32} (hL : z_L S)
    (h : ((x1 = 0 ∨ x1 = 1) → (z_J G d mX4_spread (0, [.ref 149, .ref 37, .int x1, .null], [], S, v) (fun r S1 v1 => r = none ∧ S1 = S ∧ ((x2 < 0 → False) ∧ (¬ x2 < 0 → ((x2 < (v1 149 2) → ((x3 = 0 → ((vp_in x2 321) ∧ (Q (some (.int (v1 150 x2.toNatClampNeg))) S v1))) ∧ (x3 = 1 → ((vp_in x2 321) ∧ ((¬ (v1 151 x2.toNatClampNeg) = (v1 149 1) → ((vp_in x2 321) ∧ (Q (some (.int (v1 151 x2.toNatClampNeg))) S v1))) ∧ ((v1 151 x2.toNatClampNeg) = (v1 149 1) → (Q (some (.int (-1))) S v1))))) ∧ (x3 = 2 → ((vp_in x2 321) ∧ (Q (some (.int (v1 152 x2.toNatClampNeg))) S v1))) ∧ (¬ x3 = 0 → ¬ x3 = 1 → ¬ x3 = 2 → False))) ∧ (¬ x2 < (v1 149 2) → False))))))) ∧ (¬ (x1 = 0 ∨ x1 = 1) → False)) :
    z_J G (d + 1) mX10_edge (0, [.ref 0, .int x1, .int x2, .int x3], [], S, v) Q := by
  refine zj_iload_n dX10_edge_0 rfl rfl ?_
  refine zj_callS (M' := mX10_isKind) (avs := [.int x1]) (st := []) dX10_edge_1 wm_X10_isKind wl_X10_181 wt_X10_isKind rfl (by decide) rfl (Nat.le_of_ble_eq_true rfl) (Nat.le_of_ble_eq_true rfl) ⟨Or.inl (z_k0 (zk_0 hL)), trivial⟩ trivial (hp_X10_isKind (fun c => ?_) (fun c => ?_))
  · replace h := h.1 c
    refine zj_if_ne (tgt := 15) dX10_edge_4 (by decide) (fun _ => ?_) (fun q => absurd q (by decide))
    refine zj_aload_n dX10_edge_15 rfl rfl ?_
    refine zj_getR (ci := 10) (j := 8) dX10_edge_16 wf_X10_58 (by decide) (by decide) (zk_0 hL) rfl (zr_0_8 hL) ?_
    refine zj_aload_n dX10_edge_19 rfl rfl ?_
    refine zj_getR (ci := 10) (j := 2) dX10_edge_20 wf_X10_26 (by decide) (by decide) (zk_0 hL) rfl (zr_0_2 hL) ?_
    refine zj_iload_n dX10_edge_23 rfl rfl ?_
    refine zj_callV (M' := mX4_spread) (avs := [.ref 37, .int x1]) (st := []) (ci := 4) dX10_edge_24 wm_X4_spread wl_X10_191 wi_X4_spread ws_X4_spread (by decide) (zk_149 hL) rfl rfl (by decide) rfl (Nat.le_of_ble_eq_true rfl) (Nat.le_of_ble_eq_true rfl) ⟨Or.inl (z_k0 (zk_0 hL)), trivial⟩ trivial (z_J.mono h (fun r S1 v1 hq => ?_))
    obtain ⟨rfl, rfl, h⟩ := hq
    refine zj_iload_n dX10_edge_27 rfl rfl ?_
    refine zj_if_lt (tgt := 42) dX10_edge_28 (by decide) (fun c => ?_) (fun c => ?_)
    · replace h := h.1 c
      exact h.elim
    · replace h := h.2 c
      refine zj_iload_n dX10_edge_31 rfl rfl ?_
      refine zj_aload_n dX10_edge_32 rfl rfl ?_
      refine zj_getR (ci := 10) (j := 8) dX10_edge_33 wf_X10_58 (by decide) (by decide) (zk_0 hL) rfl (zr_0_8 hL) ?_
      refine zj_getI (ci := 4) (j := 2) dX10_edge_36 wf_X10_267 (by decide) (by decide) (zk_149 hL) rfl ?_
      refine zj_icmp_lt (tgt := 50) dX10_edge_39 (by decide) (fun c => ?_) (fun c => ?_)
      · replace h := h.1 c
        refine zj_iload_n dX10_edge_50 rfl rfl ?_
        by_cases c0 : x3 = 0
        · refine zj_tabIn (tgt := 76) dX10_edge_51 (by rw [c0]; decide) (by rw [c0]; decide) (by rw [c0]; rfl) (by decide) ?_
          replace h := h.1 c0
          refine zj_aload_n dX10_edge_76 rfl rfl ?_
          refine zj_getR (ci := 10) (j := 8) dX10_edge_77 wf_X10_58 (by decide) (by decide) (zk_0 hL) rfl (zr_0_8 hL) ?_
          refine zj_getR (ci := 4) (j := 4) dX10_edge_80 wf_X10_270 (by decide) (by decide) (zk_149 hL) rfl (zr_149_4 hL) ?_
          refine zj_iload_n dX10_edge_83 rfl rfl ?_
          refine zj_iaload dX10_edge_84 (zk_150 hL) (by rw [(zl_150 hL)]; exact h.1) ?_
          replace h := h.2
          exact zj_iret dX10_edge_85 rfl rfl h
        by_cases c1 : x3 = 1
        · refine zj_tabIn (tgt := 86) dX10_edge_51 (by rw [c1]; decide) (by rw [c1]; decide) (by rw [c1]; rfl) (by decide) ?_
          replace h := h.2.1 c1
          refine zj_aload_n dX10_edge_86 rfl rfl ?_
          refine zj_getR (ci := 10) (j := 8) dX10_edge_87 wf_X10_58 (by decide) (by decide) (zk_0 hL) rfl (zr_0_8 hL) ?_
          refine zj_getR (ci := 4) (j := 5) dX10_edge_90 wf_X10_273 (by decide) (by decide) (zk_149 hL) rfl (zr_149_5 hL) ?_
          refine zj_iload_n dX10_edge_93 rfl rfl ?_
          refine zj_iaload dX10_edge_94 (zk_151 hL) (by rw [(zl_151 hL)]; exact h.1) ?_
          replace h := h.2
          refine zj_aload_n dX10_edge_95 rfl rfl ?_
          refine zj_getR (ci := 10) (j := 8) dX10_edge_96 wf_X10_58 (by decide) (by decide) (zk_0 hL) rfl (zr_0_8 hL) ?_
          refine zj_getI (ci := 4) (j := 1) dX10_edge_99 wf_X10_276 (by decide) (by decide) (zk_149 hL) rfl ?_
          refine zj_icmp_ne (tgt := 109) dX10_edge_102 (by decide) (fun c => ?_) (fun c => ?_)
          · replace h := h.1 c
            refine zj_aload_n dX10_edge_109 rfl rfl ?_
            refine zj_getR (ci := 10) (j := 8) dX10_edge_110 wf_X10_58 (by decide) (by decide) (zk_0 hL) rfl (zr_0_8 hL) ?_
            refine zj_getR (ci := 4) (j := 5) dX10_edge_113 wf_X10_273 (by decide) (by decide) (zk_149 hL) rfl (zr_149_5 hL) ?_
            refine zj_iload_n dX10_edge_116 rfl rfl ?_
            refine zj_iaload dX10_edge_117 (zk_151 hL) (by rw [(zl_151 hL)]; exact h.1) ?_
            replace h := h.2
            exact zj_iret dX10_edge_118 rfl rfl h
          · replace h := h.2 c
            refine zj_iconst (x := (-1)) dX10_edge_105 rfl ?_
            refine zj_goto (tgt := 118) dX10_edge_106 (by decide) ?_
            exact zj_iret dX10_edge_118 rfl rfl h
        by_cases c2 : x3 = 2
        · refine zj_tabIn (tgt := 119) dX10_edge_51 (by rw [c2]; decide) (by rw [c2]; decide) (by rw [c2]; rfl) (by decide) ?_
          replace h := h.2.2.1 c2
          refine zj_aload_n dX10_edge_119 rfl rfl ?_
          refine zj_getR (ci := 10) (j := 8) dX10_edge_120 wf_X10_58 (by decide) (by decide) (zk_0 hL) rfl (zr_0_8 hL) ?_
          refine zj_getR (ci := 4) (j := 6) dX10_edge_123 wf_X10_279 (by decide) (by decide) (zk_149 hL) rfl (zr_149_6 hL) ?_
          refine zj_iload_n dX10_edge_126 rfl rfl ?_
          refine zj_iaload dX10_edge_127 (zk_152 hL) (by rw [(zl_152 hL)]; exact h.1) ?_
          replace h := h.2
          exact zj_iret dX10_edge_128 rfl rfl h
        refine zj_tabOut (tgt := 129) dX10_edge_51 (z_out_0_2 c0 c1 c2) (by decide) ?_
        replace h := h.2.2.2 c0 c1 c2
        exact h.elim
      · replace h := h.2 c
        exact h.elim
  · replace h := h.2 c
    refine zj_if_ne (tgt := 15) dX10_edge_4 (by decide) (fun q => absurd (by decide) q) (fun _ => ?_)
    exact h.elim
theorem st_X10_check_0 {G : z_G} {d : Nat} {S : z_Shp} {v : z_Dat} {T : z_Shp → z_Dat → Prop} {x1 : Int32} {x2 : Int32} {x3 : Int32} {w_37 : Nat} (hL : z_L S) (rw_37 : z_r S 37 0 = some w_37) (hw_37 : z_isW w_37)
    (h : z_J G d mX10_isCheck (0, [.ref 0, .int x1, .int x2], [], S, v) (fun r S1 v1 => ∃ y1 : Int32, r = some (.int y1) ∧ S1 = S ∧ ((¬ y1 = 0 → ((x3 = 0 → ((vp_in x1 2) ∧ ((vp_in x2 12) ∧ False))) ∧ (x3 = 1 → ((vp_in x1 2) ∧ ((vp_in x2 12) ∧ False))) ∧ (x3 = 2 → ((vp_in x1 2) ∧ ((vp_in x2 12) ∧ False))) ∧ (x3 = 3 → ((vp_in x1 2) ∧ ((vp_in x2 12) ∧ False))) ∧ (¬ x3 = 0 → ¬ x3 = 1 → ¬ x3 = 2 → ¬ x3 = 3 → (T S v1)))) ∧ (y1 = 0 → (T S v1))))) :
    z_JP G (d + 1) mX10_check (0, [.ref 0, .int x1, .int x2, .int x3], [], S, v) (z_TH mX10_check T) := by
  refine zt_aload_n dX10_check_0 rfl rfl ?_
  refine zt_iload_n dX10_check_1 rfl rfl ?_
  refine zt_iload_n dX10_check_2 rfl rfl ?_
  refine zt_callV (M' := mX10_isCheck) (avs := [.int x1, .int x2]) (st := []) (ci := 10) dX10_check_3 wm_X10_isCheck wl_X10_154 wi_X10_isCheck ws_X10_isCheck (by decide) (zk_0 hL) rfl rfl (by decide) rfl (Nat.le_of_ble_eq_true rfl) (Nat.le_of_ble_eq_true rfl) ⟨Or.inl (z_k0 (zk_0 hL)), trivial⟩ trivial (z_J.mono h (fun r S1 v1 hq => ?_))
  obtain ⟨y1, rfl, rfl, h⟩ := hq
  refine zt_if_ne (tgt := 17) dX10_check_6 (by decide) (fun c => ?_) (fun c => ?_)
  · replace h := h.1 c
    refine zt_iload_n dX10_check_17 rfl rfl ?_
    by_cases c0 : x3 = 0
    · refine zt_tabIn (tgt := 48) dX10_check_18 (by rw [c0]; decide) (by rw [c0]; decide) (by rw [c0]; rfl) (by decide) ?_
      replace h := h.1 c0
      refine zt_aload_n dX10_check_48 rfl rfl ?_
      refine zt_getR (ci := 10) (j := 2) dX10_check_49 wf_X10_26 (by decide) (by decide) (zk_0 hL) rfl (zr_0_2 hL) ?_
      refine zt_getR (ci := 0) (j := 0) dX10_check_52 wf_X10_113 (by decide) (by decide) (zk_37 hL) rfl rw_37 ?_
      refine zt_getR (ci := 9) (j := 3) dX10_check_55 wf_X10_161 (by decide) (by decide) (zWk0 hL hw_37) rfl (zWr0_3 hL hw_37) ?_
      refine zt_iload_n dX10_check_58 rfl rfl ?_
      obtain ⟨hi1, h⟩ := h
      refine zt_aaload0 dX10_check_59 (zWk1 hL hw_37) (by rw [(zWl1 hL hw_37)]; exact hi1) (zWg1r hL hw_37 hi1) ?_
      refine zt_iload_n dX10_check_60 rfl rfl ?_
      refine zt_iaload dX10_check_61 (zWg1k hL hw_37 hi1) (by rw [(zWg1l hL hw_37 hi1)]; exact h.1) ?_
      replace h := h.2
      exact h.elim
    by_cases c1 : x3 = 1
    · refine zt_tabIn (tgt := 63) dX10_check_18 (by rw [c1]; decide) (by rw [c1]; decide) (by rw [c1]; rfl) (by decide) ?_
      replace h := h.2.1 c1
      refine zt_aload_n dX10_check_63 rfl rfl ?_
      refine zt_getR (ci := 10) (j := 2) dX10_check_64 wf_X10_26 (by decide) (by decide) (zk_0 hL) rfl (zr_0_2 hL) ?_
      refine zt_getR (ci := 0) (j := 0) dX10_check_67 wf_X10_113 (by decide) (by decide) (zk_37 hL) rfl rw_37 ?_
      refine zt_getR (ci := 9) (j := 4) dX10_check_70 wf_X10_165 (by decide) (by decide) (zWk0 hL hw_37) rfl (zWr0_4 hL hw_37) ?_
      refine zt_iload_n dX10_check_73 rfl rfl ?_
      obtain ⟨hi2, h⟩ := h
      refine zt_aaload0 dX10_check_74 (zWk4 hL hw_37) (by rw [(zWl4 hL hw_37)]; exact hi2) (zWg4r hL hw_37 hi2) ?_
      refine zt_iload_n dX10_check_75 rfl rfl ?_
      refine zt_iaload dX10_check_76 (zWg4k hL hw_37 hi2) (by rw [(zWg4l hL hw_37 hi2)]; exact h.1) ?_
      replace h := h.2
      exact h.elim
    by_cases c2 : x3 = 2
    · refine zt_tabIn (tgt := 78) dX10_check_18 (by rw [c2]; decide) (by rw [c2]; decide) (by rw [c2]; rfl) (by decide) ?_
      replace h := h.2.2.1 c2
      refine zt_aload_n dX10_check_78 rfl rfl ?_
      refine zt_getR (ci := 10) (j := 2) dX10_check_79 wf_X10_26 (by decide) (by decide) (zk_0 hL) rfl (zr_0_2 hL) ?_
      refine zt_getR (ci := 0) (j := 0) dX10_check_82 wf_X10_113 (by decide) (by decide) (zk_37 hL) rfl rw_37 ?_
      refine zt_getR (ci := 9) (j := 5) dX10_check_85 wf_X10_168 (by decide) (by decide) (zWk0 hL hw_37) rfl (zWr0_5 hL hw_37) ?_
      refine zt_iload_n dX10_check_88 rfl rfl ?_
      obtain ⟨hi3, h⟩ := h
      refine zt_aaload0 dX10_check_89 (zWk7 hL hw_37) (by rw [(zWl7 hL hw_37)]; exact hi3) (zWg7r hL hw_37 hi3) ?_
      refine zt_iload_n dX10_check_90 rfl rfl ?_
      refine zt_iaload dX10_check_91 (zWg7k hL hw_37 hi3) (by rw [(zWg7l hL hw_37 hi3)]; exact h.1) ?_
      replace h := h.2
      exact h.elim
    by_cases c3 : x3 = 3
    · refine zt_tabIn (tgt := 93) dX10_check_18 (by rw [c3]; decide) (by rw [c3]; decide) (by rw [c3]; rfl) (by decide) ?_
      replace h := h.2.2.2.1 c3
      refine zt_aload_n dX10_check_93 rfl rfl ?_
      refine zt_getR (ci := 10) (j := 2) dX10_check_94 wf_X10_26 (by decide) (by decide) (zk_0 hL) rfl (zr_0_2 hL) ?_
      refine zt_getR (ci := 0) (j := 6) dX10_check_97 wf_X10_171 (by decide) (by decide) (zk_37 hL) rfl (zr_37_6 hL) ?_
      refine zt_iload_n dX10_check_100 rfl rfl ?_
      obtain ⟨hi4, h⟩ := h
      refine zt_aaload0 dX10_check_101 (zk_44 hL) (by rw [(zl_44 hL)]; exact hi4) (zFg7r hL zF_37 hi4) ?_
      refine zt_iload_n dX10_check_102 rfl rfl ?_
      refine zt_iaload dX10_check_103 (zFg7k hL zF_37 hi4) (by rw [(zFg7l hL zF_37 hi4)]; exact h.1) ?_
      replace h := h.2
      exact h.elim
    refine zt_tabOut (tgt := 105) dX10_check_18 (z_out_0_3 c0 c1 c2 c3) (by decide) ?_
    replace h := h.2.2.2.2 c0 c1 c2 c3
    exact zt_end rfl rfl dX10_check_105 dX10_check_108 dX10_check_109 dX10_check_112 h
  · replace h := h.2 c
    exact zt_end rfl rfl dX10_check_9 dX10_check_12 dX10_check_13 dX10_check_16 h
theorem st_X10_qubit_0 {G : z_G} {d : Nat} {S : z_Shp} {v : z_Dat} {T : z_Shp → z_Dat → Prop} {x1 : Int32} {x2 : Int32} {w_37 : Nat} (hL : z_L S) (rw_37 : z_r S 37 0 = some w_37) (hw_37 : z_isW w_37)
    (h : (x1 < 0 → (T S v)) ∧ (¬ x1 < 0 → ((x1 < (v w_37 1) → ((x2 = 0 → ((vp_in x1 25) ∧ False)) ∧ (x2 = 1 → (z_J G d mX9_checksOn (0, [.ref w_37, .int (x2 - 1), .int x1, .null, .null], [], S, v) (fun r S1 v1 => ∃ y1 : Int32, r = some (.int y1) ∧ S1 = S ∧ False))) ∧ (x2 = 2 → (z_J G d mX9_checksOn (0, [.ref w_37, .int (x2 - 1), .int x1, .null, .null], [], S, v) (fun r S1 v2 => ∃ y2 : Int32, r = some (.int y2) ∧ S1 = S ∧ False))) ∧ (¬ x2 = 0 → ¬ x2 = 1 → ¬ x2 = 2 → (T S v)))) ∧ (¬ x1 < (v w_37 1) → (T S v))))) :
    z_JP G (d + 1) mX10_qubit (0, [.ref 0, .int x1, .int x2], [], S, v) (z_TH mX10_qubit T) := by
  refine zt_iload_n dX10_qubit_0 rfl rfl ?_
  refine zt_if_lt (tgt := 18) dX10_qubit_1 (by decide) (fun c => ?_) (fun c => ?_)
  · replace h := h.1 c
    exact zt_end rfl rfl dX10_qubit_18 dX10_qubit_21 dX10_qubit_22 dX10_qubit_25 h
  · replace h := h.2 c
    refine zt_iload_n dX10_qubit_4 rfl rfl ?_
    refine zt_aload_n dX10_qubit_5 rfl rfl ?_
    refine zt_getR (ci := 10) (j := 2) dX10_qubit_6 wf_X10_26 (by decide) (by decide) (zk_0 hL) rfl (zr_0_2 hL) ?_
    refine zt_getR (ci := 0) (j := 0) dX10_qubit_9 wf_X10_113 (by decide) (by decide) (zk_37 hL) rfl rw_37 ?_
    refine zt_getI (ci := 9) (j := 1) dX10_qubit_12 wf_X10_116 (by decide) (by decide) (zWk0 hL hw_37) rfl ?_
    refine zt_icmp_lt (tgt := 26) dX10_qubit_15 (by decide) (fun c => ?_) (fun c => ?_)
    · replace h := h.1 c
      refine zt_iload_n dX10_qubit_26 rfl rfl ?_
      by_cases c0 : x2 = 0
      · refine zt_tabIn (tgt := 52) dX10_qubit_27 (by rw [c0]; decide) (by rw [c0]; decide) (by rw [c0]; rfl) (by decide) ?_
        replace h := h.1 c0
        refine zt_aload_n dX10_qubit_52 rfl rfl ?_
        refine zt_getR (ci := 10) (j := 2) dX10_qubit_53 wf_X10_26 (by decide) (by decide) (zk_0 hL) rfl (zr_0_2 hL) ?_
        refine zt_getR (ci := 0) (j := 5) dX10_qubit_56 wf_X10_174 (by decide) (by decide) (zk_37 hL) rfl (zr_37_5 hL) ?_
        refine zt_iload_n dX10_qubit_59 rfl rfl ?_
        refine zt_iaload dX10_qubit_60 (zk_43 hL) (by rw [(zl_43 hL)]; exact h.1) ?_
        replace h := h.2
        exact h.elim
      by_cases c1 : x2 = 1
      · refine zt_tabIn (tgt := 62) dX10_qubit_27 (by rw [c1]; decide) (by rw [c1]; decide) (by rw [c1]; rfl) (by decide) ?_
        replace h := h.2.1 c1
        refine zt_aload_n dX10_qubit_62 rfl rfl ?_
        refine zt_getR (ci := 10) (j := 2) dX10_qubit_63 wf_X10_26 (by decide) (by decide) (zk_0 hL) rfl (zr_0_2 hL) ?_
        refine zt_getR (ci := 0) (j := 0) dX10_qubit_66 wf_X10_113 (by decide) (by decide) (zk_37 hL) rfl rw_37 ?_
        refine zt_iload_n dX10_qubit_69 rfl rfl ?_
        refine zt_iconst (x := 1) dX10_qubit_70 rfl ?_
        refine zt_isub dX10_qubit_71 ?_
        refine zt_iload_n dX10_qubit_72 rfl rfl ?_
        refine zt_callV (M' := mX9_checksOn) (avs := [.int (x2 - 1), .int x1]) (st := []) (ci := 9) dX10_qubit_73 wm_X9_checksOn wl_X10_177 wi_X9_checksOn ws_X9_checksOn (by decide) (zWk0 hL hw_37) rfl rfl (by decide) rfl (Nat.le_of_ble_eq_true rfl) (Nat.le_of_ble_eq_true rfl) ⟨Or.inl (z_k0 (zk_0 hL)), trivial⟩ trivial (z_J.mono h (fun r S1 v1 hq => ?_))
        exact hq.elim (fun _ q => q.2.2.elim)
      by_cases c2 : x2 = 2
      · refine zt_tabIn (tgt := 62) dX10_qubit_27 (by rw [c2]; decide) (by rw [c2]; decide) (by rw [c2]; rfl) (by decide) ?_
        replace h := h.2.2.1 c2
        refine zt_aload_n dX10_qubit_62 rfl rfl ?_
        refine zt_getR (ci := 10) (j := 2) dX10_qubit_63 wf_X10_26 (by decide) (by decide) (zk_0 hL) rfl (zr_0_2 hL) ?_
        refine zt_getR (ci := 0) (j := 0) dX10_qubit_66 wf_X10_113 (by decide) (by decide) (zk_37 hL) rfl rw_37 ?_
        refine zt_iload_n dX10_qubit_69 rfl rfl ?_
        refine zt_iconst (x := 1) dX10_qubit_70 rfl ?_
        refine zt_isub dX10_qubit_71 ?_
        refine zt_iload_n dX10_qubit_72 rfl rfl ?_
        refine zt_callV (M' := mX9_checksOn) (avs := [.int (x2 - 1), .int x1]) (st := []) (ci := 9) dX10_qubit_73 wm_X9_checksOn wl_X10_177 wi_X9_checksOn ws_X9_checksOn (by decide) (zWk0 hL hw_37) rfl rfl (by decide) rfl (Nat.le_of_ble_eq_true rfl) (Nat.le_of_ble_eq_true rfl) ⟨Or.inl (z_k0 (zk_0 hL)), trivial⟩ trivial (z_J.mono h (fun r S1 v2 hq => ?_))
        exact hq.elim (fun _ q => q.2.2.elim)
      refine zt_tabOut (tgt := 77) dX10_qubit_27 (z_out_0_2 c0 c1 c2) (by decide) ?_
      replace h := h.2.2.2 c0 c1 c2
      exact zt_end rfl rfl dX10_qubit_77 dX10_qubit_80 dX10_qubit_81 dX10_qubit_84 h
    · replace h := h.2 c
      exact zt_end rfl rfl dX10_qubit_18 dX10_qubit_21 dX10_qubit_22 dX10_qubit_25 h
theorem st_X10_edge_0 {G : z_G} {d : Nat} {S : z_Shp} {v : z_Dat} {T : z_Shp → z_Dat → Prop} {x1 : Int32} {x2 : Int32} {x3 : Int32} (hL : z_L S)
    (h : ((x1 = 0 ∨ x1 = 1) → (z_J G d mX4_spread (0, [.ref 149, .ref 37, .int x1, .null], [], S, v) (fun r S1 v1 => r = none ∧ S1 = S ∧ ((x2 < 0 → (T S v1)) ∧ (¬ x2 < 0 → ((x2 < (v1 149 2) → ((x3 = 0 → ((vp_in x2 321) ∧ False)) ∧ (x3 = 1 → ((vp_in x2 321) ∧ ((¬ (v1 151 x2.toNatClampNeg) = (v1 149 1) → ((vp_in x2 321) ∧ False)) ∧ ((v1 151 x2.toNatClampNeg) = (v1 149 1) → False)))) ∧ (x3 = 2 → ((vp_in x2 321) ∧ False)) ∧ (¬ x3 = 0 → ¬ x3 = 1 → ¬ x3 = 2 → (T S v1)))) ∧ (¬ x2 < (v1 149 2) → (T S v1)))))))) ∧ (¬ (x1 = 0 ∨ x1 = 1) → (T S v))) :
    z_JP G (d + 1) mX10_edge (0, [.ref 0, .int x1, .int x2, .int x3], [], S, v) (z_TH mX10_edge T) := by
  refine zt_iload_n dX10_edge_0 rfl rfl ?_
  refine zt_callS (M' := mX10_isKind) (avs := [.int x1]) (st := []) dX10_edge_1 wm_X10_isKind wl_X10_181 wt_X10_isKind rfl (by decide) rfl (Nat.le_of_ble_eq_true rfl) (Nat.le_of_ble_eq_true rfl) ⟨Or.inl (z_k0 (zk_0 hL)), trivial⟩ trivial (hp_X10_isKind (fun c => ?_) (fun c => ?_))
  · replace h := h.1 c
    refine zt_if_ne (tgt := 15) dX10_edge_4 (by decide) (fun _ => ?_) (fun q => absurd q (by decide))
    refine zt_aload_n dX10_edge_15 rfl rfl ?_
    refine zt_getR (ci := 10) (j := 8) dX10_edge_16 wf_X10_58 (by decide) (by decide) (zk_0 hL) rfl (zr_0_8 hL) ?_
    refine zt_aload_n dX10_edge_19 rfl rfl ?_
    refine zt_getR (ci := 10) (j := 2) dX10_edge_20 wf_X10_26 (by decide) (by decide) (zk_0 hL) rfl (zr_0_2 hL) ?_
    refine zt_iload_n dX10_edge_23 rfl rfl ?_
    refine zt_callV (M' := mX4_spread) (avs := [.ref 37, .int x1]) (st := []) (ci := 4) dX10_edge_24 wm_X4_spread wl_X10_191 wi_X4_spread ws_X4_spread (by decide) (zk_149 hL) rfl rfl (by decide) rfl (Nat.le_of_ble_eq_true rfl) (Nat.le_of_ble_eq_true rfl) ⟨Or.inl (z_k0 (zk_0 hL)), trivial⟩ trivial (z_J.mono h (fun r S1 v1 hq => ?_))
    obtain ⟨rfl, rfl, h⟩ := hq
    refine zt_iload_n dX10_edge_27 rfl rfl ?_
    refine zt_if_lt (tgt := 42) dX10_edge_28 (by decide) (fun c => ?_) (fun c => ?_)
    · replace h := h.1 c
      exact zt_end rfl rfl dX10_edge_42 dX10_edge_45 dX10_edge_46 dX10_edge_49 h
    · replace h := h.2 c
      refine zt_iload_n dX10_edge_31 rfl rfl ?_
      refine zt_aload_n dX10_edge_32 rfl rfl ?_
      refine zt_getR (ci := 10) (j := 8) dX10_edge_33 wf_X10_58 (by decide) (by decide) (zk_0 hL) rfl (zr_0_8 hL) ?_
      refine zt_getI (ci := 4) (j := 2) dX10_edge_36 wf_X10_267 (by decide) (by decide) (zk_149 hL) rfl ?_
      refine zt_icmp_lt (tgt := 50) dX10_edge_39 (by decide) (fun c => ?_) (fun c => ?_)
      · replace h := h.1 c
        refine zt_iload_n dX10_edge_50 rfl rfl ?_
        by_cases c0 : x3 = 0
        · refine zt_tabIn (tgt := 76) dX10_edge_51 (by rw [c0]; decide) (by rw [c0]; decide) (by rw [c0]; rfl) (by decide) ?_
          replace h := h.1 c0
          refine zt_aload_n dX10_edge_76 rfl rfl ?_
          refine zt_getR (ci := 10) (j := 8) dX10_edge_77 wf_X10_58 (by decide) (by decide) (zk_0 hL) rfl (zr_0_8 hL) ?_
          refine zt_getR (ci := 4) (j := 4) dX10_edge_80 wf_X10_270 (by decide) (by decide) (zk_149 hL) rfl (zr_149_4 hL) ?_
          refine zt_iload_n dX10_edge_83 rfl rfl ?_
          refine zt_iaload dX10_edge_84 (zk_150 hL) (by rw [(zl_150 hL)]; exact h.1) ?_
          replace h := h.2
          exact h.elim
        by_cases c1 : x3 = 1
        · refine zt_tabIn (tgt := 86) dX10_edge_51 (by rw [c1]; decide) (by rw [c1]; decide) (by rw [c1]; rfl) (by decide) ?_
          replace h := h.2.1 c1
          refine zt_aload_n dX10_edge_86 rfl rfl ?_
          refine zt_getR (ci := 10) (j := 8) dX10_edge_87 wf_X10_58 (by decide) (by decide) (zk_0 hL) rfl (zr_0_8 hL) ?_
          refine zt_getR (ci := 4) (j := 5) dX10_edge_90 wf_X10_273 (by decide) (by decide) (zk_149 hL) rfl (zr_149_5 hL) ?_
          refine zt_iload_n dX10_edge_93 rfl rfl ?_
          refine zt_iaload dX10_edge_94 (zk_151 hL) (by rw [(zl_151 hL)]; exact h.1) ?_
          replace h := h.2
          refine zt_aload_n dX10_edge_95 rfl rfl ?_
          refine zt_getR (ci := 10) (j := 8) dX10_edge_96 wf_X10_58 (by decide) (by decide) (zk_0 hL) rfl (zr_0_8 hL) ?_
          refine zt_getI (ci := 4) (j := 1) dX10_edge_99 wf_X10_276 (by decide) (by decide) (zk_149 hL) rfl ?_
          refine zt_icmp_ne (tgt := 109) dX10_edge_102 (by decide) (fun c => ?_) (fun c => ?_)
          · replace h := h.1 c
            refine zt_aload_n dX10_edge_109 rfl rfl ?_
            refine zt_getR (ci := 10) (j := 8) dX10_edge_110 wf_X10_58 (by decide) (by decide) (zk_0 hL) rfl (zr_0_8 hL) ?_
            refine zt_getR (ci := 4) (j := 5) dX10_edge_113 wf_X10_273 (by decide) (by decide) (zk_149 hL) rfl (zr_149_5 hL) ?_
            refine zt_iload_n dX10_edge_116 rfl rfl ?_
            refine zt_iaload dX10_edge_117 (zk_151 hL) (by rw [(zl_151 hL)]; exact h.1) ?_
            replace h := h.2
            exact h.elim
          · replace h := h.2 c
            refine zt_iconst (x := (-1)) dX10_edge_105 rfl ?_
            refine zt_goto (tgt := 118) dX10_edge_106 (by decide) ?_
            exact h.elim
        by_cases c2 : x3 = 2
        · refine zt_tabIn (tgt := 119) dX10_edge_51 (by rw [c2]; decide) (by rw [c2]; decide) (by rw [c2]; rfl) (by decide) ?_
          replace h := h.2.2.1 c2
          refine zt_aload_n dX10_edge_119 rfl rfl ?_
          refine zt_getR (ci := 10) (j := 8) dX10_edge_120 wf_X10_58 (by decide) (by decide) (zk_0 hL) rfl (zr_0_8 hL) ?_
          refine zt_getR (ci := 4) (j := 6) dX10_edge_123 wf_X10_279 (by decide) (by decide) (zk_149 hL) rfl (zr_149_6 hL) ?_
          refine zt_iload_n dX10_edge_126 rfl rfl ?_
          refine zt_iaload dX10_edge_127 (zk_152 hL) (by rw [(zl_152 hL)]; exact h.1) ?_
          replace h := h.2
          exact h.elim
        refine zt_tabOut (tgt := 129) dX10_edge_51 (z_out_0_2 c0 c1 c2) (by decide) ?_
        replace h := h.2.2.2 c0 c1 c2
        exact zt_end rfl rfl dX10_edge_129 dX10_edge_132 dX10_edge_133 dX10_edge_136 h
      · replace h := h.2 c
        exact zt_end rfl rfl dX10_edge_42 dX10_edge_45 dX10_edge_46 dX10_edge_49 h
  · replace h := h.2 c
    refine zt_if_ne (tgt := 15) dX10_edge_4 (by decide) (fun q => absurd (by decide) q) (fun _ => ?_)
    exact zt_end rfl rfl dX10_edge_7 dX10_edge_10 dX10_edge_11 dX10_edge_14 h
