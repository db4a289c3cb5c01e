theorem sg_X11_code_0 {G : z_G} {d : Nat} {S : z_Shp} {v : z_Dat} {Q : Option Value → z_Shp → z_Dat → Prop} {x1 : Int32} (hL : z_L S)
    (h : ∀ v1, v1 = z_u v 223 0 0 → ((x1 = 3 → (z_J G d mX11_begins (0, [.ref 223, .int x1, .null], [], S, v1) (fun r S1 v2 => r = none ∧ S1 = S ∧ (∀ v3, v3 = z_u v2 223 6 0 → (Q (some (.int ((v3 224 0) * (v3 224 0)))) S v3))))) ∧ (¬ x1 = 3 → ((x1 = 5 → (z_J G d mX11_begins (0, [.ref 223, .int x1, .null], [], S, v1) (fun r S1 v4 => r = none ∧ S1 = S ∧ (∀ v5, v5 = z_u v4 223 6 0 → (Q (some (.int ((v5 224 0) * (v5 224 0)))) S v5))))) ∧ (¬ x1 = 5 → (Q (some (.int (-1))) S v1)))))) :
    z_J G (d + 1) mX11_code (0, [.ref 223, .int x1], [], S, v) Q := by
  refine zj_aload_n dX11_code_0 rfl rfl ?_
  refine zj_iconst (x := 0) dX11_code_1 rfl ?_
  refine zj_putI (ci := 11) (j := 0) dX11_code_2 wf_X11_1 (by decide) (by decide) (zk_223 hL) rfl rfl rfl rfl (fun v1 ev1 => ?_)
  replace h := h v1 ev1
  refine zj_iload_n dX11_code_5 rfl rfl ?_
  refine zj_iconst (x := 3) dX11_code_6 rfl ?_
  refine zj_icmp_eq (tgt := 17) dX11_code_7 (by decide) (fun c => ?_) (fun c => ?_)
  · replace h := h.1 c
    refine zj_aload_n dX11_code_17 rfl rfl ?_
    refine zj_iload_n dX11_code_18 rfl rfl ?_
    refine zj_callV (M' := mX11_begins) (avs := [.int x1]) (st := []) (ci := 11) dX11_code_19 wm_X11_begins wl_X11_127 wi_X11_begins ws_X11_begins (by decide) (zk_223 hL) rfl rfl (by decide) rfl (Nat.le_of_ble_eq_true rfl) (Nat.le_of_ble_eq_true rfl) ⟨Or.inl (z_k0 (zk_223 hL)), trivial⟩ trivial (z_J.mono h (fun r S1 v2 hq => ?_))
    obtain ⟨rfl, rfl, h⟩ := hq
    refine zj_aload_n dX11_code_22 rfl rfl ?_
    refine zj_iconst (x := 0) dX11_code_23 rfl ?_
    refine zj_putI (ci := 11) (j := 6) dX11_code_24 wf_X11_180 (by decide) (by decide) (zk_223 hL) rfl rfl rfl rfl (fun v3 ev3 => ?_)
    replace h := h v3 ev3
    refine zj_aload_n dX11_code_27 rfl rfl ?_
    refine zj_callV (M' := mX11_qubits) (avs := []) (st := []) (ci := 11) dX11_code_28 wm_X11_qubits wl_X11_148 wi_X11_qubits ws_X11_qubits (by decide) (zk_223 hL) rfl rfl (by decide) rfl (Nat.le_of_ble_eq_true rfl) (Nat.le_of_ble_eq_true rfl) ⟨Or.inl (z_k0 (zk_223 hL)), trivial⟩ trivial (hp_X11_qubits hL ?_)
    exact zj_iret dX11_code_31 rfl rfl h
  · replace h := h.2 c
    refine zj_iload_n dX11_code_10 rfl rfl ?_
    refine zj_iconst (x := 5) dX11_code_11 rfl ?_
    refine zj_icmp_eq (tgt := 17) dX11_code_12 (by decide) (fun c => ?_) (fun c => ?_)
    · replace h := h.1 c
      refine zj_aload_n dX11_code_17 rfl rfl ?_
      refine zj_iload_n dX11_code_18 rfl rfl ?_
      refine zj_callV (M' := mX11_begins) (avs := [.int x1]) (st := []) (ci := 11) dX11_code_19 wm_X11_begins wl_X11_127 wi_X11_begins ws_X11_begins (by decide) (zk_223 hL) rfl rfl (by decide) rfl (Nat.le_of_ble_eq_true rfl) (Nat.le_of_ble_eq_true rfl) ⟨Or.inl (z_k0 (zk_223 hL)), trivial⟩ trivial (z_J.mono h (fun r S1 v4 hq => ?_))
      obtain ⟨rfl, rfl, h⟩ := hq
      refine zj_aload_n dX11_code_22 rfl rfl ?_
      refine zj_iconst (x := 0) dX11_code_23 rfl ?_
      refine zj_putI (ci := 11) (j := 6) dX11_code_24 wf_X11_180 (by decide) (by decide) (zk_223 hL) rfl rfl rfl rfl (fun v5 ev5 => ?_)
      replace h := h v5 ev5
      refine zj_aload_n dX11_code_27 rfl rfl ?_
      refine zj_callV (M' := mX11_qubits) (avs := []) (st := []) (ci := 11) dX11_code_28 wm_X11_qubits wl_X11_148 wi_X11_qubits ws_X11_qubits (by decide) (zk_223 hL) rfl rfl (by decide) rfl (Nat.le_of_ble_eq_true rfl) (Nat.le_of_ble_eq_true rfl) ⟨Or.inl (z_k0 (zk_223 hL)), trivial⟩ trivial (hp_X11_qubits hL ?_)
      exact zj_iret dX11_code_31 rfl rfl h
    · replace h := h.2 c
      refine zj_iconst (x := (-1)) dX11_code_15 rfl ?_
      exact zj_iret dX11_code_16 rfl rfl h
theorem sg_X11_copies_0 {G : z_G} {d : Nat} {S : z_Shp} {v : z_Dat} {Q : Option Value → z_Shp → z_Dat → Prop} {x1 : Nat} {x2 : Int32} {x3 : Nat} {x4 : Int32} (hx1 : z_k S x1 = 21) (hx3 : z_k S x3 = 21)
    (h : z_J G d mX11_copies (3, [.ref 223, .ref x1, .int x2, .ref x3, .int x4, .int 0], [], S, v) Q) :
    z_J G d mX11_copies (0, [.ref 223, .ref x1, .int x2, .ref x3, .int x4, .null], [], S, v) Q := by
  refine zj_iconst (x := 0) dX11_copies_0 rfl ?_
  refine zj_istore (ls2 := [.ref 223, .ref x1, .int x2, .ref x3, .int x4, .int 0]) dX11_copies_1 (by decide) rfl rfl ?_
  exact h
theorem sg_X11_copies_3 {G : z_G} {d : Nat} {S : z_Shp} {v : z_Dat} {Q : Option Value → z_Shp → z_Dat → Prop} {x2 : Int32} {x4 : Int32} {x5 : Int32} {x1 : Nat} {x3 : Nat} (hx1 : z_k S x1 = 21) (hx3 : z_k S x3 = 21)
    (h : (71 ≤ x5 → (Q none S v)) ∧ (¬ 71 ≤ x5 → ((vp_in (x2 + x5) (z_l S x1)) ∧ (vp_in (x4 + x5) (z_l S x3) ∧ (∀ v1, v1 = z_u v x3 (x4 + x5).toNatClampNeg (v x1 (x2 + x5).toNatClampNeg) → (z_J G d mX11_copies (3, [.ref 223, .ref x1, .int x2, .ref x3, .int x4, .int (x5 + 1)], [], S, v1) Q)))))) :
    z_J G d mX11_copies (3, [.ref 223, .ref x1, .int x2, .ref x3, .int x4, .int x5], [], S, v) Q := by
  refine zj_iload dX11_copies_3 rfl ?_
  refine zj_bipush (x := 71) dX11_copies_5 rfl ?_
  refine zj_icmp_ge (tgt := 29) dX11_copies_7 (by decide) (fun c => ?_) (fun c => ?_)
  · replace h := h.1 c
    exact zj_vret dX11_copies_29 rfl h
  · replace h := h.2 c
    refine zj_aload_n dX11_copies_10 rfl rfl ?_
    refine zj_iload dX11_copies_11 rfl ?_
    refine zj_iload dX11_copies_13 rfl ?_
    refine zj_iadd dX11_copies_15 ?_
    refine zj_aload_n dX11_copies_16 rfl rfl ?_
    refine zj_iload_n dX11_copies_17 rfl rfl ?_
    refine zj_iload dX11_copies_18 rfl ?_
    refine zj_iadd dX11_copies_20 ?_
    refine zj_iaload dX11_copies_21 hx1 h.1 ?_
    replace h := h.2
    refine zj_iastore dX11_copies_22 hx3 h.1 (fun v1 ev1 => ?_)
    replace h := h.2 v1 ev1
    refine zj_iinc (y := x5 + 1) (ls2 := [.ref 223, .ref x1, .int x2, .ref x3, .int x4, .int (x5 + 1)]) dX11_copies_23 rfl rfl (by decide) rfl rfl ?_
    refine zj_goto (tgt := 3) dX11_copies_26 (by decide) ?_
    exact h
theorem sg_X11_correct_0 {G : z_G} {d : Nat} {S : z_Shp} {v : z_Dat} {Q : Option Value → z_Shp → z_Dat → Prop} {x1 : Int32} {x2 : Int32} (hL : z_L S)
    (h : ∀ v1, v1 = z_u v 223 0 0 → (z_J G d mX11_corrects (0, [.ref 223, .int x1, .int x2], [], S, v1) (fun r S1 v2 => ∃ y1 : Int32, r = some (.int y1) ∧ S1 = S ∧ ((¬ y1 = 0 → (z_J G d mX11_keeps (0, [.ref 223, .null], [], S, v2) (fun r S1 v3 => r = none ∧ S1 = S ∧ ((vp_in ((2 : Int32) + x1) 71) ∧ (vp_in ((2 : Int32) + x1) 71 ∧ (∀ v4, v4 = z_u v3 224 ((2 : Int32) + x1).toNatClampNeg ((v3 224 ((2 : Int32) + x1).toNatClampNeg) ^^^ (v3 223 62)) → (Q (some (.int (z_pc (v4 223 62)))) S v4))))))) ∧ (y1 = 0 → (Q (some (.int (-1))) S v2)))))) :
    z_J G (d + 1) mX11_correct (0, [.ref 223, .int x1, .int x2], [], S, v) Q := by
  refine zj_aload_n dX11_correct_0 rfl rfl ?_
  refine zj_iconst (x := 0) dX11_correct_1 rfl ?_
  refine zj_putI (ci := 11) (j := 0) dX11_correct_2 wf_X11_1 (by decide) (by decide) (zk_223 hL) rfl rfl rfl rfl (fun v1 ev1 => ?_)
  replace h := h v1 ev1
  refine zj_aload_n dX11_correct_5 rfl rfl ?_
  refine zj_iload_n dX11_correct_6 rfl rfl ?_
  refine zj_iload_n dX11_correct_7 rfl rfl ?_
  refine zj_callV (M' := mX11_corrects) (avs := [.int x1, .int x2]) (st := []) (ci := 11) dX11_correct_8 wm_X11_corrects wl_X11_391 wi_X11_corrects ws_X11_corrects (by decide) (zk_223 hL) rfl rfl (by decide) rfl (Nat.le_of_ble_eq_true rfl) (Nat.le_of_ble_eq_true rfl) ⟨Or.inl (z_k0 (zk_223 hL)), trivial⟩ trivial (z_J.mono h (fun r S1 v2 hq => ?_))
  obtain ⟨y1, rfl, rfl, h⟩ := hq
  refine zj_if_ne (tgt := 16) dX11_correct_11 (by decide) (fun c => ?_) (fun c => ?_)
  · replace h := h.1 c
    refine zj_aload_n dX11_correct_16 rfl rfl ?_
    refine zj_callV (M' := mX11_keeps) (avs := []) (st := []) (ci := 11) dX11_correct_17 wm_X11_keeps wl_X11_242 wi_X11_keeps ws_X11_keeps (by decide) (zk_223 hL) rfl rfl (by decide) rfl (Nat.le_of_ble_eq_true rfl) (Nat.le_of_ble_eq_true rfl) ⟨Or.inl (z_k0 (zk_223 hL)), trivial⟩ trivial (z_J.mono h (fun r S1 v3 hq => ?_))
    obtain ⟨rfl, rfl, h⟩ := hq
    refine zj_aload_n dX11_correct_20 rfl rfl ?_
    refine zj_getR (ci := 11) (j := 1) dX11_correct_21 wf_X11_13 (by decide) (by decide) (zk_223 hL) rfl (zr_223_1 hL) ?_
    refine zj_iconst (x := 2) dX11_correct_24 rfl ?_
    refine zj_iload_n dX11_correct_25 rfl rfl ?_
    refine zj_iadd dX11_correct_26 ?_
    refine zj_dup2 dX11_correct_27 rfl rfl ?_
    refine zj_iaload dX11_correct_28 (zk_224 hL) (by rw [(zl_224 hL)]; exact h.1) ?_
    replace h := h.2
    refine zj_aload_n dX11_correct_29 rfl rfl ?_
    refine zj_getI (ci := 11) (j := 62) dX11_correct_30 wf_X11_388 (by decide) (by decide) (zk_223 hL) rfl ?_
    refine zj_ixor dX11_correct_33 ?_
    refine zj_iastore dX11_correct_34 (zk_224 hL) (by rw [(zl_224 hL)]; exact h.1) (fun v4 ev4 => ?_)
    replace h := h.2 v4 ev4
    refine zj_aload_n dX11_correct_35 rfl rfl ?_
    refine zj_getI (ci := 11) (j := 62) dX11_correct_36 wf_X11_388 (by decide) (by decide) (zk_223 hL) rfl ?_
    refine zj_callS (M' := mX11_bits) (avs := [.int (v4 223 62)]) (st := []) dX11_correct_39 wm_X11_bits wl_X11_169 wt_X11_bits rfl (by decide) rfl (Nat.le_of_ble_eq_true rfl) (Nat.le_of_ble_eq_true rfl) ⟨Or.inl (z_k0 (zk_223 hL)), trivial⟩ trivial (hp_X11_bits ?_)
    exact zj_iret dX11_correct_42 rfl rfl h
  · replace h := h.2 c
    refine zj_iconst (x := (-1)) dX11_correct_14 rfl ?_
    exact zj_iret dX11_correct_15 rfl rfl h
theorem sg_X11_correction_0 {G : z_G} {d : Nat} {S : z_Shp} {v : z_Dat} {Q : Option Value → z_Shp → z_Dat → Prop} {x1 : Int32} {x2 : Int32} (hL : z_L S)
    (h : ∀ v1, v1 = z_u v 223 0 0 → (z_J G d mX11_corrects (0, [.ref 223, .int x1, .int x2], [], S, v1) (fun r S1 v2 => ∃ y1 : Int32, r = some (.int y1) ∧ S1 = S ∧ ((y1 = 0 → (Q (some (.int (-1))) S v2)) ∧ (¬ y1 = 0 → (Q (some (.int (v2 223 62))) S v2)))))) :
    z_J G (d + 1) mX11_correction (0, [.ref 223, .int x1, .int x2], [], S, v) Q := by
  refine zj_aload_n dX11_correction_0 rfl rfl ?_
  refine zj_iconst (x := 0) dX11_correction_1 rfl ?_
  refine zj_putI (ci := 11) (j := 0) dX11_correction_2 wf_X11_1 (by decide) (by decide) (zk_223 hL) rfl rfl rfl rfl (fun v1 ev1 => ?_)
  replace h := h v1 ev1
  refine zj_aload_n dX11_correction_5 rfl rfl ?_
  refine zj_iload_n dX11_correction_6 rfl rfl ?_
  refine zj_iload_n dX11_correction_7 rfl rfl ?_
  refine zj_callV (M' := mX11_corrects) (avs := [.int x1, .int x2]) (st := []) (ci := 11) dX11_correction_8 wm_X11_corrects wl_X11_391 wi_X11_corrects ws_X11_corrects (by decide) (zk_223 hL) rfl rfl (by decide) rfl (Nat.le_of_ble_eq_true rfl) (Nat.le_of_ble_eq_true rfl) ⟨Or.inl (z_k0 (zk_223 hL)), trivial⟩ trivial (z_J.mono h (fun r S1 v2 hq => ?_))
  obtain ⟨y1, rfl, rfl, h⟩ := hq
  refine zj_if_eq (tgt := 21) dX11_correction_11 (by decide) (fun c => ?_) (fun c => ?_)
  · replace h := h.1 c
    refine zj_iconst (x := (-1)) dX11_correction_21 rfl ?_
    exact zj_iret dX11_correction_22 rfl rfl h
  · replace h := h.2 c
    refine zj_aload_n dX11_correction_14 rfl rfl ?_
    refine zj_getI (ci := 11) (j := 62) dX11_correction_15 wf_X11_388 (by decide) (by decide) (zk_223 hL) rfl ?_
    refine zj_goto (tgt := 22) dX11_correction_18 (by decide) ?_
    exact zj_iret dX11_correction_22 rfl rfl h
theorem sg_X11_corrects_0 {G : z_G} {d : Nat} {S : z_Shp} {v : z_Dat} {Q : Option Value → z_Shp → z_Dat → Prop} {x1 : Int32} {x2 : Int32} (hL : z_L S)
    (h : ((x1 = 0 ∨ x1 = 1) → (((0 ≤ x2 ∧ x2 ≤ 2) → ((¬ x2 = 2 → (z_J G d mX11_lays_ (0, [.ref 223, .int x1, .int x2, .null], [], S, v) (fun r S1 v1 => ∃ y1 : Int32, r = some (.int y1) ∧ S1 = S ∧ ((¬ y1 = 0 → (z_J G d mX11_gone (0, [.ref 223, .int 1, .int 0, .null, .null, .null, .null], [], S, v1) (fun r S1 v2 => ∃ y2 : Int32, r = some (.int y2) ∧ S1 = S ∧ (∀ v3, v3 = z_u v2 223 62 y2 → (Q (some (.int 1)) S v3))))) ∧ (y1 = 0 → (Q (some (.int 0)) S v1)))))) ∧ (x2 = 2 → ((vp_in ((2 : Int32) + x1) 71) ∧ (z_J G d mX11_likes (0, [.ref 223, .int x1, .int (v 224 ((2 : Int32) + x1).toNatClampNeg), .int 1, .null, .null, .null], [], S, v) (fun r S1 v4 => r = none ∧ S1 = S ∧ (∀ v5, v5 = z_u v4 223 62 (v4 223 60) → (Q (some (.int 1)) S v5)))))))) ∧ (¬ (0 ≤ x2 ∧ x2 ≤ 2) → (Q (some (.int 0)) S v)))) ∧ (¬ (x1 = 0 ∨ x1 = 1) → (Q (some (.int 0)) S v))) :
    z_J G (d + 1) mX11_corrects (0, [.ref 223, .int x1, .int x2], [], S, v) Q := by
  refine zj_iload_n dX11_corrects_0 rfl rfl ?_
  refine zj_callS (M' := mX11_isKind) (avs := [.int x1]) (st := []) dX11_corrects_1 wm_X11_isKind wl_X11_165 wt_X11_isKind rfl (by decide) rfl (Nat.le_of_ble_eq_true rfl) (Nat.le_of_ble_eq_true rfl) ⟨Or.inl (z_k0 (zk_223 hL)), trivial⟩ trivial (hp_X11_isKind (fun c => ?_) (fun c => ?_))
  · replace h := h.1 c
    refine zj_if_eq (tgt := 16) dX11_corrects_4 (by decide) (fun q => absurd q (by decide)) (fun _ => ?_)
    refine zj_iload_n dX11_corrects_7 rfl rfl ?_
    refine zj_iconst (x := 0) dX11_corrects_8 rfl ?_
    refine zj_iconst (x := 2) dX11_corrects_9 rfl ?_
    refine zj_callS (M' := mX11_isIn) (avs := [.int x2, .int 0, .int 2]) (st := []) dX11_corrects_10 wm_X11_isIn wl_X11_144 wt_X11_isIn rfl (by decide) rfl (Nat.le_of_ble_eq_true rfl) (Nat.le_of_ble_eq_true rfl) ⟨Or.inl (z_k0 (zk_223 hL)), trivial⟩ trivial (hp_X11_isIn (fun c => ?_) (fun c => ?_))
    · replace h := h.1 c
      refine zj_if_ne (tgt := 18) dX11_corrects_13 (by decide) (fun _ => ?_) (fun q => absurd q (by decide))
      refine zj_iload_n dX11_corrects_18 rfl rfl ?_
      refine zj_iconst (x := 2) dX11_corrects_19 rfl ?_
      refine zj_icmp_ne (tgt := 47) dX11_corrects_20 (by decide) (fun c => ?_) (fun c => ?_)
      · replace h := h.1 c
        refine zj_aload_n dX11_corrects_47 rfl rfl ?_
        refine zj_iload_n dX11_corrects_48 rfl rfl ?_
        refine zj_iload_n dX11_corrects_49 rfl rfl ?_
        refine zj_callV (M' := mX11_lays_) (avs := [.int x1, .int x2]) (st := []) (ci := 11) dX11_corrects_50 wm_X11_lays_ wl_X11_349 wi_X11_lays_ ws_X11_lays_ (by decide) (zk_223 hL) rfl rfl (by decide) rfl (Nat.le_of_ble_eq_true rfl) (Nat.le_of_ble_eq_true rfl) ⟨Or.inl (z_k0 (zk_223 hL)), trivial⟩ trivial (z_J.mono h (fun r S1 v1 hq => ?_))
        obtain ⟨y1, rfl, rfl, h⟩ := hq
        refine zj_if_ne (tgt := 58) dX11_corrects_53 (by decide) (fun c => ?_) (fun c => ?_)
        · replace h := h.1 c
          refine zj_aload_n dX11_corrects_58 rfl rfl ?_
          refine zj_aload_n dX11_corrects_59 rfl rfl ?_
          refine zj_iconst (x := 1) dX11_corrects_60 rfl ?_
          refine zj_iconst (x := 0) dX11_corrects_61 rfl ?_
          refine zj_callV (M' := mX11_gone) (avs := [.int 1, .int 0]) (st := [.ref 223]) (ci := 11) dX11_corrects_62 wm_X11_gone wl_X11_351 wi_X11_gone ws_X11_gone (by decide) (zk_223 hL) rfl rfl (by decide) rfl (Nat.le_of_ble_eq_true rfl) (Nat.le_of_ble_eq_true rfl) ⟨Or.inl (z_k0 (zk_223 hL)), trivial⟩ ⟨Or.inl (z_k0 (zk_223 hL)), trivial⟩ (z_J.mono h (fun r S1 v2 hq => ?_))
          obtain ⟨y2, rfl, rfl, h⟩ := hq
          refine zj_putI (ci := 11) (j := 62) dX11_corrects_65 wf_X11_388 (by decide) (by decide) (zk_223 hL) rfl rfl rfl rfl (fun v3 ev3 => ?_)
          replace h := h v3 ev3
          refine zj_iconst (x := 1) dX11_corrects_68 rfl ?_
          exact zj_iret dX11_corrects_69 rfl (by decide) h
        · replace h := h.2 c
          refine zj_iconst (x := 0) dX11_corrects_56 rfl ?_
          exact zj_iret dX11_corrects_57 rfl (by decide) h
      · replace h := h.2 c
        refine zj_aload_n dX11_corrects_23 rfl rfl ?_
        refine zj_iload_n dX11_corrects_24 rfl rfl ?_
        refine zj_aload_n dX11_corrects_25 rfl rfl ?_
        refine zj_getR (ci := 11) (j := 1) dX11_corrects_26 wf_X11_13 (by decide) (by decide) (zk_223 hL) rfl (zr_223_1 hL) ?_
        refine zj_iconst (x := 2) dX11_corrects_29 rfl ?_
        refine zj_iload_n dX11_corrects_30 rfl rfl ?_
        refine zj_iadd dX11_corrects_31 ?_
        refine zj_iaload dX11_corrects_32 (zk_224 hL) (by rw [(zl_224 hL)]; exact h.1) ?_
        replace h := h.2
        refine zj_iconst (x := 1) dX11_corrects_33 rfl ?_
        refine zj_callV (M' := mX11_likes) (avs := [.int x1, .int (v 224 ((2 : Int32) + x1).toNatClampNeg), .int 1]) (st := []) (ci := 11) dX11_corrects_34 wm_X11_likes wl_X11_376 wi_X11_likes ws_X11_likes (by decide) (zk_223 hL) rfl rfl (by decide) rfl (Nat.le_of_ble_eq_true rfl) (Nat.le_of_ble_eq_true rfl) ⟨Or.inl (z_k0 (zk_223 hL)), trivial⟩ trivial (z_J.mono h (fun r S1 v4 hq => ?_))
        obtain ⟨rfl, rfl, h⟩ := hq
        refine zj_aload_n dX11_corrects_37 rfl rfl ?_
        refine zj_aload_n dX11_corrects_38 rfl rfl ?_
        refine zj_getI (ci := 11) (j := 60) dX11_corrects_39 wf_X11_358 (by decide) (by decide) (zk_223 hL) rfl ?_
        refine zj_putI (ci := 11) (j := 62) dX11_corrects_42 wf_X11_388 (by decide) (by decide) (zk_223 hL) rfl rfl rfl rfl (fun v5 ev5 => ?_)
        replace h := h v5 ev5
        refine zj_iconst (x := 1) dX11_corrects_45 rfl ?_
        exact zj_iret dX11_corrects_46 rfl (by decide) h
    · replace h := h.2 c
      refine zj_if_ne (tgt := 18) dX11_corrects_13 (by decide) (fun q => absurd (by decide) q) (fun _ => ?_)
      refine zj_iconst (x := 0) dX11_corrects_16 rfl ?_
      exact zj_iret dX11_corrects_17 rfl (by decide) h
  · replace h := h.2 c
    refine zj_if_eq (tgt := 16) dX11_corrects_4 (by decide) (fun _ => ?_) (fun q => absurd (by decide) q)
    refine zj_iconst (x := 0) dX11_corrects_16 rfl ?_
    exact zj_iret dX11_corrects_17 rfl (by decide) h
theorem sg_X11_costOf_0 {G : z_G} {d : Nat} {S : z_Shp} {v : z_Dat} {Q : Option Value → z_Shp → z_Dat → Prop} {x1 : Int32} {x2 : Int32} {x3 : Int32} (hL : z_L S)
    (h : (vp_in ((((15 : Int32) * x2) + x3) + 1) 225) ∧ ((0 ≤ x3 → ((vp_in ((x1 &&& (((1 : Int32) <<< (x2 &&& 31)) ^^^ (-1))) &&& (((1 : Int32) <<< (x3 &&& 31)) ^^^ (-1))) 16384) ∧ (Q (some (.int ((v 246 ((((15 : Int32) * x2) + x3) + 1).toNatClampNeg) + (v 244 ((x1 &&& (((1 : Int32) <<< (x2 &&& 31)) ^^^ (-1))) &&& (((1 : Int32) <<< (x3 &&& 31)) ^^^ (-1))).toNatClampNeg)))) S v))) ∧ (¬ 0 ≤ x3 → ((vp_in ((x1 &&& (((1 : Int32) <<< (x2 &&& 31)) ^^^ (-1))) &&& ((0 : Int32) ^^^ (-1))) 16384) ∧ (Q (some (.int ((v 246 ((((15 : Int32) * x2) + x3) + 1).toNatClampNeg) + (v 244 ((x1 &&& (((1 : Int32) <<< (x2 &&& 31)) ^^^ (-1))) &&& ((0 : Int32) ^^^ (-1))).toNatClampNeg)))) S v))))) :
    z_J G d mX11_costOf (0, [.ref 223, .int x1, .int x2, .int x3], [], S, v) Q := by
  refine zj_aload_n dX11_costOf_0 rfl rfl ?_
  refine zj_getR (ci := 11) (j := 39) dX11_costOf_1 wf_X11_82 (by decide) (by decide) (zk_223 hL) rfl (zr_223_39 hL) ?_
  refine zj_bipush (x := 15) dX11_costOf_4 rfl ?_
  refine zj_iload_n dX11_costOf_6 rfl rfl ?_
  refine zj_imul dX11_costOf_7 ?_
  refine zj_iload_n dX11_costOf_8 rfl rfl ?_
  refine zj_iadd dX11_costOf_9 ?_
  refine zj_iconst (x := 1) dX11_costOf_10 rfl ?_
  refine zj_iadd dX11_costOf_11 ?_
  refine zj_iaload dX11_costOf_12 (zk_246 hL) (by rw [(zl_246 hL)]; exact h.1) ?_
  replace h := h.2
  refine zj_aload_n dX11_costOf_13 rfl rfl ?_
  refine zj_getR (ci := 11) (j := 37) dX11_costOf_14 wf_X11_76 (by decide) (by decide) (zk_223 hL) rfl (zr_223_37 hL) ?_
  refine zj_iload_n dX11_costOf_17 rfl rfl ?_
  refine zj_iconst (x := 1) dX11_costOf_18 rfl ?_
  refine zj_iload_n dX11_costOf_19 rfl rfl ?_
  refine zj_ishl dX11_costOf_20 ?_
  refine zj_iconst (x := (-1)) dX11_costOf_21 rfl ?_
  refine zj_ixor dX11_costOf_22 ?_
  refine zj_iand dX11_costOf_23 ?_
  refine zj_iload_n dX11_costOf_24 rfl rfl ?_
  refine zj_if_ge (tgt := 32) dX11_costOf_25 (by decide) (fun c => ?_) (fun c => ?_)
  · replace h := h.1 c
    refine zj_iconst (x := 1) dX11_costOf_32 rfl ?_
    refine zj_iload_n dX11_costOf_33 rfl rfl ?_
    refine zj_ishl dX11_costOf_34 ?_
    refine zj_iconst (x := (-1)) dX11_costOf_35 rfl ?_
    refine zj_ixor dX11_costOf_36 ?_
    refine zj_iand dX11_costOf_37 ?_
    refine zj_iaload dX11_costOf_38 (zk_244 hL) (by rw [(zl_244 hL)]; exact h.1) ?_
    replace h := h.2
    refine zj_iadd dX11_costOf_39 ?_
    exact zj_iret dX11_costOf_40 rfl rfl h
  · replace h := h.2 c
    refine zj_iconst (x := 0) dX11_costOf_28 rfl ?_
    refine zj_goto (tgt := 35) dX11_costOf_29 (by decide) ?_
    refine zj_iconst (x := (-1)) dX11_costOf_35 rfl ?_
    refine zj_ixor dX11_costOf_36 ?_
    refine zj_iand dX11_costOf_37 ?_
    refine zj_iaload dX11_costOf_38 (zk_244 hL) (by rw [(zl_244 hL)]; exact h.1) ?_
    replace h := h.2
    refine zj_iadd dX11_costOf_39 ?_
    exact zj_iret dX11_costOf_40 rfl rfl h
theorem sg_X11_counts_0 {G : z_G} {d : Nat} {S : z_Shp} {v : z_Dat} {Q : Option Value → z_Shp → z_Dat → Prop}
    (h : z_J G d mX11_counts (2, [.ref 223, .int 0, .null], [], S, v) Q) :
    z_J G d mX11_counts (0, [.ref 223, .null, .null], [], S, v) Q := by
  refine zj_iconst (x := 0) dX11_counts_0 rfl ?_
  refine zj_istore_n (ls2 := [.ref 223, .int 0, .null]) dX11_counts_1 rfl (by decide) rfl rfl ?_
  exact h
theorem sg_X11_counts_2 {G : z_G} {d : Nat} {S : z_Shp} {v : z_Dat} {Q : Option Value → z_Shp → z_Dat → Prop} {x1 : Int32} (hL : z_L S)
    (h : ((v 223 32) < x1 → (z_J G d mX11_counts (25, [.ref 223, .int 0, .null], [], S, v) Q)) ∧ (¬ (v 223 32) < x1 → (vp_in x1 109 ∧ (∀ v1, v1 = z_u v 251 x1.toNatClampNeg 0 → (z_J G d mX11_counts (2, [.ref 223, .int (x1 + 1), .null], [], S, v1) Q))))) :
    z_J G d mX11_counts (2, [.ref 223, .int x1, .null], [], S, v) Q := by
  refine zj_iload_n dX11_counts_2 rfl rfl ?_
  refine zj_aload_n dX11_counts_3 rfl rfl ?_
  refine zj_getI (ci := 11) (j := 32) dX11_counts_4 wf_X11_254 (by decide) (by decide) (zk_223 hL) rfl ?_
  refine zj_icmp_gt (tgt := 23) dX11_counts_7 (by decide) (fun c => ?_) (fun c => ?_)
  · replace h := h.1 c
    refine zj_iconst (x := 0) dX11_counts_23 rfl ?_
    refine zj_istore_n (ls2 := [.ref 223, .int 0, .null]) dX11_counts_24 rfl (by decide) rfl rfl ?_
    exact h
  · replace h := h.2 c
    refine zj_aload_n dX11_counts_10 rfl rfl ?_
    refine zj_getR (ci := 11) (j := 45) dX11_counts_11 wf_X11_97 (by decide) (by decide) (zk_223 hL) rfl (zr_223_45 hL) ?_
    refine zj_iload_n dX11_counts_14 rfl rfl ?_
    refine zj_iconst (x := 0) dX11_counts_15 rfl ?_
    refine zj_iastore dX11_counts_16 (zk_251 hL) (by rw [(zl_251 hL)]; exact h.1) (fun v1 ev1 => ?_)
    replace h := h.2 v1 ev1
    refine zj_iinc (y := x1 + 1) (ls2 := [.ref 223, .int (x1 + 1), .null]) dX11_counts_17 rfl rfl (by decide) rfl rfl ?_
    refine zj_goto (tgt := 2) dX11_counts_20 (by decide) ?_
    exact h
theorem sg_X11_counts_25 {G : z_G} {d : Nat} {S : z_Shp} {v : z_Dat} {Q : Option Value → z_Shp → z_Dat → Prop} {x1 : Int32} (hL : z_L S)
    (h : ((v 223 33) ≤ x1 → (z_J G d mX11_leaderOf (0, [.ref 223, .int (v 223 32), .null], [], S, v) (fun r S1 v1 => ∃ y1 : Int32, r = some (.int y1) ∧ S1 = S ∧ (vp_in y1 109 ∧ (∀ v2, v2 = z_u v1 251 y1.toNatClampNeg 0 → (z_J G (d + 1) mX11_counts (76, [.ref 223, .int 0, .int 0], [], S, v2) Q)))))) ∧ (¬ (v 223 33) ≤ x1 → ((vp_in x1 108) ∧ (z_J G d mX11_leaderOf (0, [.ref 223, .int (v 242 x1.toNatClampNeg), .null], [], S, v) (fun r S1 v3 => ∃ y2 : Int32, r = some (.int y2) ∧ S1 = S ∧ ((vp_in y2 109) ∧ (vp_in y2 109 ∧ (∀ v4, v4 = z_u v3 251 y2.toNatClampNeg ((v3 251 y2.toNatClampNeg) ^^^ 1) → (z_J G (d + 1) mX11_counts (25, [.ref 223, .int (x1 + 1), .null], [], S, v4) Q))))))))) :
    z_J G (d + 1) mX11_counts (25, [.ref 223, .int x1, .null], [], S, v) Q := by
  refine zj_iload_n dX11_counts_25 rfl rfl ?_
  refine zj_aload_n dX11_counts_26 rfl rfl ?_
  refine zj_getI (ci := 11) (j := 33) dX11_counts_27 wf_X11_257 (by decide) (by decide) (zk_223 hL) rfl ?_
  refine zj_icmp_ge (tgt := 58) dX11_counts_30 (by decide) (fun c => ?_) (fun c => ?_)
  · replace h := h.1 c
    refine zj_aload_n dX11_counts_58 rfl rfl ?_
    refine zj_getR (ci := 11) (j := 45) dX11_counts_59 wf_X11_97 (by decide) (by decide) (zk_223 hL) rfl (zr_223_45 hL) ?_
    refine zj_aload_n dX11_counts_62 rfl rfl ?_
    refine zj_aload_n dX11_counts_63 rfl rfl ?_
    refine zj_getI (ci := 11) (j := 32) dX11_counts_64 wf_X11_254 (by decide) (by decide) (zk_223 hL) rfl ?_
    refine zj_callV (M' := mX11_leaderOf) (avs := [.int (v 223 32)]) (st := [.ref 251]) (ci := 11) dX11_counts_67 wm_X11_leaderOf wl_X11_308 wi_X11_leaderOf ws_X11_leaderOf (by decide) (zk_223 hL) rfl rfl (by decide) rfl (Nat.le_of_ble_eq_true rfl) (Nat.le_of_ble_eq_true rfl) ⟨Or.inl (z_k0 (zk_223 hL)), trivial⟩ ⟨Or.inl (z_k0 (zk_251 hL)), trivial⟩ (z_J.mono h (fun r S1 v1 hq => ?_))
    obtain ⟨y1, rfl, rfl, h⟩ := hq
    refine zj_iconst (x := 0) dX11_counts_70 rfl ?_
    refine zj_iastore dX11_counts_71 (zk_251 hL) (by rw [(zl_251 hL)]; exact h.1) (fun v2 ev2 => ?_)
    replace h := h.2 v2 ev2
    refine zj_iconst (x := 0) dX11_counts_72 rfl ?_
    refine zj_istore_n (ls2 := [.ref 223, .int 0, .null]) dX11_counts_73 rfl (by decide) rfl rfl ?_
    refine zj_iconst (x := 0) dX11_counts_74 rfl ?_
    refine zj_istore_n (ls2 := [.ref 223, .int 0, .int 0]) dX11_counts_75 rfl (by decide) rfl rfl ?_
    exact h
  · replace h := h.2 c
    refine zj_aload_n dX11_counts_33 rfl rfl ?_
    refine zj_getR (ci := 11) (j := 45) dX11_counts_34 wf_X11_97 (by decide) (by decide) (zk_223 hL) rfl (zr_223_45 hL) ?_
    refine zj_aload_n dX11_counts_37 rfl rfl ?_
    refine zj_aload_n dX11_counts_38 rfl rfl ?_
    refine zj_getR (ci := 11) (j := 30) dX11_counts_39 wf_X11_70 (by decide) (by decide) (zk_223 hL) rfl (zr_223_30 hL) ?_
    refine zj_iload_n dX11_counts_42 rfl rfl ?_
    refine zj_iaload dX11_counts_43 (zk_242 hL) (by rw [(zl_242 hL)]; exact h.1) ?_
    replace h := h.2
    refine zj_callV (M' := mX11_leaderOf) (avs := [.int (v 242 x1.toNatClampNeg)]) (st := [.ref 251]) (ci := 11) dX11_counts_44 wm_X11_leaderOf wl_X11_308 wi_X11_leaderOf ws_X11_leaderOf (by decide) (zk_223 hL) rfl rfl (by decide) rfl (Nat.le_of_ble_eq_true rfl) (Nat.le_of_ble_eq_true rfl) ⟨Or.inl (z_k0 (zk_223 hL)), trivial⟩ ⟨Or.inl (z_k0 (zk_251 hL)), trivial⟩ (z_J.mono h (fun r S1 v3 hq => ?_))
    obtain ⟨y2, rfl, rfl, h⟩ := hq
    refine zj_dup2 dX11_counts_47 rfl rfl ?_
    refine zj_iaload dX11_counts_48 (zk_251 hL) (by rw [(zl_251 hL)]; exact h.1) ?_
    replace h := h.2
    refine zj_iconst (x := 1) dX11_counts_49 rfl ?_
    refine zj_ixor dX11_counts_50 ?_
    refine zj_iastore dX11_counts_51 (zk_251 hL) (by rw [(zl_251 hL)]; exact h.1) (fun v4 ev4 => ?_)
    replace h := h.2 v4 ev4
    refine zj_iinc (y := x1 + 1) (ls2 := [.ref 223, .int (x1 + 1), .null]) dX11_counts_52 rfl rfl (by decide) rfl rfl ?_
    refine zj_goto (tgt := 25) dX11_counts_55 (by decide) ?_
    exact h
theorem sg_X11_counts_76 {G : z_G} {d : Nat} {S : z_Shp} {v : z_Dat} {Q : Option Value → z_Shp → z_Dat → Prop} {x1 : Int32} {x2 : Int32} (hL : z_L S)
    (h : ((v 223 32) < x2 → (narrow .boolean (.int x1) = .int x1 ∧ Q (some (.int x1)) S v)) ∧ (¬ (v 223 32) < x2 → ((¬ x1 = 0 → (z_J G d mX11_counts (76, [.ref 223, .int 1, .int (x2 + 1)], [], S, v) Q)) ∧ (x1 = 0 → ((vp_in x2 109) ∧ ((¬ (v 251 x2.toNatClampNeg) = 1 → (z_J G d mX11_counts (76, [.ref 223, .int 0, .int (x2 + 1)], [], S, v) Q)) ∧ ((v 251 x2.toNatClampNeg) = 1 → (z_J G d mX11_counts (76, [.ref 223, .int 1, .int (x2 + 1)], [], S, v) Q)))))))) :
    z_J G d mX11_counts (76, [.ref 223, .int x1, .int x2], [], S, v) Q := by
  refine zj_iload_n dX11_counts_76 rfl rfl ?_
  refine zj_aload_n dX11_counts_77 rfl rfl ?_
  refine zj_getI (ci := 11) (j := 32) dX11_counts_78 wf_X11_254 (by decide) (by decide) (zk_223 hL) rfl ?_
  refine zj_icmp_gt (tgt := 110) dX11_counts_81 (by decide) (fun c => ?_) (fun c => ?_)
  · replace h := h.1 c
    refine zj_iload_n dX11_counts_110 rfl rfl ?_
    exact zj_iret dX11_counts_111 rfl h.1 h.2
  · replace h := h.2 c
    refine zj_iload_n dX11_counts_84 rfl rfl ?_
    refine zj_if_ne (tgt := 98) dX11_counts_85 (by decide) (fun c => ?_) (fun c => ?_)
    · replace h := h.1 c
      refine zj_iconst (x := 1) dX11_counts_98 rfl ?_
      refine zj_goto (tgt := 103) dX11_counts_99 (by decide) ?_
      refine zj_istore_n (ls2 := [.ref 223, .int 1, .int x2]) dX11_counts_103 rfl (by decide) rfl rfl ?_
      refine zj_iinc (y := x2 + 1) (ls2 := [.ref 223, .int 1, .int (x2 + 1)]) dX11_counts_104 rfl rfl (by decide) rfl rfl ?_
      refine zj_goto (tgt := 76) dX11_counts_107 (by decide) ?_
      exact h
    · replace h := h.2 c
      refine zj_aload_n dX11_counts_88 rfl rfl ?_
      refine zj_getR (ci := 11) (j := 45) dX11_counts_89 wf_X11_97 (by decide) (by decide) (zk_223 hL) rfl (zr_223_45 hL) ?_
      refine zj_iload_n dX11_counts_92 rfl rfl ?_
      refine zj_iaload dX11_counts_93 (zk_251 hL) (by rw [(zl_251 hL)]; exact h.1) ?_
      replace h := h.2
      refine zj_iconst (x := 1) dX11_counts_94 rfl ?_
      refine zj_icmp_ne (tgt := 102) dX11_counts_95 (by decide) (fun c => ?_) (fun c => ?_)
      · replace h := h.1 c
        refine zj_iconst (x := 0) dX11_counts_102 rfl ?_
        refine zj_istore_n (ls2 := [.ref 223, .int 0, .int x2]) dX11_counts_103 rfl (by decide) rfl rfl ?_
        refine zj_iinc (y := x2 + 1) (ls2 := [.ref 223, .int 0, .int (x2 + 1)]) dX11_counts_104 rfl rfl (by decide) rfl rfl ?_
        refine zj_goto (tgt := 76) dX11_counts_107 (by decide) ?_
        exact h
      · replace h := h.2 c
        refine zj_iconst (x := 1) dX11_counts_98 rfl ?_
        refine zj_goto (tgt := 103) dX11_counts_99 (by decide) ?_
        refine zj_istore_n (ls2 := [.ref 223, .int 1, .int x2]) dX11_counts_103 rfl (by decide) rfl rfl ?_
        refine zj_iinc (y := x2 + 1) (ls2 := [.ref 223, .int 1, .int (x2 + 1)]) dX11_counts_104 rfl rfl (by decide) rfl rfl ?_
        refine zj_goto (tgt := 76) dX11_counts_107 (by decide) ?_
        exact h
theorem sg_X11_distance_0 {G : z_G} {d : Nat} {S : z_Shp} {v : z_Dat} {Q : Option Value → z_Shp → z_Dat → Prop} {x1 : Int32} (hL : z_L S)
    (h : ∀ v1, v1 = z_u v 223 0 0 → (((x1 = 0 ∨ x1 = 1) → (z_J G d mX11_chainOf (0, [.ref 223, .int x1], [], S, v1) (fun r S1 v2 => ∃ y1 : Int32, r = some (.int y1) ∧ S1 = S ∧ (z_J G d mX11_likes (0, [.ref 223, .int x1, .int y1, .int 0, .null, .null, .null], [], S, v2) (fun r S1 v3 => r = none ∧ S1 = S ∧ (Q (some (.int (v3 223 61))) S v3)))))) ∧ (¬ (x1 = 0 ∨ x1 = 1) → (Q (some (.int (-1))) S v1)))) :
    z_J G (d + 1) mX11_distance (0, [.ref 223, .int x1], [], S, v) Q := by
  refine zj_aload_n dX11_distance_0 rfl rfl ?_
  refine zj_iconst (x := 0) dX11_distance_1 rfl ?_
  refine zj_putI (ci := 11) (j := 0) dX11_distance_2 wf_X11_1 (by decide) (by decide) (zk_223 hL) rfl rfl rfl rfl (fun v1 ev1 => ?_)
  replace h := h v1 ev1
  refine zj_iload_n dX11_distance_5 rfl rfl ?_
  refine zj_callS (M' := mX11_isKind) (avs := [.int x1]) (st := []) dX11_distance_6 wm_X11_isKind wl_X11_165 wt_X11_isKind rfl (by decide) rfl (Nat.le_of_ble_eq_true rfl) (Nat.le_of_ble_eq_true rfl) ⟨Or.inl (z_k0 (zk_223 hL)), trivial⟩ trivial (hp_X11_isKind (fun c => ?_) (fun c => ?_))
  · replace h := h.1 c
    refine zj_if_ne (tgt := 14) dX11_distance_9 (by decide) (fun _ => ?_) (fun q => absurd q (by decide))
    refine zj_aload_n dX11_distance_14 rfl rfl ?_
    refine zj_iload_n dX11_distance_15 rfl rfl ?_
    refine zj_aload_n dX11_distance_16 rfl rfl ?_
    refine zj_iload_n dX11_distance_17 rfl rfl ?_
    refine zj_callV (M' := mX11_chainOf) (avs := [.int x1]) (st := [.int x1, .ref 223]) (ci := 11) dX11_distance_18 wm_X11_chainOf wl_X11_367 wi_X11_chainOf ws_X11_chainOf (by decide) (zk_223 hL) rfl rfl (by decide) rfl (Nat.le_of_ble_eq_true rfl) (Nat.le_of_ble_eq_true rfl) ⟨Or.inl (z_k0 (zk_223 hL)), trivial⟩ ⟨Or.inl (z_k0 (zk_223 hL)), trivial⟩ (z_J.mono h (fun r S1 v2 hq => ?_))
    obtain ⟨y1, rfl, rfl, h⟩ := hq
    refine zj_iconst (x := 0) dX11_distance_21 rfl ?_
    refine zj_callV (M' := mX11_likes) (avs := [.int x1, .int y1, .int 0]) (st := []) (ci := 11) dX11_distance_22 wm_X11_likes wl_X11_376 wi_X11_likes ws_X11_likes (by decide) (zk_223 hL) rfl rfl (by decide) rfl (Nat.le_of_ble_eq_true rfl) (Nat.le_of_ble_eq_true rfl) ⟨Or.inl (z_k0 (zk_223 hL)), trivial⟩ trivial (z_J.mono h (fun r S1 v3 hq => ?_))
    obtain ⟨rfl, rfl, h⟩ := hq
    refine zj_aload_n dX11_distance_25 rfl rfl ?_
    refine zj_getI (ci := 11) (j := 61) dX11_distance_26 wf_X11_364 (by decide) (by decide) (zk_223 hL) rfl ?_
    exact zj_iret dX11_distance_29 rfl rfl h
  · replace h := h.2 c
    refine zj_if_ne (tgt := 14) dX11_distance_9 (by decide) (fun q => absurd (by decide) q) (fun _ => ?_)
    refine zj_iconst (x := (-1)) dX11_distance_12 rfl ?_
    exact zj_iret dX11_distance_13 rfl rfl h
theorem sg_X11_does_0 {G : z_G} {d : Nat} {S : z_Shp} {v : z_Dat} {Q : Option Value → z_Shp → z_Dat → Prop} {x1 : Int32} (hL : z_L S)
    (h : (vp_in (x1 + 1) 128) ∧ ((vp_in (x1 + 2) 128) ∧ ((vp_in x1 128) ∧ (((v 234 x1.toNatClampNeg) = 3 → ((vp_in ((4 : Int32) + (v 234 (x1 + 1).toNatClampNeg)) 71) ∧ (vp_in ((4 : Int32) + (v 234 (x1 + 1).toNatClampNeg)) 71 ∧ (∀ v1, v1 = z_u v 224 ((4 : Int32) + (v 234 (x1 + 1).toNatClampNeg)).toNatClampNeg ((v 224 ((4 : Int32) + (v 234 (x1 + 1).toNatClampNeg)).toNatClampNeg) ^^^ ((1 : Int32) <<< ((v 234 (x1 + 2).toNatClampNeg) &&& 31))) → (Q (some (.int 1)) S v1))))) ∧ ((v 234 x1.toNatClampNeg) = 4 → ((¬ (v 224 1) = 8 → (z_J G d mX11_round (0, [.ref 223, .null], [], S, v) (fun r S1 v2 => r = none ∧ S1 = S ∧ (Q (some (.int 1)) S v2)))) ∧ ((v 224 1) = 8 → (Q (some (.int 0)) S v)))) ∧ ((v 234 x1.toNatClampNeg) = 5 → ((vp_in (x1 + 3) 128) ∧ (vp_in ((22 : Int32) + (((v 224 0) * (v 234 (x1 + 1).toNatClampNeg)) + (v 234 (x1 + 2).toNatClampNeg))) 71 ∧ (∀ v3, v3 = z_u v 224 ((22 : Int32) + (((v 224 0) * (v 234 (x1 + 1).toNatClampNeg)) + (v 234 (x1 + 2).toNatClampNeg))).toNatClampNeg (v 234 (x1 + 3).toNatClampNeg) → (Q (some (.int 1)) S v3))))) ∧ ((v 234 x1.toNatClampNeg) = 6 → ((vp_in (x1 + 3) 128) ∧ (vp_in (((47 : Int32) + ((12 : Int32) * (v 234 (x1 + 1).toNatClampNeg))) + (v 234 (x1 + 2).toNatClampNeg)) 71 ∧ (∀ v4, v4 = z_u v 224 (((47 : Int32) + ((12 : Int32) * (v 234 (x1 + 1).toNatClampNeg))) + (v 234 (x1 + 2).toNatClampNeg)).toNatClampNeg (v 234 (x1 + 3).toNatClampNeg) → (Q (some (.int 1)) S v4))))) ∧ (¬ (v 234 x1.toNatClampNeg) = 3 → ¬ (v 234 x1.toNatClampNeg) = 4 → ¬ (v 234 x1.toNatClampNeg) = 5 → ¬ (v 234 x1.toNatClampNeg) = 6 → ((vp_in x1 128) ∧ (((v 234 x1.toNatClampNeg) = 1 → ((vp_in x1 128) ∧ (((v 234 x1.toNatClampNeg) = 0 → (Q (some (.int 1)) S v)) ∧ (¬ (v 234 x1.toNatClampNeg) = 0 → (∀ v5, v5 = z_u v 224 3 ((v 224 3) ^^^ ((1 : Int32) <<< ((((v 224 0) * (v 234 (x1 + 1).toNatClampNeg)) + (v 234 (x1 + 2).toNatClampNeg)) &&& 31))) → (Q (some (.int 1)) S v5)))))) ∧ (¬ (v 234 x1.toNatClampNeg) = 1 → (∀ v6, v6 = z_u v 224 2 ((v 224 2) ^^^ ((1 : Int32) <<< ((((v 224 0) * (v 234 (x1 + 1).toNatClampNeg)) + (v 234 (x1 + 2).toNatClampNeg)) &&& 31))) → ((vp_in x1 128) ∧ (((v6 234 x1.toNatClampNeg) = 0 → (Q (some (.int 1)) S v6)) ∧ (¬ (v6 234 x1.toNatClampNeg) = 0 → (∀ v7, v7 = z_u v6 224 3 ((v6 224 3) ^^^ ((1 : Int32) <<< ((((v 224 0) * (v 234 (x1 + 1).toNatClampNeg)) + (v 234 (x1 + 2).toNatClampNeg)) &&& 31))) → (Q (some (.int 1)) S v7)))))))))))))) :
    z_J G (d + 1) mX11_does (0, [.ref 223, .int x1, .null, .null, .null], [], S, v) Q := by
  refine zj_aload_n dX11_does_0 rfl rfl ?_
  refine zj_getR (ci := 11) (j := 15) dX11_does_1 wf_X11_46 (by decide) (by decide) (zk_223 hL) rfl (zr_223_15 hL) ?_
  refine zj_iload_n dX11_does_4 rfl rfl ?_
  refine zj_iconst (x := 1) dX11_does_5 rfl ?_
  refine zj_iadd dX11_does_6 ?_
  refine zj_iaload dX11_does_7 (zk_234 hL) (by rw [(zl_234 hL)]; exact h.1) ?_
  replace h := h.2
  refine zj_istore_n (ls2 := [.ref 223, .int x1, .int (v 234 (x1 + 1).toNatClampNeg), .null, .null]) dX11_does_8 rfl (by decide) rfl rfl ?_
  refine zj_aload_n dX11_does_9 rfl rfl ?_
  refine zj_getR (ci := 11) (j := 15) dX11_does_10 wf_X11_46 (by decide) (by decide) (zk_223 hL) rfl (zr_223_15 hL) ?_
  refine zj_iload_n dX11_does_13 rfl rfl ?_
  refine zj_iconst (x := 2) dX11_does_14 rfl ?_
  refine zj_iadd dX11_does_15 ?_
  refine zj_iaload dX11_does_16 (zk_234 hL) (by rw [(zl_234 hL)]; exact h.1) ?_
  replace h := h.2
  refine zj_istore_n (ls2 := [.ref 223, .int x1, .int (v 234 (x1 + 1).toNatClampNeg), .int (v 234 (x1 + 2).toNatClampNeg), .null]) dX11_does_17 rfl (by decide) rfl rfl ?_
  refine zj_aload_n dX11_does_18 rfl rfl ?_
  refine zj_callV (M' := mX11_d) (avs := []) (st := []) (ci := 11) dX11_does_19 wm_X11_d wl_X11_140 wi_X11_d ws_X11_d (by decide) (zk_223 hL) rfl rfl (by decide) rfl (Nat.le_of_ble_eq_true rfl) (Nat.le_of_ble_eq_true rfl) ⟨Or.inl (z_k0 (zk_223 hL)), trivial⟩ trivial (hp_X11_d hL ?_)
  refine zj_iload_n dX11_does_22 rfl rfl ?_
  refine zj_imul dX11_does_23 ?_
  refine zj_iload_n dX11_does_24 rfl rfl ?_
  refine zj_iadd dX11_does_25 ?_
  refine zj_istore (ls2 := [.ref 223, .int x1, .int (v 234 (x1 + 1).toNatClampNeg), .int (v 234 (x1 + 2).toNatClampNeg), .int (((v 224 0) * (v 234 (x1 + 1).toNatClampNeg)) + (v 234 (x1 + 2).toNatClampNeg))]) dX11_does_26 (by decide) rfl rfl ?_
  refine zj_aload_n dX11_does_28 rfl rfl ?_
  refine zj_getR (ci := 11) (j := 15) dX11_does_29 wf_X11_46 (by decide) (by decide) (zk_223 hL) rfl (zr_223_15 hL) ?_
  refine zj_iload_n dX11_does_32 rfl rfl ?_
  refine zj_iaload dX11_does_33 (zk_234 hL) (by rw [(zl_234 hL)]; exact h.1) ?_
  replace h := h.2
  by_cases c3 : (v 234 x1.toNatClampNeg) = 3
  · refine zj_tabIn (tgt := 64) dX11_does_34 (by rw [c3]; decide) (by rw [c3]; decide) (by rw [c3]; rfl) (by decide) ?_
    replace h := h.1 c3
    refine zj_aload_n dX11_does_64 rfl rfl ?_
    refine zj_getR (ci := 11) (j := 1) dX11_does_65 wf_X11_13 (by decide) (by decide) (zk_223 hL) rfl (zr_223_1 hL) ?_
    refine zj_iconst (x := 4) dX11_does_68 rfl ?_
    refine zj_iload_n dX11_does_69 rfl rfl ?_
    refine zj_iadd dX11_does_70 ?_
    refine zj_dup2 dX11_does_71 rfl rfl ?_
    refine zj_iaload dX11_does_72 (zk_224 hL) (by rw [(zl_224 hL)]; exact h.1) ?_
    replace h := h.2
    refine zj_iconst (x := 1) dX11_does_73 rfl ?_
    refine zj_iload_n dX11_does_74 rfl rfl ?_
    refine zj_ishl dX11_does_75 ?_
    refine zj_ixor dX11_does_76 ?_
    refine zj_iastore dX11_does_77 (zk_224 hL) (by rw [(zl_224 hL)]; exact h.1) (fun v1 ev1 => ?_)
    replace h := h.2 v1 ev1
    refine zj_iconst (x := 1) dX11_does_78 rfl ?_
    exact zj_iret dX11_does_79 rfl (by decide) h
  by_cases c4 : (v 234 x1.toNatClampNeg) = 4
  · refine zj_tabIn (tgt := 80) dX11_does_34 (by rw [c4]; decide) (by rw [c4]; decide) (by rw [c4]; rfl) (by decide) ?_
    replace h := h.2.1 c4
    refine zj_aload_n dX11_does_80 rfl rfl ?_
    refine zj_getR (ci := 11) (j := 1) dX11_does_81 wf_X11_13 (by decide) (by decide) (zk_223 hL) rfl (zr_223_1 hL) ?_
    refine zj_iconst (x := 1) dX11_does_84 rfl ?_
    refine zj_iaload dX11_does_85 (zk_224 hL) (by rw [(zl_224 hL)]; exact z_vin (by decide)) ?_
    refine zj_bipush (x := 8) dX11_does_86 rfl ?_
    refine zj_icmp_ne (tgt := 93) dX11_does_88 (by decide) (fun c => ?_) (fun c => ?_)
    · replace h := h.1 c
      refine zj_aload_n dX11_does_93 rfl rfl ?_
      refine zj_callV (M' := mX11_round) (avs := []) (st := []) (ci := 11) dX11_does_94 wm_X11_round wl_X11_233 wi_X11_round ws_X11_round (by decide) (zk_223 hL) rfl rfl (by decide) rfl (Nat.le_of_ble_eq_true rfl) (Nat.le_of_ble_eq_true rfl) ⟨Or.inl (z_k0 (zk_223 hL)), trivial⟩ trivial (z_J.mono h (fun r S1 v2 hq => ?_))
      obtain ⟨rfl, rfl, h⟩ := hq
      refine zj_iconst (x := 1) dX11_does_97 rfl ?_
      exact zj_iret dX11_does_98 rfl (by decide) h
    · replace h := h.2 c
      refine zj_iconst (x := 0) dX11_does_91 rfl ?_
      exact zj_iret dX11_does_92 rfl (by decide) h
  by_cases c5 : (v 234 x1.toNatClampNeg) = 5
  · refine zj_tabIn (tgt := 99) dX11_does_34 (by rw [c5]; decide) (by rw [c5]; decide) (by rw [c5]; rfl) (by decide) ?_
    replace h := h.2.2.1 c5
    refine zj_aload_n dX11_does_99 rfl rfl ?_
    refine zj_getR (ci := 11) (j := 1) dX11_does_100 wf_X11_13 (by decide) (by decide) (zk_223 hL) rfl (zr_223_1 hL) ?_
    refine zj_bipush (x := 22) dX11_does_103 rfl ?_
    refine zj_iload dX11_does_105 rfl ?_
    refine zj_iadd dX11_does_107 ?_
    refine zj_aload_n dX11_does_108 rfl rfl ?_
    refine zj_getR (ci := 11) (j := 15) dX11_does_109 wf_X11_46 (by decide) (by decide) (zk_223 hL) rfl (zr_223_15 hL) ?_
    refine zj_iload_n dX11_does_112 rfl rfl ?_
    refine zj_iconst (x := 3) dX11_does_113 rfl ?_
    refine zj_iadd dX11_does_114 ?_
    refine zj_iaload dX11_does_115 (zk_234 hL) (by rw [(zl_234 hL)]; exact h.1) ?_
    replace h := h.2
    refine zj_iastore dX11_does_116 (zk_224 hL) (by rw [(zl_224 hL)]; exact h.1) (fun v3 ev3 => ?_)
    replace h := h.2 v3 ev3
    refine zj_iconst (x := 1) dX11_does_117 rfl ?_
    exact zj_iret dX11_does_118 rfl (by decide) h
  by_cases c6 : (v 234 x1.toNatClampNeg) = 6
  · refine zj_tabIn (tgt := 119) dX11_does_34 (by rw [c6]; decide) (by rw [c6]; decide) (by rw [c6]; rfl) (by decide) ?_
    replace h := h.2.2.2.1 c6
    refine zj_aload_n dX11_does_119 rfl rfl ?_
    refine zj_getR (ci := 11) (j := 1) dX11_does_120 wf_X11_13 (by decide) (by decide) (zk_223 hL) rfl (zr_223_1 hL) ?_
    refine zj_bipush (x := 47) dX11_does_123 rfl ?_
    refine zj_bipush (x := 12) dX11_does_125 rfl ?_
    refine zj_iload_n dX11_does_127 rfl rfl ?_
    refine zj_imul dX11_does_128 ?_
    refine zj_iadd dX11_does_129 ?_
    refine zj_iload_n dX11_does_130 rfl rfl ?_
    refine zj_iadd dX11_does_131 ?_
    refine zj_aload_n dX11_does_132 rfl rfl ?_
    refine zj_getR (ci := 11) (j := 15) dX11_does_133 wf_X11_46 (by decide) (by decide) (zk_223 hL) rfl (zr_223_15 hL) ?_
    refine zj_iload_n dX11_does_136 rfl rfl ?_
    refine zj_iconst (x := 3) dX11_does_137 rfl ?_
    refine zj_iadd dX11_does_138 ?_
    refine zj_iaload dX11_does_139 (zk_234 hL) (by rw [(zl_234 hL)]; exact h.1) ?_
    replace h := h.2
    refine zj_iastore dX11_does_140 (zk_224 hL) (by rw [(zl_224 hL)]; exact h.1) (fun v4 ev4 => ?_)
    replace h := h.2 v4 ev4
    refine zj_iconst (x := 1) dX11_does_141 rfl ?_
    exact zj_iret dX11_does_142 rfl (by decide) h
  refine zj_tabOut (tgt := 143) dX11_does_34 (z_out_3_6 c3 c4 c5 c6) (by decide) ?_
  replace h := h.2.2.2.2 c3 c4 c5 c6
  refine zj_aload_n dX11_does_143 rfl rfl ?_
  refine zj_getR (ci := 11) (j := 15) dX11_does_144 wf_X11_46 (by decide) (by decide) (zk_223 hL) rfl (zr_223_15 hL) ?_
  refine zj_iload_n dX11_does_147 rfl rfl ?_
  refine zj_iaload dX11_does_148 (zk_234 hL) (by rw [(zl_234 hL)]; exact h.1) ?_
  replace h := h.2
  refine zj_iconst (x := 1) dX11_does_149 rfl ?_
  refine zj_icmp_eq (tgt := 166) dX11_does_150 (by decide) (fun c => ?_) (fun c => ?_)
  · replace h := h.1 c
    refine zj_aload_n dX11_does_166 rfl rfl ?_
    refine zj_getR (ci := 11) (j := 15) dX11_does_167 wf_X11_46 (by decide) (by decide) (zk_223 hL) rfl (zr_223_15 hL) ?_
    refine zj_iload_n dX11_does_170 rfl rfl ?_
    refine zj_iaload dX11_does_171 (zk_234 hL) (by rw [(zl_234 hL)]; exact h.1) ?_
    replace h := h.2
    refine zj_if_eq (tgt := 188) dX11_does_172 (by decide) (fun c => ?_) (fun c => ?_)
    · replace h := h.1 c
      refine zj_iconst (x := 1) dX11_does_188 rfl ?_
      exact zj_iret dX11_does_189 rfl (by decide) h
    · replace h := h.2 c
      refine zj_aload_n dX11_does_175 rfl rfl ?_
      refine zj_getR (ci := 11) (j := 1) dX11_does_176 wf_X11_13 (by decide) (by decide) (zk_223 hL) rfl (zr_223_1 hL) ?_
      refine zj_iconst (x := 3) dX11_does_179 rfl ?_
      refine zj_dup2 dX11_does_180 rfl rfl ?_
      refine zj_iaload dX11_does_181 (zk_224 hL) (by rw [(zl_224 hL)]; exact z_vin (by decide)) ?_
      refine zj_iconst (x := 1) dX11_does_182 rfl ?_
      refine zj_iload dX11_does_183 rfl ?_
      refine zj_ishl dX11_does_185 ?_
      refine zj_ixor dX11_does_186 ?_
      refine zj_iastore dX11_does_187 (zk_224 hL) (by rw [(zl_224 hL)]; exact z_vin (by decide)) (fun v5 ev5 => ?_)
      replace h := h v5 ev5
      refine zj_iconst (x := 1) dX11_does_188 rfl ?_
      exact zj_iret dX11_does_189 rfl (by decide) h
  · replace h := h.2 c
    refine zj_aload_n dX11_does_153 rfl rfl ?_
    refine zj_getR (ci := 11) (j := 1) dX11_does_154 wf_X11_13 (by decide) (by decide) (zk_223 hL) rfl (zr_223_1 hL) ?_
    refine zj_iconst (x := 2) dX11_does_157 rfl ?_
    refine zj_dup2 dX11_does_158 rfl rfl ?_
    refine zj_iaload dX11_does_159 (zk_224 hL) (by rw [(zl_224 hL)]; exact z_vin (by decide)) ?_
    refine zj_iconst (x := 1) dX11_does_160 rfl ?_
    refine zj_iload dX11_does_161 rfl ?_
    refine zj_ishl dX11_does_163 ?_
    refine zj_ixor dX11_does_164 ?_
    refine zj_iastore dX11_does_165 (zk_224 hL) (by rw [(zl_224 hL)]; exact z_vin (by decide)) (fun v6 ev6 => ?_)
    replace h := h v6 ev6
    refine zj_aload_n dX11_does_166 rfl rfl ?_
    refine zj_getR (ci := 11) (j := 15) dX11_does_167 wf_X11_46 (by decide) (by decide) (zk_223 hL) rfl (zr_223_15 hL) ?_
    refine zj_iload_n dX11_does_170 rfl rfl ?_
    refine zj_iaload dX11_does_171 (zk_234 hL) (by rw [(zl_234 hL)]; exact h.1) ?_
    replace h := h.2
    refine zj_if_eq (tgt := 188) dX11_does_172 (by decide) (fun c => ?_) (fun c => ?_)
    · replace h := h.1 c
      refine zj_iconst (x := 1) dX11_does_188 rfl ?_
      exact zj_iret dX11_does_189 rfl (by decide) h
    · replace h := h.2 c
      refine zj_aload_n dX11_does_175 rfl rfl ?_
      refine zj_getR (ci := 11) (j := 1) dX11_does_176 wf_X11_13 (by decide) (by decide) (zk_223 hL) rfl (zr_223_1 hL) ?_
      refine zj_iconst (x := 3) dX11_does_179 rfl ?_
      refine zj_dup2 dX11_does_180 rfl rfl ?_
      refine zj_iaload dX11_does_181 (zk_224 hL) (by rw [(zl_224 hL)]; exact z_vin (by decide)) ?_
      refine zj_iconst (x := 1) dX11_does_182 rfl ?_
      refine zj_iload dX11_does_183 rfl ?_
      refine zj_ishl dX11_does_185 ?_
      refine zj_ixor dX11_does_186 ?_
      refine zj_iastore dX11_does_187 (zk_224 hL) (by rw [(zl_224 hL)]; exact z_vin (by decide)) (fun v7 ev7 => ?_)
      replace h := h v7 ev7
      refine zj_iconst (x := 1) dX11_does_188 rfl ?_
      exact zj_iret dX11_does_189 rfl (by decide) h
theorem sg_X11_doesAll_0 {G : z_G} {d : Nat} {S : z_Shp} {v : z_Dat} {Q : Option Value → z_Shp → z_Dat → Prop}
    (h : z_J G d mX11_doesAll (9, [.ref 223, .int 0, .int 0, .int 0, .int 0], [], S, v) Q) :
    z_J G d mX11_doesAll (0, [.ref 223, .null, .null, .null, .null], [], S, v) Q := by
  refine zj_iconst (x := 0) dX11_doesAll_0 rfl ?_
  refine zj_istore_n (ls2 := [.ref 223, .int 0, .null, .null, .null]) dX11_doesAll_1 rfl (by decide) rfl rfl ?_
  refine zj_iconst (x := 0) dX11_doesAll_2 rfl ?_
  refine zj_istore_n (ls2 := [.ref 223, .int 0, .int 0, .null, .null]) dX11_doesAll_3 rfl (by decide) rfl rfl ?_
  refine zj_iconst (x := 0) dX11_doesAll_4 rfl ?_
  refine zj_istore_n (ls2 := [.ref 223, .int 0, .int 0, .int 0, .null]) dX11_doesAll_5 rfl (by decide) rfl rfl ?_
  refine zj_iconst (x := 0) dX11_doesAll_6 rfl ?_
  refine zj_istore (ls2 := [.ref 223, .int 0, .int 0, .int 0, .int 0]) dX11_doesAll_7 (by decide) rfl rfl ?_
  exact h
theorem sg_X11_doesAll_9 {G : z_G} {d : Nat} {S : z_Shp} {v : z_Dat} {Q : Option Value → z_Shp → z_Dat → Prop} {x1 : Int32} {x2 : Int32} {x3 : Int32} {x4 : Int32} (hL : z_L S)
    (h : (100 ≤ x2 → (Q (some (.int x3)) S v)) ∧ (¬ 100 ≤ x2 → ((x4 < (v 223 17) → ((x1 ≤ 0 → ((vp_in ((4 : Int32) * x4) 128) ∧ ((¬ (v 234 ((4 : Int32) * x4).toNatClampNeg) = 7 → (z_J G d mX11_does (0, [.ref 223, .int ((4 : Int32) * x4), .null, .null, .null], [], S, v) (fun r S1 v1 => ∃ y1 : Int32, r = some (.int y1) ∧ S1 = S ∧ ((y1 = 0 → (z_J G (d + 1) mX11_doesAll (9, [.ref 223, .int x1, .int (x2 + 1), .int (x3 + 0), .int (x4 + 1)], [], S, v1) Q)) ∧ (¬ y1 = 0 → (z_J G (d + 1) mX11_doesAll (9, [.ref 223, .int x1, .int (x2 + 1), .int (x3 + 1), .int (x4 + 1)], [], S, v1) Q)))))) ∧ ((v 234 ((4 : Int32) * x4).toNatClampNeg) = 7 → (vp_in x1 2 ∧ (∀ v2, v2 = z_u v 236 x1.toNatClampNeg x4 → ((vp_in (((4 : Int32) * x4) + 1) 128) ∧ (vp_in x1 2 ∧ (∀ v3, v3 = z_u v2 237 x1.toNatClampNeg (v2 234 (((4 : Int32) * x4) + 1).toNatClampNeg) → (z_J G (d + 1) mX11_doesAll (9, [.ref 223, .int (x1 + 1), .int x2, .int x3, .int (x4 + 1)], [], S, v3) Q)))))))))) ∧ (¬ x1 ≤ 0 → ((vp_in (x1 - 1) 2) ∧ ((vp_in (((4 : Int32) * (v 236 (x1 - 1).toNatClampNeg)) + 2) 128) ∧ ((¬ x4 = (v 234 (((4 : Int32) * (v 236 (x1 - 1).toNatClampNeg)) + 2).toNatClampNeg) → ((vp_in ((4 : Int32) * x4) 128) ∧ ((¬ (v 234 ((4 : Int32) * x4).toNatClampNeg) = 7 → (z_J G d mX11_does (0, [.ref 223, .int ((4 : Int32) * x4), .null, .null, .null], [], S, v) (fun r S1 v4 => ∃ y2 : Int32, r = some (.int y2) ∧ S1 = S ∧ ((y2 = 0 → (z_J G (d + 1) mX11_doesAll (9, [.ref 223, .int x1, .int (x2 + 1), .int (x3 + 0), .int (x4 + 1)], [], S, v4) Q)) ∧ (¬ y2 = 0 → (z_J G (d + 1) mX11_doesAll (9, [.ref 223, .int x1, .int (x2 + 1), .int (x3 + 1), .int (x4 + 1)], [], S, v4) Q)))))) ∧ ((v 234 ((4 : Int32) * x4).toNatClampNeg) = 7 → (vp_in x1 2 ∧ (∀ v5, v5 = z_u v 236 x1.toNatClampNeg x4 → ((vp_in (((4 : Int32) * x4) + 1) 128) ∧ (vp_in x1 2 ∧ (∀ v6, v6 = z_u v5 237 x1.toNatClampNeg (v5 234 (((4 : Int32) * x4) + 1).toNatClampNeg) → (z_J G (d + 1) mX11_doesAll (9, [.ref 223, .int (x1 + 1), .int x2, .int x3, .int (x4 + 1)], [], S, v6) Q)))))))))) ∧ (x4 = (v 234 (((4 : Int32) * (v 236 (x1 - 1).toNatClampNeg)) + 2).toNatClampNeg) → ((vp_in (x1 - 1) 2) ∧ (vp_in (x1 - 1) 2 ∧ (∀ v7, v7 = z_u v 237 (x1 - 1).toNatClampNeg ((v 237 (x1 - 1).toNatClampNeg) - 1) → ((vp_in (x1 - 1) 2) ∧ (((v7 237 (x1 - 1).toNatClampNeg) ≤ 0 → (z_J G (d + 1) mX11_doesAll (9, [.ref 223, .int (x1 + (-1)), .int x2, .int x3, .int x4], [], S, v7) Q)) ∧ (¬ (v7 237 (x1 - 1).toNatClampNeg) ≤ 0 → ((vp_in (x1 - 1) 2) ∧ (z_J G (d + 1) mX11_doesAll (9, [.ref 223, .int x1, .int x2, .int x3, .int ((v7 236 (x1 - 1).toNatClampNeg) + 1)], [], S, v7) Q))))))))))))))) ∧ (¬ x4 < (v 223 17) → ((x1 ≤ 0 → (Q (some (.int x3)) S v)) ∧ (¬ x1 ≤ 0 → ((x1 ≤ 0 → ((vp_in ((4 : Int32) * x4) 128) ∧ ((¬ (v 234 ((4 : Int32) * x4).toNatClampNeg) = 7 → (z_J G d mX11_does (0, [.ref 223, .int ((4 : Int32) * x4), .null, .null, .null], [], S, v) (fun r S1 v8 => ∃ y3 : Int32, r = some (.int y3) ∧ S1 = S ∧ ((y3 = 0 → (z_J G (d + 1) mX11_doesAll (9, [.ref 223, .int x1, .int (x2 + 1), .int (x3 + 0), .int (x4 + 1)], [], S, v8) Q)) ∧ (¬ y3 = 0 → (z_J G (d + 1) mX11_doesAll (9, [.ref 223, .int x1, .int (x2 + 1), .int (x3 + 1), .int (x4 + 1)], [], S, v8) Q)))))) ∧ ((v 234 ((4 : Int32) * x4).toNatClampNeg) = 7 → (vp_in x1 2 ∧ (∀ v9, v9 = z_u v 236 x1.toNatClampNeg x4 → ((vp_in (((4 : Int32) * x4) + 1) 128) ∧ (vp_in x1 2 ∧ (∀ v10, v10 = z_u v9 237 x1.toNatClampNeg (v9 234 (((4 : Int32) * x4) + 1).toNatClampNeg) → (z_J G (d + 1) mX11_doesAll (9, [.ref 223, .int (x1 + 1), .int x2, .int x3, .int (x4 + 1)], [], S, v10) Q)))))))))) ∧ (¬ x1 ≤ 0 → ((vp_in (x1 - 1) 2) ∧ ((vp_in (((4 : Int32) * (v 236 (x1 - 1).toNatClampNeg)) + 2) 128) ∧ ((¬ x4 = (v 234 (((4 : Int32) * (v 236 (x1 - 1).toNatClampNeg)) + 2).toNatClampNeg) → ((vp_in ((4 : Int32) * x4) 128) ∧ ((¬ (v 234 ((4 : Int32) * x4).toNatClampNeg) = 7 → (z_J G d mX11_does (0, [.ref 223, .int ((4 : Int32) * x4), .null, .null, .null], [], S, v) (fun r S1 v11 => ∃ y4 : Int32, r = some (.int y4) ∧ S1 = S ∧ ((y4 = 0 → (z_J G (d + 1) mX11_doesAll (9, [.ref 223, .int x1, .int (x2 + 1), .int (x3 + 0), .int (x4 + 1)], [], S, v11) Q)) ∧ (¬ y4 = 0 → (z_J G (d + 1) mX11_doesAll (9, [.ref 223, .int x1, .int (x2 + 1), .int (x3 + 1), .int (x4 + 1)], [], S, v11) Q)))))) ∧ ((v 234 ((4 : Int32) * x4).toNatClampNeg) = 7 → (vp_in x1 2 ∧ (∀ v12, v12 = z_u v 236 x1.toNatClampNeg x4 → ((vp_in (((4 : Int32) * x4) + 1) 128) ∧ (vp_in x1 2 ∧ (∀ v13, v13 = z_u v12 237 x1.toNatClampNeg (v12 234 (((4 : Int32) * x4) + 1).toNatClampNeg) → (z_J G (d + 1) mX11_doesAll (9, [.ref 223, .int (x1 + 1), .int x2, .int x3, .int (x4 + 1)], [], S, v13) Q)))))))))) ∧ (x4 = (v 234 (((4 : Int32) * (v 236 (x1 - 1).toNatClampNeg)) + 2).toNatClampNeg) → ((vp_in (x1 - 1) 2) ∧ (vp_in (x1 - 1) 2 ∧ (∀ v14, v14 = z_u v 237 (x1 - 1).toNatClampNeg ((v 237 (x1 - 1).toNatClampNeg) - 1) → ((vp_in (x1 - 1) 2) ∧ (((v14 237 (x1 - 1).toNatClampNeg) ≤ 0 → (z_J G (d + 1) mX11_doesAll (9, [.ref 223, .int (x1 + (-1)), .int x2, .int x3, .int x4], [], S, v14) Q)) ∧ (¬ (v14 237 (x1 - 1).toNatClampNeg) ≤ 0 → ((vp_in (x1 - 1) 2) ∧ (z_J G (d + 1) mX11_doesAll (9, [.ref 223, .int x1, .int x2, .int x3, .int ((v14 236 (x1 - 1).toNatClampNeg) + 1)], [], S, v14) Q)))))))))))))))))))) :
    z_J G (d + 1) mX11_doesAll (9, [.ref 223, .int x1, .int x2, .int x3, .int x4], [], S, v) Q := by
  refine zj_iload_n dX11_doesAll_9 rfl rfl ?_
  refine zj_bipush (x := 100) dX11_doesAll_10 rfl ?_
  refine zj_icmp_ge (tgt := 171) dX11_doesAll_12 (by decide) (fun c => ?_) (fun c => ?_)
  · replace h := h.1 c
    refine zj_iload_n dX11_doesAll_171 rfl rfl ?_
    exact zj_iret dX11_doesAll_172 rfl rfl h
  · replace h := h.2 c
    refine zj_iload dX11_doesAll_15 rfl ?_
    refine zj_aload_n dX11_doesAll_17 rfl rfl ?_
    refine zj_getI (ci := 11) (j := 17) dX11_doesAll_18 wf_X11_214 (by decide) (by decide) (zk_223 hL) rfl ?_
    refine zj_icmp_lt (tgt := 28) dX11_doesAll_21 (by decide) (fun c => ?_) (fun c => ?_)
    · replace h := h.1 c
      refine zj_iload_n dX11_doesAll_28 rfl rfl ?_
      refine zj_if_le (tgt := 98) dX11_doesAll_29 (by decide) (fun c => ?_) (fun c => ?_)
      · replace h := h.1 c
        refine zj_aload_n dX11_doesAll_98 rfl rfl ?_
        refine zj_getR (ci := 11) (j := 15) dX11_doesAll_99 wf_X11_46 (by decide) (by decide) (zk_223 hL) rfl (zr_223_15 hL) ?_
        refine zj_iconst (x := 4) dX11_doesAll_102 rfl ?_
        refine zj_iload dX11_doesAll_103 rfl ?_
        refine zj_imul dX11_doesAll_105 ?_
        refine zj_iaload dX11_doesAll_106 (zk_234 hL) (by rw [(zl_234 hL)]; exact h.1) ?_
        replace h := h.2
        refine zj_bipush (x := 7) dX11_doesAll_107 rfl ?_
        refine zj_icmp_ne (tgt := 143) dX11_doesAll_109 (by decide) (fun c => ?_) (fun c => ?_)
        · replace h := h.1 c
          refine zj_iinc (y := x2 + 1) (ls2 := [.ref 223, .int x1, .int (x2 + 1), .int x3, .int x4]) dX11_doesAll_143 rfl rfl (by decide) rfl rfl ?_
          refine zj_iload_n dX11_doesAll_146 rfl rfl ?_
          refine zj_aload_n dX11_doesAll_147 rfl rfl ?_
          refine zj_iconst (x := 4) dX11_doesAll_148 rfl ?_
          refine zj_iload dX11_doesAll_149 rfl ?_
          refine zj_imul dX11_doesAll_151 ?_
          refine zj_callV (M' := mX11_does) (avs := [.int ((4 : Int32) * x4)]) (st := [.int x3]) (ci := 11) dX11_doesAll_152 wm_X11_does wl_X11_236 wi_X11_does ws_X11_does (by decide) (zk_223 hL) rfl rfl (by decide) rfl (Nat.le_of_ble_eq_true rfl) (Nat.le_of_ble_eq_true rfl) ⟨Or.inl (z_k0 (zk_223 hL)), trivial⟩ trivial (z_J.mono h (fun r S1 v1 hq => ?_))
          obtain ⟨y1, rfl, rfl, h⟩ := hq
          refine zj_if_eq (tgt := 162) dX11_doesAll_155 (by decide) (fun c => ?_) (fun c => ?_)
          · replace h := h.1 c
            refine zj_iconst (x := 0) dX11_doesAll_162 rfl ?_
            refine zj_iadd dX11_doesAll_163 ?_
            refine zj_istore_n (ls2 := [.ref 223, .int x1, .int (x2 + 1), .int (x3 + 0), .int x4]) dX11_doesAll_164 rfl (by decide) rfl rfl ?_
            refine zj_iinc (y := x4 + 1) (ls2 := [.ref 223, .int x1, .int (x2 + 1), .int (x3 + 0), .int (x4 + 1)]) dX11_doesAll_165 rfl rfl (by decide) rfl rfl ?_
            refine zj_goto (tgt := 9) dX11_doesAll_168 (by decide) ?_
            exact h
          · replace h := h.2 c
            refine zj_iconst (x := 1) dX11_doesAll_158 rfl ?_
            refine zj_goto (tgt := 163) dX11_doesAll_159 (by decide) ?_
            refine zj_iadd dX11_doesAll_163 ?_
            refine zj_istore_n (ls2 := [.ref 223, .int x1, .int (x2 + 1), .int (x3 + 1), .int x4]) dX11_doesAll_164 rfl (by decide) rfl rfl ?_
            refine zj_iinc (y := x4 + 1) (ls2 := [.ref 223, .int x1, .int (x2 + 1), .int (x3 + 1), .int (x4 + 1)]) dX11_doesAll_165 rfl rfl (by decide) rfl rfl ?_
            refine zj_goto (tgt := 9) dX11_doesAll_168 (by decide) ?_
            exact h
        · replace h := h.2 c
          refine zj_aload_n dX11_doesAll_112 rfl rfl ?_
          refine zj_getR (ci := 11) (j := 24) dX11_doesAll_113 wf_X11_52 (by decide) (by decide) (zk_223 hL) rfl (zr_223_24 hL) ?_
          refine zj_iload_n dX11_doesAll_116 rfl rfl ?_
          refine zj_iload dX11_doesAll_117 rfl ?_
          refine zj_iastore dX11_doesAll_119 (zk_236 hL) (by rw [(zl_236 hL)]; exact h.1) (fun v2 ev2 => ?_)
          replace h := h.2 v2 ev2
          refine zj_aload_n dX11_doesAll_120 rfl rfl ?_
          refine zj_getR (ci := 11) (j := 25) dX11_doesAll_121 wf_X11_55 (by decide) (by decide) (zk_223 hL) rfl (zr_223_25 hL) ?_
          refine zj_iload_n dX11_doesAll_124 rfl rfl ?_
          refine zj_aload_n dX11_doesAll_125 rfl rfl ?_
          refine zj_getR (ci := 11) (j := 15) dX11_doesAll_126 wf_X11_46 (by decide) (by decide) (zk_223 hL) rfl (zr_223_15 hL) ?_
          refine zj_iconst (x := 4) dX11_doesAll_129 rfl ?_
          refine zj_iload dX11_doesAll_130 rfl ?_
          refine zj_imul dX11_doesAll_132 ?_
          refine zj_iconst (x := 1) dX11_doesAll_133 rfl ?_
          refine zj_iadd dX11_doesAll_134 ?_
          refine zj_iaload dX11_doesAll_135 (zk_234 hL) (by rw [(zl_234 hL)]; exact h.1) ?_
          replace h := h.2
          refine zj_iastore dX11_doesAll_136 (zk_237 hL) (by rw [(zl_237 hL)]; exact h.1) (fun v3 ev3 => ?_)
          replace h := h.2 v3 ev3
          refine zj_iinc (y := x1 + 1) (ls2 := [.ref 223, .int (x1 + 1), .int x2, .int x3, .int x4]) dX11_doesAll_137 rfl rfl (by decide) rfl rfl ?_
          refine zj_goto (tgt := 165) dX11_doesAll_140 (by decide) ?_
          refine zj_iinc (y := x4 + 1) (ls2 := [.ref 223, .int (x1 + 1), .int x2, .int x3, .int (x4 + 1)]) dX11_doesAll_165 rfl rfl (by decide) rfl rfl ?_
          refine zj_goto (tgt := 9) dX11_doesAll_168 (by decide) ?_
          exact h
      · replace h := h.2 c
        refine zj_iload dX11_doesAll_32 rfl ?_
        refine zj_aload_n dX11_doesAll_34 rfl rfl ?_
        refine zj_getR (ci := 11) (j := 15) dX11_doesAll_35 wf_X11_46 (by decide) (by decide) (zk_223 hL) rfl (zr_223_15 hL) ?_
        refine zj_iconst (x := 4) dX11_doesAll_38 rfl ?_
        refine zj_aload_n dX11_doesAll_39 rfl rfl ?_
        refine zj_getR (ci := 11) (j := 24) dX11_doesAll_40 wf_X11_52 (by decide) (by decide) (zk_223 hL) rfl (zr_223_24 hL) ?_
        refine zj_iload_n dX11_doesAll_43 rfl rfl ?_
        refine zj_iconst (x := 1) dX11_doesAll_44 rfl ?_
        refine zj_isub dX11_doesAll_45 ?_
        refine zj_iaload dX11_doesAll_46 (zk_236 hL) (by rw [(zl_236 hL)]; exact h.1) ?_
        replace h := h.2
        refine zj_imul dX11_doesAll_47 ?_
        refine zj_iconst (x := 2) dX11_doesAll_48 rfl ?_
        refine zj_iadd dX11_doesAll_49 ?_
        refine zj_iaload dX11_doesAll_50 (zk_234 hL) (by rw [(zl_234 hL)]; exact h.1) ?_
        replace h := h.2
        refine zj_icmp_ne (tgt := 98) dX11_doesAll_51 (by decide) (fun c => ?_) (fun c => ?_)
        · replace h := h.1 c
          refine zj_aload_n dX11_doesAll_98 rfl rfl ?_
          refine zj_getR (ci := 11) (j := 15) dX11_doesAll_99 wf_X11_46 (by decide) (by decide) (zk_223 hL) rfl (zr_223_15 hL) ?_
          refine zj_iconst (x := 4) dX11_doesAll_102 rfl ?_
          refine zj_iload dX11_doesAll_103 rfl ?_
          refine zj_imul dX11_doesAll_105 ?_
          refine zj_iaload dX11_doesAll_106 (zk_234 hL) (by rw [(zl_234 hL)]; exact h.1) ?_
          replace h := h.2
          refine zj_bipush (x := 7) dX11_doesAll_107 rfl ?_
          refine zj_icmp_ne (tgt := 143) dX11_doesAll_109 (by decide) (fun c => ?_) (fun c => ?_)
          · replace h := h.1 c
            refine zj_iinc (y := x2 + 1) (ls2 := [.ref 223, .int x1, .int (x2 + 1), .int x3, .int x4]) dX11_doesAll_143 rfl rfl (by decide) rfl rfl ?_
            refine zj_iload_n dX11_doesAll_146 rfl rfl ?_
            refine zj_aload_n dX11_doesAll_147 rfl rfl ?_
            refine zj_iconst (x := 4) dX11_doesAll_148 rfl ?_
            refine zj_iload dX11_doesAll_149 rfl ?_
            refine zj_imul dX11_doesAll_151 ?_
            refine zj_callV (M' := mX11_does) (avs := [.int ((4 : Int32) * x4)]) (st := [.int x3]) (ci := 11) dX11_doesAll_152 wm_X11_does wl_X11_236 wi_X11_does ws_X11_does (by decide) (zk_223 hL) rfl rfl (by decide) rfl (Nat.le_of_ble_eq_true rfl) (Nat.le_of_ble_eq_true rfl) ⟨Or.inl (z_k0 (zk_223 hL)), trivial⟩ trivial (z_J.mono h (fun r S1 v4 hq => ?_))
            obtain ⟨y2, rfl, rfl, h⟩ := hq
            refine zj_if_eq (tgt := 162) dX11_doesAll_155 (by decide) (fun c => ?_) (fun c => ?_)
            · replace h := h.1 c
              refine zj_iconst (x := 0) dX11_doesAll_162 rfl ?_
              refine zj_iadd dX11_doesAll_163 ?_
              refine zj_istore_n (ls2 := [.ref 223, .int x1, .int (x2 + 1), .int (x3 + 0), .int x4]) dX11_doesAll_164 rfl (by decide) rfl rfl ?_
              refine zj_iinc (y := x4 + 1) (ls2 := [.ref 223, .int x1, .int (x2 + 1), .int (x3 + 0), .int (x4 + 1)]) dX11_doesAll_165 rfl rfl (by decide) rfl rfl ?_
              refine zj_goto (tgt := 9) dX11_doesAll_168 (by decide) ?_
              exact h
            · replace h := h.2 c
              refine zj_iconst (x := 1) dX11_doesAll_158 rfl ?_
              refine zj_goto (tgt := 163) dX11_doesAll_159 (by decide) ?_
              refine zj_iadd dX11_doesAll_163 ?_
              refine zj_istore_n (ls2 := [.ref 223, .int x1, .int (x2 + 1), .int (x3 + 1), .int x4]) dX11_doesAll_164 rfl (by decide) rfl rfl ?_
              refine zj_iinc (y := x4 + 1) (ls2 := [.ref 223, .int x1, .int (x2 + 1), .int (x3 + 1), .int (x4 + 1)]) dX11_doesAll_165 rfl rfl (by decide) rfl rfl ?_
              refine zj_goto (tgt := 9) dX11_doesAll_168 (by decide) ?_
              exact h
          · replace h := h.2 c
            refine zj_aload_n dX11_doesAll_112 rfl rfl ?_
            refine zj_getR (ci := 11) (j := 24) dX11_doesAll_113 wf_X11_52 (by decide) (by decide) (zk_223 hL) rfl (zr_223_24 hL) ?_
            refine zj_iload_n dX11_doesAll_116 rfl rfl ?_
            refine zj_iload dX11_doesAll_117 rfl ?_
            refine zj_iastore dX11_doesAll_119 (zk_236 hL) (by rw [(zl_236 hL)]; exact h.1) (fun v5 ev5 => ?_)
            replace h := h.2 v5 ev5
            refine zj_aload_n dX11_doesAll_120 rfl rfl ?_
            refine zj_getR (ci := 11) (j := 25) dX11_doesAll_121 wf_X11_55 (by decide) (by decide) (zk_223 hL) rfl (zr_223_25 hL) ?_
            refine zj_iload_n dX11_doesAll_124 rfl rfl ?_
            refine zj_aload_n dX11_doesAll_125 rfl rfl ?_
            refine zj_getR (ci := 11) (j := 15) dX11_doesAll_126 wf_X11_46 (by decide) (by decide) (zk_223 hL) rfl (zr_223_15 hL) ?_
            refine zj_iconst (x := 4) dX11_doesAll_129 rfl ?_
            refine zj_iload dX11_doesAll_130 rfl ?_
            refine zj_imul dX11_doesAll_132 ?_
            refine zj_iconst (x := 1) dX11_doesAll_133 rfl ?_
            refine zj_iadd dX11_doesAll_134 ?_
            refine zj_iaload dX11_doesAll_135 (zk_234 hL) (by rw [(zl_234 hL)]; exact h.1) ?_
            replace h := h.2
            refine zj_iastore dX11_doesAll_136 (zk_237 hL) (by rw [(zl_237 hL)]; exact h.1) (fun v6 ev6 => ?_)
            replace h := h.2 v6 ev6
            refine zj_iinc (y := x1 + 1) (ls2 := [.ref 223, .int (x1 + 1), .int x2, .int x3, .int x4]) dX11_doesAll_137 rfl rfl (by decide) rfl rfl ?_
            refine zj_goto (tgt := 165) dX11_doesAll_140 (by decide) ?_
            refine zj_iinc (y := x4 + 1) (ls2 := [.ref 223, .int (x1 + 1), .int x2, .int x3, .int (x4 + 1)]) dX11_doesAll_165 rfl rfl (by decide) rfl rfl ?_
            refine zj_goto (tgt := 9) dX11_doesAll_168 (by decide) ?_
            exact h
        · replace h := h.2 c
          refine zj_aload_n dX11_doesAll_54 rfl rfl ?_
          refine zj_getR (ci := 11) (j := 25) dX11_doesAll_55 wf_X11_55 (by decide) (by decide) (zk_223 hL) rfl (zr_223_25 hL) ?_
          refine zj_iload_n dX11_doesAll_58 rfl rfl ?_
          refine zj_iconst (x := 1) dX11_doesAll_59 rfl ?_
          refine zj_isub dX11_doesAll_60 ?_
          refine zj_dup2 dX11_doesAll_61 rfl rfl ?_
          refine zj_iaload dX11_doesAll_62 (zk_237 hL) (by rw [(zl_237 hL)]; exact h.1) ?_
          replace h := h.2
          refine zj_iconst (x := 1) dX11_doesAll_63 rfl ?_
          refine zj_isub dX11_doesAll_64 ?_
          refine zj_iastore dX11_doesAll_65 (zk_237 hL) (by rw [(zl_237 hL)]; exact h.1) (fun v7 ev7 => ?_)
          replace h := h.2 v7 ev7
          refine zj_aload_n dX11_doesAll_66 rfl rfl ?_
          refine zj_getR (ci := 11) (j := 25) dX11_doesAll_67 wf_X11_55 (by decide) (by decide) (zk_223 hL) rfl (zr_223_25 hL) ?_
          refine zj_iload_n dX11_doesAll_70 rfl rfl ?_
          refine zj_iconst (x := 1) dX11_doesAll_71 rfl ?_
          refine zj_isub dX11_doesAll_72 ?_
          refine zj_iaload dX11_doesAll_73 (zk_237 hL) (by rw [(zl_237 hL)]; exact h.1) ?_
          replace h := h.2
          refine zj_if_le (tgt := 92) dX11_doesAll_74 (by decide) (fun c => ?_) (fun c => ?_)
          · replace h := h.1 c
            refine zj_iinc (y := x1 + (-1)) (ls2 := [.ref 223, .int (x1 + (-1)), .int x2, .int x3, .int x4]) dX11_doesAll_92 rfl rfl (by decide) rfl rfl ?_
            refine zj_goto (tgt := 9) dX11_doesAll_95 (by decide) ?_
            exact h
          · replace h := h.2 c
            refine zj_aload_n dX11_doesAll_77 rfl rfl ?_
            refine zj_getR (ci := 11) (j := 24) dX11_doesAll_78 wf_X11_52 (by decide) (by decide) (zk_223 hL) rfl (zr_223_24 hL) ?_
            refine zj_iload_n dX11_doesAll_81 rfl rfl ?_
            refine zj_iconst (x := 1) dX11_doesAll_82 rfl ?_
            refine zj_isub dX11_doesAll_83 ?_
            refine zj_iaload dX11_doesAll_84 (zk_236 hL) (by rw [(zl_236 hL)]; exact h.1) ?_
            replace h := h.2
            refine zj_iconst (x := 1) dX11_doesAll_85 rfl ?_
            refine zj_iadd dX11_doesAll_86 ?_
            refine zj_istore (ls2 := [.ref 223, .int x1, .int x2, .int x3, .int ((v7 236 (x1 - 1).toNatClampNeg) + 1)]) dX11_doesAll_87 (by decide) rfl rfl ?_
            refine zj_goto (tgt := 9) dX11_doesAll_89 (by decide) ?_
            exact h
    · replace h := h.2 c
      refine zj_iload_n dX11_doesAll_24 rfl rfl ?_
      refine zj_if_le (tgt := 171) dX11_doesAll_25 (by decide) (fun c => ?_) (fun c => ?_)
      · replace h := h.1 c
        refine zj_iload_n dX11_doesAll_171 rfl rfl ?_
        exact zj_iret dX11_doesAll_172 rfl rfl h
      · replace h := h.2 c
        refine zj_iload_n dX11_doesAll_28 rfl rfl ?_
        refine zj_if_le (tgt := 98) dX11_doesAll_29 (by decide) (fun c => ?_) (fun c => ?_)
        · replace h := h.1 c
          refine zj_aload_n dX11_doesAll_98 rfl rfl ?_
          refine zj_getR (ci := 11) (j := 15) dX11_doesAll_99 wf_X11_46 (by decide) (by decide) (zk_223 hL) rfl (zr_223_15 hL) ?_
          refine zj_iconst (x := 4) dX11_doesAll_102 rfl ?_
          refine zj_iload dX11_doesAll_103 rfl ?_
          refine zj_imul dX11_doesAll_105 ?_
          refine zj_iaload dX11_doesAll_106 (zk_234 hL) (by rw [(zl_234 hL)]; exact h.1) ?_
          replace h := h.2
          refine zj_bipush (x := 7) dX11_doesAll_107 rfl ?_
          refine zj_icmp_ne (tgt := 143) dX11_doesAll_109 (by decide) (fun c => ?_) (fun c => ?_)
          · replace h := h.1 c
            refine zj_iinc (y := x2 + 1) (ls2 := [.ref 223, .int x1, .int (x2 + 1), .int x3, .int x4]) dX11_doesAll_143 rfl rfl (by decide) rfl rfl ?_
            refine zj_iload_n dX11_doesAll_146 rfl rfl ?_
            refine zj_aload_n dX11_doesAll_147 rfl rfl ?_
            refine zj_iconst (x := 4) dX11_doesAll_148 rfl ?_
            refine zj_iload dX11_doesAll_149 rfl ?_
            refine zj_imul dX11_doesAll_151 ?_
            refine zj_callV (M' := mX11_does) (avs := [.int ((4 : Int32) * x4)]) (st := [.int x3]) (ci := 11) dX11_doesAll_152 wm_X11_does wl_X11_236 wi_X11_does ws_X11_does (by decide) (zk_223 hL) rfl rfl (by decide) rfl (Nat.le_of_ble_eq_true rfl) (Nat.le_of_ble_eq_true rfl) ⟨Or.inl (z_k0 (zk_223 hL)), trivial⟩ trivial (z_J.mono h (fun r S1 v8 hq => ?_))
            obtain ⟨y3, rfl, rfl, h⟩ := hq
            refine zj_if_eq (tgt := 162) dX11_doesAll_155 (by decide) (fun c => ?_) (fun c => ?_)
            · replace h := h.1 c
              refine zj_iconst (x := 0) dX11_doesAll_162 rfl ?_
              refine zj_iadd dX11_doesAll_163 ?_
              refine zj_istore_n (ls2 := [.ref 223, .int x1, .int (x2 + 1), .int (x3 + 0), .int x4]) dX11_doesAll_164 rfl (by decide) rfl rfl ?_
              refine zj_iinc (y := x4 + 1) (ls2 := [.ref 223, .int x1, .int (x2 + 1), .int (x3 + 0), .int (x4 + 1)]) dX11_doesAll_165 rfl rfl (by decide) rfl rfl ?_
              refine zj_goto (tgt := 9) dX11_doesAll_168 (by decide) ?_
              exact h
            · replace h := h.2 c
              refine zj_iconst (x := 1) dX11_doesAll_158 rfl ?_
              refine zj_goto (tgt := 163) dX11_doesAll_159 (by decide) ?_
              refine zj_iadd dX11_doesAll_163 ?_
              refine zj_istore_n (ls2 := [.ref 223, .int x1, .int (x2 + 1), .int (x3 + 1), .int x4]) dX11_doesAll_164 rfl (by decide) rfl rfl ?_
              refine zj_iinc (y := x4 + 1) (ls2 := [.ref 223, .int x1, .int (x2 + 1), .int (x3 + 1), .int (x4 + 1)]) dX11_doesAll_165 rfl rfl (by decide) rfl rfl ?_
              refine zj_goto (tgt := 9) dX11_doesAll_168 (by decide) ?_
              exact h
          · replace h := h.2 c
            refine zj_aload_n dX11_doesAll_112 rfl rfl ?_
            refine zj_getR (ci := 11) (j := 24) dX11_doesAll_113 wf_X11_52 (by decide) (by decide) (zk_223 hL) rfl (zr_223_24 hL) ?_
            refine zj_iload_n dX11_doesAll_116 rfl rfl ?_
            refine zj_iload dX11_doesAll_117 rfl ?_
            refine zj_iastore dX11_doesAll_119 (zk_236 hL) (by rw [(zl_236 hL)]; exact h.1) (fun v9 ev9 => ?_)
            replace h := h.2 v9 ev9
            refine zj_aload_n dX11_doesAll_120 rfl rfl ?_
            refine zj_getR (ci := 11) (j := 25) dX11_doesAll_121 wf_X11_55 (by decide) (by decide) (zk_223 hL) rfl (zr_223_25 hL) ?_
            refine zj_iload_n dX11_doesAll_124 rfl rfl ?_
            refine zj_aload_n dX11_doesAll_125 rfl rfl ?_
            refine zj_getR (ci := 11) (j := 15) dX11_doesAll_126 wf_X11_46 (by decide) (by decide) (zk_223 hL) rfl (zr_223_15 hL) ?_
            refine zj_iconst (x := 4) dX11_doesAll_129 rfl ?_
            refine zj_iload dX11_doesAll_130 rfl ?_
            refine zj_imul dX11_doesAll_132 ?_
            refine zj_iconst (x := 1) dX11_doesAll_133 rfl ?_
            refine zj_iadd dX11_doesAll_134 ?_
            refine zj_iaload dX11_doesAll_135 (zk_234 hL) (by rw [(zl_234 hL)]; exact h.1) ?_
            replace h := h.2
            refine zj_iastore dX11_doesAll_136 (zk_237 hL) (by rw [(zl_237 hL)]; exact h.1) (fun v10 ev10 => ?_)
            replace h := h.2 v10 ev10
            refine zj_iinc (y := x1 + 1) (ls2 := [.ref 223, .int (x1 + 1), .int x2, .int x3, .int x4]) dX11_doesAll_137 rfl rfl (by decide) rfl rfl ?_
            refine zj_goto (tgt := 165) dX11_doesAll_140 (by decide) ?_
            refine zj_iinc (y := x4 + 1) (ls2 := [.ref 223, .int (x1 + 1), .int x2, .int x3, .int (x4 + 1)]) dX11_doesAll_165 rfl rfl (by decide) rfl rfl ?_
            refine zj_goto (tgt := 9) dX11_doesAll_168 (by decide) ?_
            exact h
        · replace h := h.2 c
          refine zj_iload dX11_doesAll_32 rfl ?_
          refine zj_aload_n dX11_doesAll_34 rfl rfl ?_
          refine zj_getR (ci := 11) (j := 15) dX11_doesAll_35 wf_X11_46 (by decide) (by decide) (zk_223 hL) rfl (zr_223_15 hL) ?_
          refine zj_iconst (x := 4) dX11_doesAll_38 rfl ?_
          refine zj_aload_n dX11_doesAll_39 rfl rfl ?_
          refine zj_getR (ci := 11) (j := 24) dX11_doesAll_40 wf_X11_52 (by decide) (by decide) (zk_223 hL) rfl (zr_223_24 hL) ?_
          refine zj_iload_n dX11_doesAll_43 rfl rfl ?_
          refine zj_iconst (x := 1) dX11_doesAll_44 rfl ?_
          refine zj_isub dX11_doesAll_45 ?_
          refine zj_iaload dX11_doesAll_46 (zk_236 hL) (by rw [(zl_236 hL)]; exact h.1) ?_
          replace h := h.2
          refine zj_imul dX11_doesAll_47 ?_
          refine zj_iconst (x := 2) dX11_doesAll_48 rfl ?_
          refine zj_iadd dX11_doesAll_49 ?_
          refine zj_iaload dX11_doesAll_50 (zk_234 hL) (by rw [(zl_234 hL)]; exact h.1) ?_
          replace h := h.2
          refine zj_icmp_ne (tgt := 98) dX11_doesAll_51 (by decide) (fun c => ?_) (fun c => ?_)
          · replace h := h.1 c
            refine zj_aload_n dX11_doesAll_98 rfl rfl ?_
            refine zj_getR (ci := 11) (j := 15) dX11_doesAll_99 wf_X11_46 (by decide) (by decide) (zk_223 hL) rfl (zr_223_15 hL) ?_
            refine zj_iconst (x := 4) dX11_doesAll_102 rfl ?_
            refine zj_iload dX11_doesAll_103 rfl ?_
            refine zj_imul dX11_doesAll_105 ?_
            refine zj_iaload dX11_doesAll_106 (zk_234 hL) (by rw [(zl_234 hL)]; exact h.1) ?_
            replace h := h.2
            refine zj_bipush (x := 7) dX11_doesAll_107 rfl ?_
            refine zj_icmp_ne (tgt := 143) dX11_doesAll_109 (by decide) (fun c => ?_) (fun c => ?_)
            · replace h := h.1 c
              refine zj_iinc (y := x2 + 1) (ls2 := [.ref 223, .int x1, .int (x2 + 1), .int x3, .int x4]) dX11_doesAll_143 rfl rfl (by decide) rfl rfl ?_
              refine zj_iload_n dX11_doesAll_146 rfl rfl ?_
              refine zj_aload_n dX11_doesAll_147 rfl rfl ?_
              refine zj_iconst (x := 4) dX11_doesAll_148 rfl ?_
              refine zj_iload dX11_doesAll_149 rfl ?_
              refine zj_imul dX11_doesAll_151 ?_
              refine zj_callV (M' := mX11_does) (avs := [.int ((4 : Int32) * x4)]) (st := [.int x3]) (ci := 11) dX11_doesAll_152 wm_X11_does wl_X11_236 wi_X11_does ws_X11_does (by decide) (zk_223 hL) rfl rfl (by decide) rfl (Nat.le_of_ble_eq_true rfl) (Nat.le_of_ble_eq_true rfl) ⟨Or.inl (z_k0 (zk_223 hL)), trivial⟩ trivial (z_J.mono h (fun r S1 v11 hq => ?_))
              obtain ⟨y4, rfl, rfl, h⟩ := hq
              refine zj_if_eq (tgt := 162) dX11_doesAll_155 (by decide) (fun c => ?_) (fun c => ?_)
              · replace h := h.1 c
                refine zj_iconst (x := 0) dX11_doesAll_162 rfl ?_
                refine zj_iadd dX11_doesAll_163 ?_
                refine zj_istore_n (ls2 := [.ref 223, .int x1, .int (x2 + 1), .int (x3 + 0), .int x4]) dX11_doesAll_164 rfl (by decide) rfl rfl ?_
                refine zj_iinc (y := x4 + 1) (ls2 := [.ref 223, .int x1, .int (x2 + 1), .int (x3 + 0), .int (x4 + 1)]) dX11_doesAll_165 rfl rfl (by decide) rfl rfl ?_
                refine zj_goto (tgt := 9) dX11_doesAll_168 (by decide) ?_
                exact h
              · replace h := h.2 c
                refine zj_iconst (x := 1) dX11_doesAll_158 rfl ?_
                refine zj_goto (tgt := 163) dX11_doesAll_159 (by decide) ?_
                refine zj_iadd dX11_doesAll_163 ?_
                refine zj_istore_n (ls2 := [.ref 223, .int x1, .int (x2 + 1), .int (x3 + 1), .int x4]) dX11_doesAll_164 rfl (by decide) rfl rfl ?_
                refine zj_iinc (y := x4 + 1) (ls2 := [.ref 223, .int x1, .int (x2 + 1), .int (x3 + 1), .int (x4 + 1)]) dX11_doesAll_165 rfl rfl (by decide) rfl rfl ?_
                refine zj_goto (tgt := 9) dX11_doesAll_168 (by decide) ?_
                exact h
            · replace h := h.2 c
              refine zj_aload_n dX11_doesAll_112 rfl rfl ?_
              refine zj_getR (ci := 11) (j := 24) dX11_doesAll_113 wf_X11_52 (by decide) (by decide) (zk_223 hL) rfl (zr_223_24 hL) ?_
              refine zj_iload_n dX11_doesAll_116 rfl rfl ?_
              refine zj_iload dX11_doesAll_117 rfl ?_
              refine zj_iastore dX11_doesAll_119 (zk_236 hL) (by rw [(zl_236 hL)]; exact h.1) (fun v12 ev12 => ?_)
              replace h := h.2 v12 ev12
              refine zj_aload_n dX11_doesAll_120 rfl rfl ?_
              refine zj_getR (ci := 11) (j := 25) dX11_doesAll_121 wf_X11_55 (by decide) (by decide) (zk_223 hL) rfl (zr_223_25 hL) ?_
              refine zj_iload_n dX11_doesAll_124 rfl rfl ?_
              refine zj_aload_n dX11_doesAll_125 rfl rfl ?_
              refine zj_getR (ci := 11) (j := 15) dX11_doesAll_126 wf_X11_46 (by decide) (by decide) (zk_223 hL) rfl (zr_223_15 hL) ?_
              refine zj_iconst (x := 4) dX11_doesAll_129 rfl ?_
              refine zj_iload dX11_doesAll_130 rfl ?_
              refine zj_imul dX11_doesAll_132 ?_
              refine zj_iconst (x := 1) dX11_doesAll_133 rfl ?_
              refine zj_iadd dX11_doesAll_134 ?_
              refine zj_iaload dX11_doesAll_135 (zk_234 hL) (by rw [(zl_234 hL)]; exact h.1) ?_
              replace h := h.2
              refine zj_iastore dX11_doesAll_136 (zk_237 hL) (by rw [(zl_237 hL)]; exact h.1) (fun v13 ev13 => ?_)
              replace h := h.2 v13 ev13
              refine zj_iinc (y := x1 + 1) (ls2 := [.ref 223, .int (x1 + 1), .int x2, .int x3, .int x4]) dX11_doesAll_137 rfl rfl (by decide) rfl rfl ?_
              refine zj_goto (tgt := 165) dX11_doesAll_140 (by decide) ?_
              refine zj_iinc (y := x4 + 1) (ls2 := [.ref 223, .int (x1 + 1), .int x2, .int x3, .int (x4 + 1)]) dX11_doesAll_165 rfl rfl (by decide) rfl rfl ?_
              refine zj_goto (tgt := 9) dX11_doesAll_168 (by decide) ?_
              exact h
          · replace h := h.2 c
            refine zj_aload_n dX11_doesAll_54 rfl rfl ?_
            refine zj_getR (ci := 11) (j := 25) dX11_doesAll_55 wf_X11_55 (by decide) (by decide) (zk_223 hL) rfl (zr_223_25 hL) ?_
            refine zj_iload_n dX11_doesAll_58 rfl rfl ?_
            refine zj_iconst (x := 1) dX11_doesAll_59 rfl ?_
            refine zj_isub dX11_doesAll_60 ?_
            refine zj_dup2 dX11_doesAll_61 rfl rfl ?_
            refine zj_iaload dX11_doesAll_62 (zk_237 hL) (by rw [(zl_237 hL)]; exact h.1) ?_
            replace h := h.2
            refine zj_iconst (x := 1) dX11_doesAll_63 rfl ?_
            refine zj_isub dX11_doesAll_64 ?_
            refine zj_iastore dX11_doesAll_65 (zk_237 hL) (by rw [(zl_237 hL)]; exact h.1) (fun v14 ev14 => ?_)
            replace h := h.2 v14 ev14
            refine zj_aload_n dX11_doesAll_66 rfl rfl ?_
            refine zj_getR (ci := 11) (j := 25) dX11_doesAll_67 wf_X11_55 (by decide) (by decide) (zk_223 hL) rfl (zr_223_25 hL) ?_
            refine zj_iload_n dX11_doesAll_70 rfl rfl ?_
            refine zj_iconst (x := 1) dX11_doesAll_71 rfl ?_
            refine zj_isub dX11_doesAll_72 ?_
            refine zj_iaload dX11_doesAll_73 (zk_237 hL) (by rw [(zl_237 hL)]; exact h.1) ?_
            replace h := h.2
            refine zj_if_le (tgt := 92) dX11_doesAll_74 (by decide) (fun c => ?_) (fun c => ?_)
            · replace h := h.1 c
              refine zj_iinc (y := x1 + (-1)) (ls2 := [.ref 223, .int (x1 + (-1)), .int x2, .int x3, .int x4]) dX11_doesAll_92 rfl rfl (by decide) rfl rfl ?_
              refine zj_goto (tgt := 9) dX11_doesAll_95 (by decide) ?_
              exact h
            · replace h := h.2 c
              refine zj_aload_n dX11_doesAll_77 rfl rfl ?_
              refine zj_getR (ci := 11) (j := 24) dX11_doesAll_78 wf_X11_52 (by decide) (by decide) (zk_223 hL) rfl (zr_223_24 hL) ?_
              refine zj_iload_n dX11_doesAll_81 rfl rfl ?_
              refine zj_iconst (x := 1) dX11_doesAll_82 rfl ?_
              refine zj_isub dX11_doesAll_83 ?_
              refine zj_iaload dX11_doesAll_84 (zk_236 hL) (by rw [(zl_236 hL)]; exact h.1) ?_
              replace h := h.2
              refine zj_iconst (x := 1) dX11_doesAll_85 rfl ?_
              refine zj_iadd dX11_doesAll_86 ?_
              refine zj_istore (ls2 := [.ref 223, .int x1, .int x2, .int x3, .int ((v14 236 (x1 - 1).toNatClampNeg) + 1)]) dX11_doesAll_87 (by decide) rfl rfl ?_
              refine zj_goto (tgt := 9) dX11_doesAll_89 (by decide) ?_
              exact h
theorem sg_X11_draw_0 {G : z_G} {d : Nat} {S : z_Shp} {v : z_Dat} {Q : Option Value → z_Shp → z_Dat → Prop} {x1 : Int32} (hL : z_L S)
    (h : ∀ v1, v1 = z_u v 223 63 (((v 223 63) * 1103515245) + 12345) → ((¬ x1 = 0) ∧ (Q (some (.int ((z_us (v1 223 63) 8) - (z_us (v1 223 63) 8) / x1 * x1))) S v1))) :
    z_J G d mX11_draw (0, [.ref 223, .int x1], [], S, v) Q := by
  refine zj_aload_n dX11_draw_0 rfl rfl ?_
  refine zj_aload_n dX11_draw_1 rfl rfl ?_
  refine zj_getI (ci := 11) (j := 63) dX11_draw_2 wf_X11_397 (by decide) (by decide) (zk_223 hL) rfl ?_
  refine zj_ldcw (x := 1103515245) dX11_draw_5 wc_X11_400 ?_
  refine zj_imul dX11_draw_8 ?_
  refine zj_sipush (x := 12345) dX11_draw_9 rfl ?_
  refine zj_iadd dX11_draw_12 ?_
  refine zj_putI (ci := 11) (j := 63) dX11_draw_13 wf_X11_397 (by decide) (by decide) (zk_223 hL) rfl rfl rfl rfl (fun v1 ev1 => ?_)
  replace h := h v1 ev1
  refine zj_aload_n dX11_draw_16 rfl rfl ?_
  refine zj_getI (ci := 11) (j := 63) dX11_draw_17 wf_X11_397 (by decide) (by decide) (zk_223 hL) rfl ?_
  refine zj_bipush (x := 8) dX11_draw_20 rfl ?_
  refine zj_iushr dX11_draw_22 ?_
  refine zj_iload_n dX11_draw_23 rfl rfl ?_
  refine zj_irem dX11_draw_24 h.1 ?_
  replace h := h.2
  exact zj_iret dX11_draw_25 rfl rfl h
theorem sg_X11_drawn_0 {G : z_G} {d : Nat} {S : z_Shp} {v : z_Dat} {Q : Option Value → z_Shp → z_Dat → Prop} {x1 : Int32} {x2 : Int32} {x3 : Int32} (hL : z_L S)
    (h : ∀ v1, v1 = z_u v 223 0 0 → (z_J G d mX11_canDraw (0, [.ref 223, .int x1, .int x2], [], S, v1) (fun r S1 v2 => ∃ y1 : Int32, r = some (.int y1) ∧ S1 = S ∧ ((¬ y1 = 0 → (z_J G d mX11_keeps (0, [.ref 223, .null], [], S, v2) (fun r S1 v3 => r = none ∧ S1 = S ∧ (z_J G d mX11_draws (0, [.ref 223, .int x1, .int x2, .int x3, .null, .null, .null, .null], [], S, v3) (fun r S1 v4 => ∃ y2 : Int32, r = some (.int y2) ∧ S1 = S ∧ (Q (some (.int y2)) S v4)))))) ∧ (y1 = 0 → (Q (some (.int (-1))) S v2)))))) :
    z_J G (d + 1) mX11_drawn (0, [.ref 223, .int x1, .int x2, .int x3], [], S, v) Q := by
  refine zj_aload_n dX11_drawn_0 rfl rfl ?_
  refine zj_iconst (x := 0) dX11_drawn_1 rfl ?_
  refine zj_putI (ci := 11) (j := 0) dX11_drawn_2 wf_X11_1 (by decide) (by decide) (zk_223 hL) rfl rfl rfl rfl (fun v1 ev1 => ?_)
  replace h := h v1 ev1
  refine zj_aload_n dX11_drawn_5 rfl rfl ?_
  refine zj_iload_n dX11_drawn_6 rfl rfl ?_
  refine zj_iload_n dX11_drawn_7 rfl rfl ?_
  refine zj_callV (M' := mX11_canDraw) (avs := [.int x1, .int x2]) (st := []) (ci := 11) dX11_drawn_8 wm_X11_canDraw wl_X11_404 wi_X11_canDraw ws_X11_canDraw (by decide) (zk_223 hL) rfl rfl (by decide) rfl (Nat.le_of_ble_eq_true rfl) (Nat.le_of_ble_eq_true rfl) ⟨Or.inl (z_k0 (zk_223 hL)), trivial⟩ trivial (z_J.mono h (fun r S1 v2 hq => ?_))
  obtain ⟨y1, rfl, rfl, h⟩ := hq
  refine zj_if_ne (tgt := 16) dX11_drawn_11 (by decide) (fun c => ?_) (fun c => ?_)
  · replace h := h.1 c
    refine zj_aload_n dX11_drawn_16 rfl rfl ?_
    refine zj_callV (M' := mX11_keeps) (avs := []) (st := []) (ci := 11) dX11_drawn_17 wm_X11_keeps wl_X11_242 wi_X11_keeps ws_X11_keeps (by decide) (zk_223 hL) rfl rfl (by decide) rfl (Nat.le_of_ble_eq_true rfl) (Nat.le_of_ble_eq_true rfl) ⟨Or.inl (z_k0 (zk_223 hL)), trivial⟩ trivial (z_J.mono h (fun r S1 v3 hq => ?_))
    obtain ⟨rfl, rfl, h⟩ := hq
    refine zj_aload_n dX11_drawn_20 rfl rfl ?_
    refine zj_iload_n dX11_drawn_21 rfl rfl ?_
    refine zj_iload_n dX11_drawn_22 rfl rfl ?_
    refine zj_iload_n dX11_drawn_23 rfl rfl ?_
    refine zj_callV (M' := mX11_draws) (avs := [.int x1, .int x2, .int x3]) (st := []) (ci := 11) dX11_drawn_24 wm_X11_draws wl_X11_407 wi_X11_draws ws_X11_draws (by decide) (zk_223 hL) rfl rfl (by decide) rfl (Nat.le_of_ble_eq_true rfl) (Nat.le_of_ble_eq_true rfl) ⟨Or.inl (z_k0 (zk_223 hL)), trivial⟩ trivial (z_J.mono h (fun r S1 v4 hq => ?_))
    obtain ⟨y2, rfl, rfl, h⟩ := hq
    exact zj_iret dX11_drawn_27 rfl rfl h
  · replace h := h.2 c
    refine zj_iconst (x := (-1)) dX11_drawn_14 rfl ?_
    exact zj_iret dX11_drawn_15 rfl rfl h
theorem sg_X11_draws_0 {G : z_G} {d : Nat} {S : z_Shp} {v : z_Dat} {Q : Option Value → z_Shp → z_Dat → Prop} {x1 : Int32} {x2 : Int32} {x3 : Int32} (hL : z_L S)
    (h : ∀ v1, v1 = z_u v 223 63 x3 → (z_J G d mX11_draws (11, [.ref 223, .int x1, .int x2, .int x3, .int 0, .int 0, .null, .null], [], S, v1) Q)) :
    z_J G d mX11_draws (0, [.ref 223, .int x1, .int x2, .int x3, .null, .null, .null, .null], [], S, v) Q := by
  refine zj_aload_n dX11_draws_0 rfl rfl ?_
  refine zj_iload_n dX11_draws_1 rfl rfl ?_
  refine zj_putI (ci := 11) (j := 63) dX11_draws_2 wf_X11_397 (by decide) (by decide) (zk_223 hL) rfl rfl rfl rfl (fun v1 ev1 => ?_)
  replace h := h v1 ev1
  refine zj_iconst (x := 0) dX11_draws_5 rfl ?_
  refine zj_istore (ls2 := [.ref 223, .int x1, .int x2, .int x3, .int 0, .null, .null, .null]) dX11_draws_6 (by decide) rfl rfl ?_
  refine zj_iconst (x := 0) dX11_draws_8 rfl ?_
  refine zj_istore (ls2 := [.ref 223, .int x1, .int x2, .int x3, .int 0, .int 0, .null, .null]) dX11_draws_9 (by decide) rfl rfl ?_
  exact h
theorem sg_X11_draws_11 {G : z_G} {d : Nat} {S : z_Shp} {v : z_Dat} {Q : Option Value → z_Shp → z_Dat → Prop} {x1 : Int32} {x2 : Int32} {x3 : Int32} {x4 : Int32} {x5 : Int32}
    (h : (x1 ≤ x5 → (Q (some (.int x4)) S v)) ∧ (¬ x1 ≤ x5 → (z_J G d mX11_draws (20, [.ref 223, .int x1, .int x2, .int x3, .int x4, .int x5, .int 0, .null], [], S, v) Q))) :
    z_J G d mX11_draws (11, [.ref 223, .int x1, .int x2, .int x3, .int x4, .int x5, .null, .null], [], S, v) Q := by
  refine zj_iload dX11_draws_11 rfl ?_
  refine zj_iload_n dX11_draws_13 rfl rfl ?_
  refine zj_icmp_ge (tgt := 187) dX11_draws_14 (by decide) (fun c => ?_) (fun c => ?_)
  · replace h := h.1 c
    refine zj_iload dX11_draws_187 rfl ?_
    exact zj_iret dX11_draws_189 rfl rfl h
  · replace h := h.2 c
    refine zj_iconst (x := 0) dX11_draws_17 rfl ?_
    refine zj_istore (ls2 := [.ref 223, .int x1, .int x2, .int x3, .int x4, .int x5, .int 0, .null]) dX11_draws_18 (by decide) rfl rfl ?_
    exact h
theorem sg_X11_draws_20 {G : z_G} {d : Nat} {S : z_Shp} {v : z_Dat} {Q : Option Value → z_Shp → z_Dat → Prop} {x1 : Int32} {x2 : Int32} {x3 : Int32} {x4 : Int32} {x5 : Int32} {x6 : Int32} (hL : z_L S)
    (h : (((v 224 0) * (v 224 0)) ≤ x6 → (z_J G (d + 1) mX11_draws (121, [.ref 223, .int x1, .int x2, .int x3, .int x4, .int x5, .int 0, .null], [], S, v) Q)) ∧ (¬ ((v 224 0) * (v 224 0)) ≤ x6 → (z_J G d mX11_draw (0, [.ref 223, .int 64], [], S, v) (fun r S1 v1 => ∃ y1 : Int32, r = some (.int y1) ∧ S1 = S ∧ ((y1 < ((3 : Int32) * x2) → ((y1 < x2 → (∀ v2, v2 = z_u v1 224 2 ((v1 224 2) ^^^ ((1 : Int32) <<< (x6 &&& 31))) → ((y1 < x2 → ((y1 < ((2 : Int32) * x2) → (z_J G (d + 1) mX11_draws (20, [.ref 223, .int x1, .int x2, .int x3, .int (x4 + 1), .int x5, .int (x6 + 1), .null], [], S, v2) Q)) ∧ (¬ y1 < ((2 : Int32) * x2) → (z_J G (d + 1) mX11_draws (20, [.ref 223, .int x1, .int x2, .int x3, .int (x4 + 2), .int x5, .int (x6 + 1), .null], [], S, v2) Q)))) ∧ (¬ y1 < x2 → (∀ v3, v3 = z_u v2 224 3 ((v2 224 3) ^^^ ((1 : Int32) <<< (x6 &&& 31))) → ((y1 < ((2 : Int32) * x2) → (z_J G (d + 1) mX11_draws (20, [.ref 223, .int x1, .int x2, .int x3, .int (x4 + 1), .int x5, .int (x6 + 1), .null], [], S, v3) Q)) ∧ (¬ y1 < ((2 : Int32) * x2) → (z_J G (d + 1) mX11_draws (20, [.ref 223, .int x1, .int x2, .int x3, .int (x4 + 2), .int x5, .int (x6 + 1), .null], [], S, v3) Q)))))))) ∧ (¬ y1 < x2 → ((y1 < ((2 : Int32) * x2) → ((y1 < x2 → ((y1 < ((2 : Int32) * x2) → (z_J G (d + 1) mX11_draws (20, [.ref 223, .int x1, .int x2, .int x3, .int (x4 + 1), .int x5, .int (x6 + 1), .null], [], S, v1) Q)) ∧ (¬ y1 < ((2 : Int32) * x2) → (z_J G (d + 1) mX11_draws (20, [.ref 223, .int x1, .int x2, .int x3, .int (x4 + 2), .int x5, .int (x6 + 1), .null], [], S, v1) Q)))) ∧ (¬ y1 < x2 → (∀ v4, v4 = z_u v1 224 3 ((v1 224 3) ^^^ ((1 : Int32) <<< (x6 &&& 31))) → ((y1 < ((2 : Int32) * x2) → (z_J G (d + 1) mX11_draws (20, [.ref 223, .int x1, .int x2, .int x3, .int (x4 + 1), .int x5, .int (x6 + 1), .null], [], S, v4) Q)) ∧ (¬ y1 < ((2 : Int32) * x2) → (z_J G (d + 1) mX11_draws (20, [.ref 223, .int x1, .int x2, .int x3, .int (x4 + 2), .int x5, .int (x6 + 1), .null], [], S, v4) Q))))))) ∧ (¬ y1 < ((2 : Int32) * x2) → (∀ v5, v5 = z_u v1 224 2 ((v1 224 2) ^^^ ((1 : Int32) <<< (x6 &&& 31))) → ((y1 < x2 → ((y1 < ((2 : Int32) * x2) → (z_J G (d + 1) mX11_draws (20, [.ref 223, .int x1, .int x2, .int x3, .int (x4 + 1), .int x5, .int (x6 + 1), .null], [], S, v5) Q)) ∧ (¬ y1 < ((2 : Int32) * x2) → (z_J G (d + 1) mX11_draws (20, [.ref 223, .int x1, .int x2, .int x3, .int (x4 + 2), .int x5, .int (x6 + 1), .null], [], S, v5) Q)))) ∧ (¬ y1 < x2 → (∀ v6, v6 = z_u v5 224 3 ((v5 224 3) ^^^ ((1 : Int32) <<< (x6 &&& 31))) → ((y1 < ((2 : Int32) * x2) → (z_J G (d + 1) mX11_draws (20, [.ref 223, .int x1, .int x2, .int x3, .int (x4 + 1), .int x5, .int (x6 + 1), .null], [], S, v6) Q)) ∧ (¬ y1 < ((2 : Int32) * x2) → (z_J G (d + 1) mX11_draws (20, [.ref 223, .int x1, .int x2, .int x3, .int (x4 + 2), .int x5, .int (x6 + 1), .null], [], S, v6) Q)))))))))))) ∧ (¬ y1 < ((3 : Int32) * x2) → (z_J G (d + 1) mX11_draws (20, [.ref 223, .int x1, .int x2, .int x3, .int x4, .int x5, .int (x6 + 1), .null], [], S, v1) Q))))))) :
    z_J G (d + 1) mX11_draws (20, [.ref 223, .int x1, .int x2, .int x3, .int x4, .int x5, .int x6, .null], [], S, v) Q := by
  refine zj_iload dX11_draws_20 rfl ?_
  refine zj_aload_n dX11_draws_22 rfl rfl ?_
  refine zj_callV (M' := mX11_qubits) (avs := []) (st := [.int x6]) (ci := 11) dX11_draws_23 wm_X11_qubits wl_X11_148 wi_X11_qubits ws_X11_qubits (by decide) (zk_223 hL) rfl rfl (by decide) rfl (Nat.le_of_ble_eq_true rfl) (Nat.le_of_ble_eq_true rfl) ⟨Or.inl (z_k0 (zk_223 hL)), trivial⟩ trivial (hp_X11_qubits hL ?_)
  refine zj_icmp_ge (tgt := 118) dX11_draws_26 (by decide) (fun c => ?_) (fun c => ?_)
  · replace h := h.1 c
    refine zj_iconst (x := 0) dX11_draws_118 rfl ?_
    refine zj_istore (ls2 := [.ref 223, .int x1, .int x2, .int x3, .int x4, .int x5, .int 0, .null]) dX11_draws_119 (by decide) rfl rfl ?_
    exact h
  · replace h := h.2 c
    refine zj_aload_n dX11_draws_29 rfl rfl ?_
    refine zj_bipush (x := 64) dX11_draws_30 rfl ?_
    refine zj_callV (M' := mX11_draw) (avs := [.int 64]) (st := []) (ci := 11) dX11_draws_32 wm_X11_draw wl_X11_401 wi_X11_draw ws_X11_draw (by decide) (zk_223 hL) rfl rfl (by decide) rfl (Nat.le_of_ble_eq_true rfl) (Nat.le_of_ble_eq_true rfl) ⟨Or.inl (z_k0 (zk_223 hL)), trivial⟩ trivial (z_J.mono h (fun r S1 v1 hq => ?_))
    obtain ⟨y1, rfl, rfl, h⟩ := hq
    refine zj_istore (ls2 := [.ref 223, .int x1, .int x2, .int x3, .int x4, .int x5, .int x6, .int y1]) dX11_draws_35 (by decide) rfl rfl ?_
    refine zj_iload dX11_draws_37 rfl ?_
    refine zj_iconst (x := 3) dX11_draws_39 rfl ?_
    refine zj_iload_n dX11_draws_40 rfl rfl ?_
    refine zj_imul dX11_draws_41 ?_
    refine zj_icmp_lt (tgt := 48) dX11_draws_42 (by decide) (fun c => ?_) (fun c => ?_)
    · replace h := h.1 c
      refine zj_iload dX11_draws_48 rfl ?_
      refine zj_iload_n dX11_draws_50 rfl rfl ?_
      refine zj_icmp_lt (tgt := 62) dX11_draws_51 (by decide) (fun c => ?_) (fun c => ?_)
      · replace h := h.1 c
        refine zj_aload_n dX11_draws_62 rfl rfl ?_
        refine zj_getR (ci := 11) (j := 1) dX11_draws_63 wf_X11_13 (by decide) (by decide) (zk_223 hL) rfl (zr_223_1 hL) ?_
        refine zj_iconst (x := 2) dX11_draws_66 rfl ?_
        refine zj_dup2 dX11_draws_67 rfl rfl ?_
        refine zj_iaload dX11_draws_68 (zk_224 hL) (by rw [(zl_224 hL)]; exact z_vin (by decide)) ?_
        refine zj_iconst (x := 1) dX11_draws_69 rfl ?_
        refine zj_iload dX11_draws_70 rfl ?_
        refine zj_ishl dX11_draws_72 ?_
        refine zj_ixor dX11_draws_73 ?_
        refine zj_iastore dX11_draws_74 (zk_224 hL) (by rw [(zl_224 hL)]; exact z_vin (by decide)) (fun v2 ev2 => ?_)
        replace h := h v2 ev2
        refine zj_iload dX11_draws_75 rfl ?_
        refine zj_iload_n dX11_draws_77 rfl rfl ?_
        refine zj_icmp_lt (tgt := 94) dX11_draws_78 (by decide) (fun c => ?_) (fun c => ?_)
        · replace h := h.1 c
          refine zj_iload dX11_draws_94 rfl ?_
          refine zj_iload dX11_draws_96 rfl ?_
          refine zj_iconst (x := 2) dX11_draws_98 rfl ?_
          refine zj_iload_n dX11_draws_99 rfl rfl ?_
          refine zj_imul dX11_draws_100 ?_
          refine zj_icmp_lt (tgt := 108) dX11_draws_101 (by decide) (fun c => ?_) (fun c => ?_)
          · replace h := h.1 c
            refine zj_iconst (x := 1) dX11_draws_108 rfl ?_
            refine zj_iadd dX11_draws_109 ?_
            refine zj_istore (ls2 := [.ref 223, .int x1, .int x2, .int x3, .int (x4 + 1), .int x5, .int x6, .int y1]) dX11_draws_110 (by decide) rfl rfl ?_
            refine zj_iinc (y := x6 + 1) (ls2 := [.ref 223, .int x1, .int x2, .int x3, .int (x4 + 1), .int x5, .int (x6 + 1), .int y1]) dX11_draws_112 rfl rfl (by decide) rfl rfl ?_
            refine zj_goto (tgt := 20) dX11_draws_115 (by decide) ?_
            refine zj_forget (ls2 := [.ref 223, .int x1, .int x2, .int x3, .int (x4 + 1), .int x5, .int (x6 + 1), .null]) ⟨Or.inr rfl, Or.inr rfl, Or.inr rfl, Or.inr rfl, Or.inr rfl, Or.inr rfl, Or.inr rfl, Or.inl rfl, trivial⟩ ?_
            exact h
          · replace h := h.2 c
            refine zj_iconst (x := 2) dX11_draws_104 rfl ?_
            refine zj_goto (tgt := 109) dX11_draws_105 (by decide) ?_
            refine zj_iadd dX11_draws_109 ?_
            refine zj_istore (ls2 := [.ref 223, .int x1, .int x2, .int x3, .int (x4 + 2), .int x5, .int x6, .int y1]) dX11_draws_110 (by decide) rfl rfl ?_
            refine zj_iinc (y := x6 + 1) (ls2 := [.ref 223, .int x1, .int x2, .int x3, .int (x4 + 2), .int x5, .int (x6 + 1), .int y1]) dX11_draws_112 rfl rfl (by decide) rfl rfl ?_
            refine zj_goto (tgt := 20) dX11_draws_115 (by decide) ?_
            refine zj_forget (ls2 := [.ref 223, .int x1, .int x2, .int x3, .int (x4 + 2), .int x5, .int (x6 + 1), .null]) ⟨Or.inr rfl, Or.inr rfl, Or.inr rfl, Or.inr rfl, Or.inr rfl, Or.inr rfl, Or.inr rfl, Or.inl rfl, trivial⟩ ?_
            exact h
        · replace h := h.2 c
          refine zj_aload_n dX11_draws_81 rfl rfl ?_
          refine zj_getR (ci := 11) (j := 1) dX11_draws_82 wf_X11_13 (by decide) (by decide) (zk_223 hL) rfl (zr_223_1 hL) ?_
          refine zj_iconst (x := 3) dX11_draws_85 rfl ?_
          refine zj_dup2 dX11_draws_86 rfl rfl ?_
          refine zj_iaload dX11_draws_87 (zk_224 hL) (by rw [(zl_224 hL)]; exact z_vin (by decide)) ?_
          refine zj_iconst (x := 1) dX11_draws_88 rfl ?_
          refine zj_iload dX11_draws_89 rfl ?_
          refine zj_ishl dX11_draws_91 ?_
          refine zj_ixor dX11_draws_92 ?_
          refine zj_iastore dX11_draws_93 (zk_224 hL) (by rw [(zl_224 hL)]; exact z_vin (by decide)) (fun v3 ev3 => ?_)
          replace h := h v3 ev3
          refine zj_iload dX11_draws_94 rfl ?_
          refine zj_iload dX11_draws_96 rfl ?_
          refine zj_iconst (x := 2) dX11_draws_98 rfl ?_
          refine zj_iload_n dX11_draws_99 rfl rfl ?_
          refine zj_imul dX11_draws_100 ?_
          refine zj_icmp_lt (tgt := 108) dX11_draws_101 (by decide) (fun c => ?_) (fun c => ?_)
          · replace h := h.1 c
            refine zj_iconst (x := 1) dX11_draws_108 rfl ?_
            refine zj_iadd dX11_draws_109 ?_
            refine zj_istore (ls2 := [.ref 223, .int x1, .int x2, .int x3, .int (x4 + 1), .int x5, .int x6, .int y1]) dX11_draws_110 (by decide) rfl rfl ?_
            refine zj_iinc (y := x6 + 1) (ls2 := [.ref 223, .int x1, .int x2, .int x3, .int (x4 + 1), .int x5, .int (x6 + 1), .int y1]) dX11_draws_112 rfl rfl (by decide) rfl rfl ?_
            refine zj_goto (tgt := 20) dX11_draws_115 (by decide) ?_
            refine zj_forget (ls2 := [.ref 223, .int x1, .int x2, .int x3, .int (x4 + 1), .int x5, .int (x6 + 1), .null]) ⟨Or.inr rfl, Or.inr rfl, Or.inr rfl, Or.inr rfl, Or.inr rfl, Or.inr rfl, Or.inr rfl, Or.inl rfl, trivial⟩ ?_
            exact h
          · replace h := h.2 c
            refine zj_iconst (x := 2) dX11_draws_104 rfl ?_
            refine zj_goto (tgt := 109) dX11_draws_105 (by decide) ?_
            refine zj_iadd dX11_draws_109 ?_
            refine zj_istore (ls2 := [.ref 223, .int x1, .int x2, .int x3, .int (x4 + 2), .int x5, .int x6, .int y1]) dX11_draws_110 (by decide) rfl rfl ?_
            refine zj_iinc (y := x6 + 1) (ls2 := [.ref 223, .int x1, .int x2, .int x3, .int (x4 + 2), .int x5, .int (x6 + 1), .int y1]) dX11_draws_112 rfl rfl (by decide) rfl rfl ?_
            refine zj_goto (tgt := 20) dX11_draws_115 (by decide) ?_
            refine zj_forget (ls2 := [.ref 223, .int x1, .int x2, .int x3, .int (x4 + 2), .int x5, .int (x6 + 1), .null]) ⟨Or.inr rfl, Or.inr rfl, Or.inr rfl, Or.inr rfl, Or.inr rfl, Or.inr rfl, Or.inr rfl, Or.inl rfl, trivial⟩ ?_
            exact h
      · replace h := h.2 c
        refine zj_iload dX11_draws_54 rfl ?_
        refine zj_iconst (x := 2) dX11_draws_56 rfl ?_
        refine zj_iload_n dX11_draws_57 rfl rfl ?_
        refine zj_imul dX11_draws_58 ?_
        refine zj_icmp_lt (tgt := 75) dX11_draws_59 (by decide) (fun c => ?_) (fun c => ?_)
        · replace h := h.1 c
          refine zj_iload dX11_draws_75 rfl ?_
          refine zj_iload_n dX11_draws_77 rfl rfl ?_
          refine zj_icmp_lt (tgt := 94) dX11_draws_78 (by decide) (fun c => ?_) (fun c => ?_)
          · replace h := h.1 c
            refine zj_iload dX11_draws_94 rfl ?_
            refine zj_iload dX11_draws_96 rfl ?_
            refine zj_iconst (x := 2) dX11_draws_98 rfl ?_
            refine zj_iload_n dX11_draws_99 rfl rfl ?_
            refine zj_imul dX11_draws_100 ?_
            refine zj_icmp_lt (tgt := 108) dX11_draws_101 (by decide) (fun c => ?_) (fun c => ?_)
            · replace h := h.1 c
              refine zj_iconst (x := 1) dX11_draws_108 rfl ?_
              refine zj_iadd dX11_draws_109 ?_
              refine zj_istore (ls2 := [.ref 223, .int x1, .int x2, .int x3, .int (x4 + 1), .int x5, .int x6, .int y1]) dX11_draws_110 (by decide) rfl rfl ?_
              refine zj_iinc (y := x6 + 1) (ls2 := [.ref 223, .int x1, .int x2, .int x3, .int (x4 + 1), .int x5, .int (x6 + 1), .int y1]) dX11_draws_112 rfl rfl (by decide) rfl rfl ?_
              refine zj_goto (tgt := 20) dX11_draws_115 (by decide) ?_
              refine zj_forget (ls2 := [.ref 223, .int x1, .int x2, .int x3, .int (x4 + 1), .int x5, .int (x6 + 1), .null]) ⟨Or.inr rfl, Or.inr rfl, Or.inr rfl, Or.inr rfl, Or.inr rfl, Or.inr rfl, Or.inr rfl, Or.inl rfl, trivial⟩ ?_
              exact h
            · replace h := h.2 c
              refine zj_iconst (x := 2) dX11_draws_104 rfl ?_
              refine zj_goto (tgt := 109) dX11_draws_105 (by decide) ?_
              refine zj_iadd dX11_draws_109 ?_
              refine zj_istore (ls2 := [.ref 223, .int x1, .int x2, .int x3, .int (x4 + 2), .int x5, .int x6, .int y1]) dX11_draws_110 (by decide) rfl rfl ?_
              refine zj_iinc (y := x6 + 1) (ls2 := [.ref 223, .int x1, .int x2, .int x3, .int (x4 + 2), .int x5, .int (x6 + 1), .int y1]) dX11_draws_112 rfl rfl (by decide) rfl rfl ?_
              refine zj_goto (tgt := 20) dX11_draws_115 (by decide) ?_
              refine zj_forget (ls2 := [.ref 223, .int x1, .int x2, .int x3, .int (x4 + 2), .int x5, .int (x6 + 1), .null]) ⟨Or.inr rfl, Or.inr rfl, Or.inr rfl, Or.inr rfl, Or.inr rfl, Or.inr rfl, Or.inr rfl, Or.inl rfl, trivial⟩ ?_
              exact h
          · replace h := h.2 c
            refine zj_aload_n dX11_draws_81 rfl rfl ?_
            refine zj_getR (ci := 11) (j := 1) dX11_draws_82 wf_X11_13 (by decide) (by decide) (zk_223 hL) rfl (zr_223_1 hL) ?_
            refine zj_iconst (x := 3) dX11_draws_85 rfl ?_
            refine zj_dup2 dX11_draws_86 rfl rfl ?_
            refine zj_iaload dX11_draws_87 (zk_224 hL) (by rw [(zl_224 hL)]; exact z_vin (by decide)) ?_
            refine zj_iconst (x := 1) dX11_draws_88 rfl ?_
            refine zj_iload dX11_draws_89 rfl ?_
            refine zj_ishl dX11_draws_91 ?_
            refine zj_ixor dX11_draws_92 ?_
            refine zj_iastore dX11_draws_93 (zk_224 hL) (by rw [(zl_224 hL)]; exact z_vin (by decide)) (fun v4 ev4 => ?_)
            replace h := h v4 ev4
            refine zj_iload dX11_draws_94 rfl ?_
            refine zj_iload dX11_draws_96 rfl ?_
            refine zj_iconst (x := 2) dX11_draws_98 rfl ?_
            refine zj_iload_n dX11_draws_99 rfl rfl ?_
            refine zj_imul dX11_draws_100 ?_
            refine zj_icmp_lt (tgt := 108) dX11_draws_101 (by decide) (fun c => ?_) (fun c => ?_)
            · replace h := h.1 c
              refine zj_iconst (x := 1) dX11_draws_108 rfl ?_
              refine zj_iadd dX11_draws_109 ?_
              refine zj_istore (ls2 := [.ref 223, .int x1, .int x2, .int x3, .int (x4 + 1), .int x5, .int x6, .int y1]) dX11_draws_110 (by decide) rfl rfl ?_
              refine zj_iinc (y := x6 + 1) (ls2 := [.ref 223, .int x1, .int x2, .int x3, .int (x4 + 1), .int x5, .int (x6 + 1), .int y1]) dX11_draws_112 rfl rfl (by decide) rfl rfl ?_
              refine zj_goto (tgt := 20) dX11_draws_115 (by decide) ?_
              refine zj_forget (ls2 := [.ref 223, .int x1, .int x2, .int x3, .int (x4 + 1), .int x5, .int (x6 + 1), .null]) ⟨Or.inr rfl, Or.inr rfl, Or.inr rfl, Or.inr rfl, Or.inr rfl, Or.inr rfl, Or.inr rfl, Or.inl rfl, trivial⟩ ?_
              exact h
            · replace h := h.2 c
              refine zj_iconst (x := 2) dX11_draws_104 rfl ?_
              refine zj_goto (tgt := 109) dX11_draws_105 (by decide) ?_
              refine zj_iadd dX11_draws_109 ?_
              refine zj_istore (ls2 := [.ref 223, .int x1, .int x2, .int x3, .int (x4 + 2), .int x5, .int x6, .int y1]) dX11_draws_110 (by decide) rfl rfl ?_
              refine zj_iinc (y := x6 + 1) (ls2 := [.ref 223, .int x1, .int x2, .int x3, .int (x4 + 2), .int x5, .int (x6 + 1), .int y1]) dX11_draws_112 rfl rfl (by decide) rfl rfl ?_
              refine zj_goto (tgt := 20) dX11_draws_115 (by decide) ?_
              refine zj_forget (ls2 := [.ref 223, .int x1, .int x2, .int x3, .int (x4 + 2), .int x5, .int (x6 + 1), .null]) ⟨Or.inr rfl, Or.inr rfl, Or.inr rfl, Or.inr rfl, Or.inr rfl, Or.inr rfl, Or.inr rfl, Or.inl rfl, trivial⟩ ?_
              exact h
        · replace h := h.2 c
          refine zj_aload_n dX11_draws_62 rfl rfl ?_
          refine zj_getR (ci := 11) (j := 1) dX11_draws_63 wf_X11_13 (by decide) (by decide) (zk_223 hL) rfl (zr_223_1 hL) ?_
          refine zj_iconst (x := 2) dX11_draws_66 rfl ?_
          refine zj_dup2 dX11_draws_67 rfl rfl ?_
          refine zj_iaload dX11_draws_68 (zk_224 hL) (by rw [(zl_224 hL)]; exact z_vin (by decide)) ?_
          refine zj_iconst (x := 1) dX11_draws_69 rfl ?_
          refine zj_iload dX11_draws_70 rfl ?_
          refine zj_ishl dX11_draws_72 ?_
          refine zj_ixor dX11_draws_73 ?_
          refine zj_iastore dX11_draws_74 (zk_224 hL) (by rw [(zl_224 hL)]; exact z_vin (by decide)) (fun v5 ev5 => ?_)
          replace h := h v5 ev5
          refine zj_iload dX11_draws_75 rfl ?_
          refine zj_iload_n dX11_draws_77 rfl rfl ?_
          refine zj_icmp_lt (tgt := 94) dX11_draws_78 (by decide) (fun c => ?_) (fun c => ?_)
          · replace h := h.1 c
            refine zj_iload dX11_draws_94 rfl ?_
            refine zj_iload dX11_draws_96 rfl ?_
            refine zj_iconst (x := 2) dX11_draws_98 rfl ?_
            refine zj_iload_n dX11_draws_99 rfl rfl ?_
            refine zj_imul dX11_draws_100 ?_
            refine zj_icmp_lt (tgt := 108) dX11_draws_101 (by decide) (fun c => ?_) (fun c => ?_)
            · replace h := h.1 c
              refine zj_iconst (x := 1) dX11_draws_108 rfl ?_
              refine zj_iadd dX11_draws_109 ?_
              refine zj_istore (ls2 := [.ref 223, .int x1, .int x2, .int x3, .int (x4 + 1), .int x5, .int x6, .int y1]) dX11_draws_110 (by decide) rfl rfl ?_
              refine zj_iinc (y := x6 + 1) (ls2 := [.ref 223, .int x1, .int x2, .int x3, .int (x4 + 1), .int x5, .int (x6 + 1), .int y1]) dX11_draws_112 rfl rfl (by decide) rfl rfl ?_
              refine zj_goto (tgt := 20) dX11_draws_115 (by decide) ?_
              refine zj_forget (ls2 := [.ref 223, .int x1, .int x2, .int x3, .int (x4 + 1), .int x5, .int (x6 + 1), .null]) ⟨Or.inr rfl, Or.inr rfl, Or.inr rfl, Or.inr rfl, Or.inr rfl, Or.inr rfl, Or.inr rfl, Or.inl rfl, trivial⟩ ?_
              exact h
            · replace h := h.2 c
              refine zj_iconst (x := 2) dX11_draws_104 rfl ?_
              refine zj_goto (tgt := 109) dX11_draws_105 (by decide) ?_
              refine zj_iadd dX11_draws_109 ?_
              refine zj_istore (ls2 := [.ref 223, .int x1, .int x2, .int x3, .int (x4 + 2), .int x5, .int x6, .int y1]) dX11_draws_110 (by decide) rfl rfl ?_
              refine zj_iinc (y := x6 + 1) (ls2 := [.ref 223, .int x1, .int x2, .int x3, .int (x4 + 2), .int x5, .int (x6 + 1), .int y1]) dX11_draws_112 rfl rfl (by decide) rfl rfl ?_
              refine zj_goto (tgt := 20) dX11_draws_115 (by decide) ?_
              refine zj_forget (ls2 := [.ref 223, .int x1, .int x2, .int x3, .int (x4 + 2), .int x5, .int (x6 + 1), .null]) ⟨Or.inr rfl, Or.inr rfl, Or.inr rfl, Or.inr rfl, Or.inr rfl, Or.inr rfl, Or.inr rfl, Or.inl rfl, trivial⟩ ?_
              exact h
          · replace h := h.2 c
            refine zj_aload_n dX11_draws_81 rfl rfl ?_
            refine zj_getR (ci := 11) (j := 1) dX11_draws_82 wf_X11_13 (by decide) (by decide) (zk_223 hL) rfl (zr_223_1 hL) ?_
            refine zj_iconst (x := 3) dX11_draws_85 rfl ?_
            refine zj_dup2 dX11_draws_86 rfl rfl ?_
            refine zj_iaload dX11_draws_87 (zk_224 hL) (by rw [(zl_224 hL)]; exact z_vin (by decide)) ?_
            refine zj_iconst (x := 1) dX11_draws_88 rfl ?_
            refine zj_iload dX11_draws_89 rfl ?_
            refine zj_ishl dX11_draws_91 ?_
            refine zj_ixor dX11_draws_92 ?_
            refine zj_iastore dX11_draws_93 (zk_224 hL) (by rw [(zl_224 hL)]; exact z_vin (by decide)) (fun v6 ev6 => ?_)
            replace h := h v6 ev6
            refine zj_iload dX11_draws_94 rfl ?_
            refine zj_iload dX11_draws_96 rfl ?_
            refine zj_iconst (x := 2) dX11_draws_98 rfl ?_
            refine zj_iload_n dX11_draws_99 rfl rfl ?_
            refine zj_imul dX11_draws_100 ?_
            refine zj_icmp_lt (tgt := 108) dX11_draws_101 (by decide) (fun c => ?_) (fun c => ?_)
            · replace h := h.1 c
              refine zj_iconst (x := 1) dX11_draws_108 rfl ?_
              refine zj_iadd dX11_draws_109 ?_
              refine zj_istore (ls2 := [.ref 223, .int x1, .int x2, .int x3, .int (x4 + 1), .int x5, .int x6, .int y1]) dX11_draws_110 (by decide) rfl rfl ?_
              refine zj_iinc (y := x6 + 1) (ls2 := [.ref 223, .int x1, .int x2, .int x3, .int (x4 + 1), .int x5, .int (x6 + 1), .int y1]) dX11_draws_112 rfl rfl (by decide) rfl rfl ?_
              refine zj_goto (tgt := 20) dX11_draws_115 (by decide) ?_
              refine zj_forget (ls2 := [.ref 223, .int x1, .int x2, .int x3, .int (x4 + 1), .int x5, .int (x6 + 1), .null]) ⟨Or.inr rfl, Or.inr rfl, Or.inr rfl, Or.inr rfl, Or.inr rfl, Or.inr rfl, Or.inr rfl, Or.inl rfl, trivial⟩ ?_
              exact h
            · replace h := h.2 c
              refine zj_iconst (x := 2) dX11_draws_104 rfl ?_
              refine zj_goto (tgt := 109) dX11_draws_105 (by decide) ?_
              refine zj_iadd dX11_draws_109 ?_
              refine zj_istore (ls2 := [.ref 223, .int x1, .int x2, .int x3, .int (x4 + 2), .int x5, .int x6, .int y1]) dX11_draws_110 (by decide) rfl rfl ?_
              refine zj_iinc (y := x6 + 1) (ls2 := [.ref 223, .int x1, .int x2, .int x3, .int (x4 + 2), .int x5, .int (x6 + 1), .int y1]) dX11_draws_112 rfl rfl (by decide) rfl rfl ?_
              refine zj_goto (tgt := 20) dX11_draws_115 (by decide) ?_
              refine zj_forget (ls2 := [.ref 223, .int x1, .int x2, .int x3, .int (x4 + 2), .int x5, .int (x6 + 1), .null]) ⟨Or.inr rfl, Or.inr rfl, Or.inr rfl, Or.inr rfl, Or.inr rfl, Or.inr rfl, Or.inr rfl, Or.inl rfl, trivial⟩ ?_
              exact h
    · replace h := h.2 c
      refine zj_goto (tgt := 112) dX11_draws_45 (by decide) ?_
      refine zj_iinc (y := x6 + 1) (ls2 := [.ref 223, .int x1, .int x2, .int x3, .int x4, .int x5, .int (x6 + 1), .int y1]) dX11_draws_112 rfl rfl (by decide) rfl rfl ?_
      refine zj_goto (tgt := 20) dX11_draws_115 (by decide) ?_
      refine zj_forget (ls2 := [.ref 223, .int x1, .int x2, .int x3, .int x4, .int x5, .int (x6 + 1), .null]) ⟨Or.inr rfl, Or.inr rfl, Or.inr rfl, Or.inr rfl, Or.inr rfl, Or.inr rfl, Or.inr rfl, Or.inl rfl, trivial⟩ ?_
      exact h
theorem sg_X11_draws_121 {G : z_G} {d : Nat} {S : z_Shp} {v : z_Dat} {Q : Option Value → z_Shp → z_Dat → Prop} {x1 : Int32} {x2 : Int32} {x3 : Int32} {x4 : Int32} {x5 : Int32} {x6 : Int32} (hL : z_L S)
    (h : (2 ≤ x6 → (z_J G d mX11_round (0, [.ref 223, .null], [], S, v) (fun r S1 v1 => r = none ∧ S1 = S ∧ (z_J G (d + 1) mX11_draws (11, [.ref 223, .int x1, .int x2, .int x3, .int x4, .int (x5 + 1), .null, .null], [], S, v1) Q)))) ∧ (¬ 2 ≤ x6 → (z_J G (d + 1) mX11_draws (130, [.ref 223, .int x1, .int x2, .int x3, .int x4, .int x5, .int x6, .int 0], [], S, v) Q))) :
    z_J G (d + 1) mX11_draws (121, [.ref 223, .int x1, .int x2, .int x3, .int x4, .int x5, .int x6, .null], [], S, v) Q := by
  refine zj_iload dX11_draws_121 rfl ?_
  refine zj_iconst (x := 2) dX11_draws_123 rfl ?_
  refine zj_icmp_ge (tgt := 177) dX11_draws_124 (by decide) (fun c => ?_) (fun c => ?_)
  · replace h := h.1 c
    refine zj_aload_n dX11_draws_177 rfl rfl ?_
    refine zj_callV (M' := mX11_round) (avs := []) (st := []) (ci := 11) dX11_draws_178 wm_X11_round wl_X11_233 wi_X11_round ws_X11_round (by decide) (zk_223 hL) rfl rfl (by decide) rfl (Nat.le_of_ble_eq_true rfl) (Nat.le_of_ble_eq_true rfl) ⟨Or.inl (z_k0 (zk_223 hL)), trivial⟩ trivial (z_J.mono h (fun r S1 v1 hq => ?_))
    obtain ⟨rfl, rfl, h⟩ := hq
    refine zj_iinc (y := x5 + 1) (ls2 := [.ref 223, .int x1, .int x2, .int x3, .int x4, .int (x5 + 1), .int x6, .null]) dX11_draws_181 rfl rfl (by decide) rfl rfl ?_
    refine zj_goto (tgt := 11) dX11_draws_184 (by decide) ?_
    refine zj_forget (ls2 := [.ref 223, .int x1, .int x2, .int x3, .int x4, .int (x5 + 1), .null, .null]) ⟨Or.inr rfl, Or.inr rfl, Or.inr rfl, Or.inr rfl, Or.inr rfl, Or.inr rfl, Or.inl rfl, Or.inr rfl, trivial⟩ ?_
    exact h
  · replace h := h.2 c
    refine zj_iconst (x := 0) dX11_draws_127 rfl ?_
    refine zj_istore (ls2 := [.ref 223, .int x1, .int x2, .int x3, .int x4, .int x5, .int x6, .int 0]) dX11_draws_128 (by decide) rfl rfl ?_
    exact h
theorem sg_X11_draws_130 {G : z_G} {d : Nat} {S : z_Shp} {v : z_Dat} {Q : Option Value → z_Shp → z_Dat → Prop} {x1 : Int32} {x2 : Int32} {x3 : Int32} {x4 : Int32} {x5 : Int32} {x6 : Int32} {x7 : Int32} (hL : z_L S)
    (h : ((v 223 14) ≤ x7 → (z_J G (d + 1) mX11_draws (121, [.ref 223, .int x1, .int x2, .int x3, .int x4, .int x5, .int (x6 + 1), .null], [], S, v) Q)) ∧ (¬ (v 223 14) ≤ x7 → (z_J G d mX11_draw (0, [.ref 223, .int 64], [], S, v) (fun r S1 v1 => ∃ y1 : Int32, r = some (.int y1) ∧ S1 = S ∧ ((x2 ≤ y1 → (z_J G (d + 1) mX11_draws (130, [.ref 223, .int x1, .int x2, .int x3, .int x4, .int x5, .int x6, .int (x7 + 1)], [], S, v1) Q)) ∧ (¬ x2 ≤ y1 → ((vp_in ((4 : Int32) + x6) 71) ∧ (vp_in ((4 : Int32) + x6) 71 ∧ (∀ v2, v2 = z_u v1 224 ((4 : Int32) + x6).toNatClampNeg ((v1 224 ((4 : Int32) + x6).toNatClampNeg) ^^^ ((1 : Int32) <<< (x7 &&& 31))) → (z_J G (d + 1) mX11_draws (130, [.ref 223, .int x1, .int x2, .int x3, .int x4, .int x5, .int x6, .int (x7 + 1)], [], S, v2) Q)))))))))) :
    z_J G (d + 1) mX11_draws (130, [.ref 223, .int x1, .int x2, .int x3, .int x4, .int x5, .int x6, .int x7], [], S, v) Q := by
  refine zj_iload dX11_draws_130 rfl ?_
  refine zj_aload_n dX11_draws_132 rfl rfl ?_
  refine zj_getI (ci := 11) (j := 14) dX11_draws_133 wf_X11_151 (by decide) (by decide) (zk_223 hL) rfl ?_
  refine zj_icmp_ge (tgt := 171) dX11_draws_136 (by decide) (fun c => ?_) (fun c => ?_)
  · replace h := h.1 c
    refine zj_iinc (y := x6 + 1) (ls2 := [.ref 223, .int x1, .int x2, .int x3, .int x4, .int x5, .int (x6 + 1), .int x7]) dX11_draws_171 rfl rfl (by decide) rfl rfl ?_
    refine zj_goto (tgt := 121) dX11_draws_174 (by decide) ?_
    refine zj_forget (ls2 := [.ref 223, .int x1, .int x2, .int x3, .int x4, .int x5, .int (x6 + 1), .null]) ⟨Or.inr rfl, Or.inr rfl, Or.inr rfl, Or.inr rfl, Or.inr rfl, Or.inr rfl, Or.inr rfl, Or.inl rfl, trivial⟩ ?_
    exact h
  · replace h := h.2 c
    refine zj_aload_n dX11_draws_139 rfl rfl ?_
    refine zj_bipush (x := 64) dX11_draws_140 rfl ?_
    refine zj_callV (M' := mX11_draw) (avs := [.int 64]) (st := []) (ci := 11) dX11_draws_142 wm_X11_draw wl_X11_401 wi_X11_draw ws_X11_draw (by decide) (zk_223 hL) rfl rfl (by decide) rfl (Nat.le_of_ble_eq_true rfl) (Nat.le_of_ble_eq_true rfl) ⟨Or.inl (z_k0 (zk_223 hL)), trivial⟩ trivial (z_J.mono h (fun r S1 v1 hq => ?_))
    obtain ⟨y1, rfl, rfl, h⟩ := hq
    refine zj_iload_n dX11_draws_145 rfl rfl ?_
    refine zj_icmp_ge (tgt := 165) dX11_draws_146 (by decide) (fun c => ?_) (fun c => ?_)
    · replace h := h.1 c
      refine zj_iinc (y := x7 + 1) (ls2 := [.ref 223, .int x1, .int x2, .int x3, .int x4, .int x5, .int x6, .int (x7 + 1)]) dX11_draws_165 rfl rfl (by decide) rfl rfl ?_
      refine zj_goto (tgt := 130) dX11_draws_168 (by decide) ?_
      exact h
    · replace h := h.2 c
      refine zj_aload_n dX11_draws_149 rfl rfl ?_
      refine zj_getR (ci := 11) (j := 1) dX11_draws_150 wf_X11_13 (by decide) (by decide) (zk_223 hL) rfl (zr_223_1 hL) ?_
      refine zj_iconst (x := 4) dX11_draws_153 rfl ?_
      refine zj_iload dX11_draws_154 rfl ?_
      refine zj_iadd dX11_draws_156 ?_
      refine zj_dup2 dX11_draws_157 rfl rfl ?_
      refine zj_iaload dX11_draws_158 (zk_224 hL) (by rw [(zl_224 hL)]; exact h.1) ?_
      replace h := h.2
      refine zj_iconst (x := 1) dX11_draws_159 rfl ?_
      refine zj_iload dX11_draws_160 rfl ?_
      refine zj_ishl dX11_draws_162 ?_
      refine zj_ixor dX11_draws_163 ?_
      refine zj_iastore dX11_draws_164 (zk_224 hL) (by rw [(zl_224 hL)]; exact h.1) (fun v2 ev2 => ?_)
      replace h := h.2 v2 ev2
      refine zj_iinc (y := x7 + 1) (ls2 := [.ref 223, .int x1, .int x2, .int x3, .int x4, .int x5, .int x6, .int (x7 + 1)]) dX11_draws_165 rfl rfl (by decide) rfl rfl ?_
      refine zj_goto (tgt := 130) dX11_draws_168 (by decide) ?_
      exact h
theorem sg_X11_edge_0 {G : z_G} {d : Nat} {S : z_Shp} {v : z_Dat} {Q : Option Value → z_Shp → z_Dat → Prop} {x1 : Int32} {x2 : Int32} {x3 : Int32} (hL : z_L S)
    (h : ((x1 = 0 ∨ x1 = 1) → (((0 ≤ x3 ∧ x3 ≤ 2) → (z_J G d mX11_laysNet (0, [.ref 223, .int x1, .null, .null, .null, .null, .null, .null], [], S, v) (fun r S1 v1 => r = none ∧ S1 = S ∧ (((0 ≤ x2 ∧ x2 ≤ ((v1 223 31) - 1)) → (z_J G d mX11_throwsIf (0, [.ref 223, .int 0], [], S, v1) (fun r S1 v2 => ∃ y1 : Int32, r = some (.int y1) ∧ S1 = S ∧ ((y1 = 0 → ((¬ x3 = 0 → ((¬ x3 = 2 → ((vp_in x2 321) ∧ ((¬ (v2 239 x2.toNatClampNeg) = (v2 223 32) → ((vp_in x2 321) ∧ (Q (some (.int (v2 239 x2.toNatClampNeg))) S v2))) ∧ ((v2 239 x2.toNatClampNeg) = (v2 223 32) → (Q (some (.int (-1))) S v2))))) ∧ (x3 = 2 → ((vp_in x2 321) ∧ (Q (some (.int (v2 240 x2.toNatClampNeg))) S v2))))) ∧ (x3 = 0 → ((vp_in x2 321) ∧ (Q (some (.int (v2 238 x2.toNatClampNeg))) S v2))))) ∧ (¬ y1 = 0 → (Q (some (.int 0)) S v2)))))) ∧ (¬ (0 ≤ x2 ∧ x2 ≤ ((v1 223 31) - 1)) → (z_J G d mX11_throwsIf (0, [.ref 223, .int 1], [], S, v1) (fun r S1 v3 => ∃ y2 : Int32, r = some (.int y2) ∧ S1 = S ∧ ((y2 = 0 → ((¬ x3 = 0 → ((¬ x3 = 2 → ((vp_in x2 321) ∧ ((¬ (v3 239 x2.toNatClampNeg) = (v3 223 32) → ((vp_in x2 321) ∧ (Q (some (.int (v3 239 x2.toNatClampNeg))) S v3))) ∧ ((v3 239 x2.toNatClampNeg) = (v3 223 32) → (Q (some (.int (-1))) S v3))))) ∧ (x3 = 2 → ((vp_in x2 321) ∧ (Q (some (.int (v3 240 x2.toNatClampNeg))) S v3))))) ∧ (x3 = 0 → ((vp_in x2 321) ∧ (Q (some (.int (v3 238 x2.toNatClampNeg))) S v3))))) ∧ (¬ y2 = 0 → (Q (some (.int 0)) S v3)))))))))) ∧ (¬ (0 ≤ x3 ∧ x3 ≤ 2) → (z_J G d mX11_throwsIf (0, [.ref 223, .int 1], [], S, v) (fun r S1 v4 => ∃ y3 : Int32, r = some (.int y3) ∧ S1 = S ∧ ((y3 = 0 → ((¬ x3 = 0 → ((¬ x3 = 2 → ((vp_in x2 321) ∧ ((¬ (v4 239 x2.toNatClampNeg) = (v4 223 32) → ((vp_in x2 321) ∧ (Q (some (.int (v4 239 x2.toNatClampNeg))) S v4))) ∧ ((v4 239 x2.toNatClampNeg) = (v4 223 32) → (Q (some (.int (-1))) S v4))))) ∧ (x3 = 2 → ((vp_in x2 321) ∧ (Q (some (.int (v4 240 x2.toNatClampNeg))) S v4))))) ∧ (x3 = 0 → ((vp_in x2 321) ∧ (Q (some (.int (v4 238 x2.toNatClampNeg))) S v4))))) ∧ (¬ y3 = 0 → (Q (some (.int 0)) S v4)))))))) ∧ (¬ (x1 = 0 ∨ x1 = 1) → (z_J G d mX11_throwsIf (0, [.ref 223, .int 1], [], S, v) (fun r S1 v5 => ∃ y4 : Int32, r = some (.int y4) ∧ S1 = S ∧ ((y4 = 0 → ((¬ x3 = 0 → ((¬ x3 = 2 → ((vp_in x2 321) ∧ ((¬ (v5 239 x2.toNatClampNeg) = (v5 223 32) → ((vp_in x2 321) ∧ (Q (some (.int (v5 239 x2.toNatClampNeg))) S v5))) ∧ ((v5 239 x2.toNatClampNeg) = (v5 223 32) → (Q (some (.int (-1))) S v5))))) ∧ (x3 = 2 → ((vp_in x2 321) ∧ (Q (some (.int (v5 240 x2.toNatClampNeg))) S v5))))) ∧ (x3 = 0 → ((vp_in x2 321) ∧ (Q (some (.int (v5 238 x2.toNatClampNeg))) S v5))))) ∧ (¬ y4 = 0 → (Q (some (.int 0)) S v5))))))) :
    z_J G (d + 1) mX11_edge (0, [.ref 223, .int x1, .int x2, .int x3, .null], [], S, v) Q := by
  refine zj_iload_n dX11_edge_0 rfl rfl ?_
  refine zj_callS (M' := mX11_isKind) (avs := [.int x1]) (st := []) dX11_edge_1 wm_X11_isKind wl_X11_165 wt_X11_isKind rfl (by decide) rfl (Nat.le_of_ble_eq_true rfl) (Nat.le_of_ble_eq_true rfl) ⟨Or.inl (z_k0 (zk_223 hL)), trivial⟩ trivial (hp_X11_isKind (fun c => ?_) (fun c => ?_))
  · replace h := h.1 c
    refine zj_if_eq (tgt := 20) dX11_edge_4 (by decide) (fun q => absurd q (by decide)) (fun _ => ?_)
    refine zj_iload_n dX11_edge_7 rfl rfl ?_
    refine zj_iconst (x := 0) dX11_edge_8 rfl ?_
    refine zj_iconst (x := 2) dX11_edge_9 rfl ?_
    refine zj_callS (M' := mX11_isIn) (avs := [.int x3, .int 0, .int 2]) (st := []) dX11_edge_10 wm_X11_isIn wl_X11_144 wt_X11_isIn rfl (by decide) rfl (Nat.le_of_ble_eq_true rfl) (Nat.le_of_ble_eq_true rfl) ⟨Or.inl (z_k0 (zk_223 hL)), trivial⟩ trivial (hp_X11_isIn (fun c => ?_) (fun c => ?_))
    · replace h := h.1 c
      refine zj_if_eq (tgt := 20) dX11_edge_13 (by decide) (fun q => absurd q (by decide)) (fun _ => ?_)
      refine zj_iconst (x := 1) dX11_edge_16 rfl ?_
      refine zj_goto (tgt := 21) dX11_edge_17 (by decide) ?_
      refine zj_istore (ls2 := [.ref 223, .int x1, .int x2, .int x3, .int 1]) dX11_edge_21 (by decide) rfl rfl ?_
      refine zj_iload dX11_edge_23 rfl ?_
      refine zj_if_eq (tgt := 33) dX11_edge_25 (by decide) (fun q => absurd q (by decide)) (fun _ => ?_)
      refine zj_aload_n dX11_edge_28 rfl rfl ?_
      refine zj_iload_n dX11_edge_29 rfl rfl ?_
      refine zj_callV (M' := mX11_laysNet) (avs := [.int x1]) (st := []) (ci := 11) dX11_edge_30 wm_X11_laysNet wl_X11_270 wi_X11_laysNet ws_X11_laysNet (by decide) (zk_223 hL) rfl rfl (by decide) rfl (Nat.le_of_ble_eq_true rfl) (Nat.le_of_ble_eq_true rfl) ⟨Or.inl (z_k0 (zk_223 hL)), trivial⟩ trivial (z_J.mono h (fun r S1 v1 hq => ?_))
      obtain ⟨rfl, rfl, h⟩ := hq
      refine zj_aload_n dX11_edge_33 rfl rfl ?_
      refine zj_iload dX11_edge_34 rfl ?_
      refine zj_if_eq (tgt := 53) dX11_edge_36 (by decide) (fun q => absurd q (by decide)) (fun _ => ?_)
      refine zj_iload_n dX11_edge_39 rfl rfl ?_
      refine zj_iconst (x := 0) dX11_edge_40 rfl ?_
      refine zj_aload_n dX11_edge_41 rfl rfl ?_
      refine zj_getI (ci := 11) (j := 31) dX11_edge_42 wf_X11_251 (by decide) (by decide) (zk_223 hL) rfl ?_
      refine zj_iconst (x := 1) dX11_edge_45 rfl ?_
      refine zj_isub dX11_edge_46 ?_
      refine zj_callS (M' := mX11_isIn) (avs := [.int x2, .int 0, .int ((v1 223 31) - 1)]) (st := [.ref 223]) dX11_edge_47 wm_X11_isIn wl_X11_144 wt_X11_isIn rfl (by decide) rfl (Nat.le_of_ble_eq_true rfl) (Nat.le_of_ble_eq_true rfl) ⟨Or.inl (z_k0 (zk_223 hL)), trivial⟩ ⟨Or.inl (z_k0 (zk_223 hL)), trivial⟩ (hp_X11_isIn (fun c => ?_) (fun c => ?_))
      · replace h := h.1 c
        refine zj_if_ne (tgt := 57) dX11_edge_50 (by decide) (fun _ => ?_) (fun q => absurd q (by decide))
        refine zj_iconst (x := 0) dX11_edge_57 rfl ?_
        refine zj_callV (M' := mX11_throwsIf) (avs := [.int 0]) (st := []) (ci := 11) dX11_edge_58 wm_X11_throwsIf wl_X11_285 wi_X11_throwsIf ws_X11_throwsIf (by decide) (zk_223 hL) rfl rfl (by decide) rfl (Nat.le_of_ble_eq_true rfl) (Nat.le_of_ble_eq_true rfl) ⟨Or.inl (z_k0 (zk_223 hL)), trivial⟩ trivial (z_J.mono h (fun r S1 v2 hq => ?_))
        obtain ⟨y1, rfl, rfl, h⟩ := hq
        refine zj_if_eq (tgt := 66) dX11_edge_61 (by decide) (fun c => ?_) (fun c => ?_)
        · replace h := h.1 c
          refine zj_iload_n dX11_edge_66 rfl rfl ?_
          refine zj_if_ne (tgt := 79) dX11_edge_67 (by decide) (fun c => ?_) (fun c => ?_)
          · replace h := h.1 c
            refine zj_iload_n dX11_edge_79 rfl rfl ?_
            refine zj_iconst (x := 2) dX11_edge_80 rfl ?_
            refine zj_icmp_ne (tgt := 93) dX11_edge_81 (by decide) (fun c => ?_) (fun c => ?_)
            · replace h := h.1 c
              refine zj_aload_n dX11_edge_93 rfl rfl ?_
              refine zj_getR (ci := 11) (j := 27) dX11_edge_94 wf_X11_61 (by decide) (by decide) (zk_223 hL) rfl (zr_223_27 hL) ?_
              refine zj_iload_n dX11_edge_97 rfl rfl ?_
              refine zj_iaload dX11_edge_98 (zk_239 hL) (by rw [(zl_239 hL)]; exact h.1) ?_
              replace h := h.2
              refine zj_aload_n dX11_edge_99 rfl rfl ?_
              refine zj_getI (ci := 11) (j := 32) dX11_edge_100 wf_X11_254 (by decide) (by decide) (zk_223 hL) rfl ?_
              refine zj_icmp_ne (tgt := 110) dX11_edge_103 (by decide) (fun c => ?_) (fun c => ?_)
              · replace h := h.1 c
                refine zj_aload_n dX11_edge_110 rfl rfl ?_
                refine zj_getR (ci := 11) (j := 27) dX11_edge_111 wf_X11_61 (by decide) (by decide) (zk_223 hL) rfl (zr_223_27 hL) ?_
                refine zj_iload_n dX11_edge_114 rfl rfl ?_
                refine zj_iaload dX11_edge_115 (zk_239 hL) (by rw [(zl_239 hL)]; exact h.1) ?_
                replace h := h.2
                exact zj_iret dX11_edge_116 rfl rfl h
              · replace h := h.2 c
                refine zj_iconst (x := (-1)) dX11_edge_106 rfl ?_
                refine zj_goto (tgt := 116) dX11_edge_107 (by decide) ?_
                exact zj_iret dX11_edge_116 rfl rfl h
            · replace h := h.2 c
              refine zj_aload_n dX11_edge_84 rfl rfl ?_
              refine zj_getR (ci := 11) (j := 28) dX11_edge_85 wf_X11_64 (by decide) (by decide) (zk_223 hL) rfl (zr_223_28 hL) ?_
              refine zj_iload_n dX11_edge_88 rfl rfl ?_
              refine zj_iaload dX11_edge_89 (zk_240 hL) (by rw [(zl_240 hL)]; exact h.1) ?_
              replace h := h.2
              refine zj_goto (tgt := 116) dX11_edge_90 (by decide) ?_
              exact zj_iret dX11_edge_116 rfl rfl h
          · replace h := h.2 c
            refine zj_aload_n dX11_edge_70 rfl rfl ?_
            refine zj_getR (ci := 11) (j := 26) dX11_edge_71 wf_X11_58 (by decide) (by decide) (zk_223 hL) rfl (zr_223_26 hL) ?_
            refine zj_iload_n dX11_edge_74 rfl rfl ?_
            refine zj_iaload dX11_edge_75 (zk_238 hL) (by rw [(zl_238 hL)]; exact h.1) ?_
            replace h := h.2
            refine zj_goto (tgt := 116) dX11_edge_76 (by decide) ?_
            exact zj_iret dX11_edge_116 rfl rfl h
        · replace h := h.2 c
          refine zj_iconst (x := 0) dX11_edge_64 rfl ?_
          exact zj_iret dX11_edge_65 rfl rfl h
      · replace h := h.2 c
        refine zj_if_ne (tgt := 57) dX11_edge_50 (by decide) (fun q => absurd (by decide) q) (fun _ => ?_)
        refine zj_iconst (x := 1) dX11_edge_53 rfl ?_
        refine zj_goto (tgt := 58) dX11_edge_54 (by decide) ?_
        refine zj_callV (M' := mX11_throwsIf) (avs := [.int 1]) (st := []) (ci := 11) dX11_edge_58 wm_X11_throwsIf wl_X11_285 wi_X11_throwsIf ws_X11_throwsIf (by decide) (zk_223 hL) rfl rfl (by decide) rfl (Nat.le_of_ble_eq_true rfl) (Nat.le_of_ble_eq_true rfl) ⟨Or.inl (z_k0 (zk_223 hL)), trivial⟩ trivial (z_J.mono h (fun r S1 v3 hq => ?_))
        obtain ⟨y2, rfl, rfl, h⟩ := hq
        refine zj_if_eq (tgt := 66) dX11_edge_61 (by decide) (fun c => ?_) (fun c => ?_)
        · replace h := h.1 c
          refine zj_iload_n dX11_edge_66 rfl rfl ?_
          refine zj_if_ne (tgt := 79) dX11_edge_67 (by decide) (fun c => ?_) (fun c => ?_)
          · replace h := h.1 c
            refine zj_iload_n dX11_edge_79 rfl rfl ?_
            refine zj_iconst (x := 2) dX11_edge_80 rfl ?_
            refine zj_icmp_ne (tgt := 93) dX11_edge_81 (by decide) (fun c => ?_) (fun c => ?_)
            · replace h := h.1 c
              refine zj_aload_n dX11_edge_93 rfl rfl ?_
              refine zj_getR (ci := 11) (j := 27) dX11_edge_94 wf_X11_61 (by decide) (by decide) (zk_223 hL) rfl (zr_223_27 hL) ?_
              refine zj_iload_n dX11_edge_97 rfl rfl ?_
              refine zj_iaload dX11_edge_98 (zk_239 hL) (by rw [(zl_239 hL)]; exact h.1) ?_
              replace h := h.2
              refine zj_aload_n dX11_edge_99 rfl rfl ?_
              refine zj_getI (ci := 11) (j := 32) dX11_edge_100 wf_X11_254 (by decide) (by decide) (zk_223 hL) rfl ?_
              refine zj_icmp_ne (tgt := 110) dX11_edge_103 (by decide) (fun c => ?_) (fun c => ?_)
              · replace h := h.1 c
                refine zj_aload_n dX11_edge_110 rfl rfl ?_
                refine zj_getR (ci := 11) (j := 27) dX11_edge_111 wf_X11_61 (by decide) (by decide) (zk_223 hL) rfl (zr_223_27 hL) ?_
                refine zj_iload_n dX11_edge_114 rfl rfl ?_
                refine zj_iaload dX11_edge_115 (zk_239 hL) (by rw [(zl_239 hL)]; exact h.1) ?_
                replace h := h.2
                exact zj_iret dX11_edge_116 rfl rfl h
              · replace h := h.2 c
                refine zj_iconst (x := (-1)) dX11_edge_106 rfl ?_
                refine zj_goto (tgt := 116) dX11_edge_107 (by decide) ?_
                exact zj_iret dX11_edge_116 rfl rfl h
            · replace h := h.2 c
              refine zj_aload_n dX11_edge_84 rfl rfl ?_
              refine zj_getR (ci := 11) (j := 28) dX11_edge_85 wf_X11_64 (by decide) (by decide) (zk_223 hL) rfl (zr_223_28 hL) ?_
              refine zj_iload_n dX11_edge_88 rfl rfl ?_
              refine zj_iaload dX11_edge_89 (zk_240 hL) (by rw [(zl_240 hL)]; exact h.1) ?_
              replace h := h.2
              refine zj_goto (tgt := 116) dX11_edge_90 (by decide) ?_
              exact zj_iret dX11_edge_116 rfl rfl h
          · replace h := h.2 c
            refine zj_aload_n dX11_edge_70 rfl rfl ?_
            refine zj_getR (ci := 11) (j := 26) dX11_edge_71 wf_X11_58 (by decide) (by decide) (zk_223 hL) rfl (zr_223_26 hL) ?_
            refine zj_iload_n dX11_edge_74 rfl rfl ?_
            refine zj_iaload dX11_edge_75 (zk_238 hL) (by rw [(zl_238 hL)]; exact h.1) ?_
            replace h := h.2
            refine zj_goto (tgt := 116) dX11_edge_76 (by decide) ?_
            exact zj_iret dX11_edge_116 rfl rfl h
        · replace h := h.2 c
          refine zj_iconst (x := 0) dX11_edge_64 rfl ?_
          exact zj_iret dX11_edge_65 rfl rfl h
    · replace h := h.2 c
      refine zj_if_eq (tgt := 20) dX11_edge_13 (by decide) (fun _ => ?_) (fun q => absurd (by decide) q)
      refine zj_iconst (x := 0) dX11_edge_20 rfl ?_
      refine zj_istore (ls2 := [.ref 223, .int x1, .int x2, .int x3, .int 0]) dX11_edge_21 (by decide) rfl rfl ?_
      refine zj_iload dX11_edge_23 rfl ?_
      refine zj_if_eq (tgt := 33) dX11_edge_25 (by decide) (fun _ => ?_) (fun q => absurd (by decide) q)
      refine zj_aload_n dX11_edge_33 rfl rfl ?_
      refine zj_iload dX11_edge_34 rfl ?_
      refine zj_if_eq (tgt := 53) dX11_edge_36 (by decide) (fun _ => ?_) (fun q => absurd (by decide) q)
      refine zj_iconst (x := 1) dX11_edge_53 rfl ?_
      refine zj_goto (tgt := 58) dX11_edge_54 (by decide) ?_
      refine zj_callV (M' := mX11_throwsIf) (avs := [.int 1]) (st := []) (ci := 11) dX11_edge_58 wm_X11_throwsIf wl_X11_285 wi_X11_throwsIf ws_X11_throwsIf (by decide) (zk_223 hL) rfl rfl (by decide) rfl (Nat.le_of_ble_eq_true rfl) (Nat.le_of_ble_eq_true rfl) ⟨Or.inl (z_k0 (zk_223 hL)), trivial⟩ trivial (z_J.mono h (fun r S1 v4 hq => ?_))
      obtain ⟨y3, rfl, rfl, h⟩ := hq
      refine zj_if_eq (tgt := 66) dX11_edge_61 (by decide) (fun c => ?_) (fun c => ?_)
      · replace h := h.1 c
        refine zj_iload_n dX11_edge_66 rfl rfl ?_
        refine zj_if_ne (tgt := 79) dX11_edge_67 (by decide) (fun c => ?_) (fun c => ?_)
        · replace h := h.1 c
          refine zj_iload_n dX11_edge_79 rfl rfl ?_
          refine zj_iconst (x := 2) dX11_edge_80 rfl ?_
          refine zj_icmp_ne (tgt := 93) dX11_edge_81 (by decide) (fun c => ?_) (fun c => ?_)
          · replace h := h.1 c
            refine zj_aload_n dX11_edge_93 rfl rfl ?_
            refine zj_getR (ci := 11) (j := 27) dX11_edge_94 wf_X11_61 (by decide) (by decide) (zk_223 hL) rfl (zr_223_27 hL) ?_
            refine zj_iload_n dX11_edge_97 rfl rfl ?_
            refine zj_iaload dX11_edge_98 (zk_239 hL) (by rw [(zl_239 hL)]; exact h.1) ?_
            replace h := h.2
            refine zj_aload_n dX11_edge_99 rfl rfl ?_
            refine zj_getI (ci := 11) (j := 32) dX11_edge_100 wf_X11_254 (by decide) (by decide) (zk_223 hL) rfl ?_
            refine zj_icmp_ne (tgt := 110) dX11_edge_103 (by decide) (fun c => ?_) (fun c => ?_)
            · replace h := h.1 c
              refine zj_aload_n dX11_edge_110 rfl rfl ?_
              refine zj_getR (ci := 11) (j := 27) dX11_edge_111 wf_X11_61 (by decide) (by decide) (zk_223 hL) rfl (zr_223_27 hL) ?_
              refine zj_iload_n dX11_edge_114 rfl rfl ?_
              refine zj_iaload dX11_edge_115 (zk_239 hL) (by rw [(zl_239 hL)]; exact h.1) ?_
              replace h := h.2
              exact zj_iret dX11_edge_116 rfl rfl h
            · replace h := h.2 c
              refine zj_iconst (x := (-1)) dX11_edge_106 rfl ?_
              refine zj_goto (tgt := 116) dX11_edge_107 (by decide) ?_
              exact zj_iret dX11_edge_116 rfl rfl h
          · replace h := h.2 c
            refine zj_aload_n dX11_edge_84 rfl rfl ?_
            refine zj_getR (ci := 11) (j := 28) dX11_edge_85 wf_X11_64 (by decide) (by decide) (zk_223 hL) rfl (zr_223_28 hL) ?_
            refine zj_iload_n dX11_edge_88 rfl rfl ?_
            refine zj_iaload dX11_edge_89 (zk_240 hL) (by rw [(zl_240 hL)]; exact h.1) ?_
            replace h := h.2
            refine zj_goto (tgt := 116) dX11_edge_90 (by decide) ?_
            exact zj_iret dX11_edge_116 rfl rfl h
        · replace h := h.2 c
          refine zj_aload_n dX11_edge_70 rfl rfl ?_
          refine zj_getR (ci := 11) (j := 26) dX11_edge_71 wf_X11_58 (by decide) (by decide) (zk_223 hL) rfl (zr_223_26 hL) ?_
          refine zj_iload_n dX11_edge_74 rfl rfl ?_
          refine zj_iaload dX11_edge_75 (zk_238 hL) (by rw [(zl_238 hL)]; exact h.1) ?_
          replace h := h.2
          refine zj_goto (tgt := 116) dX11_edge_76 (by decide) ?_
          exact zj_iret dX11_edge_116 rfl rfl h
      · replace h := h.2 c
        refine zj_iconst (x := 0) dX11_edge_64 rfl ?_
        exact zj_iret dX11_edge_65 rfl rfl h
  · replace h := h.2 c
    refine zj_if_eq (tgt := 20) dX11_edge_4 (by decide) (fun _ => ?_) (fun q => absurd (by decide) q)
    refine zj_iconst (x := 0) dX11_edge_20 rfl ?_
    refine zj_istore (ls2 := [.ref 223, .int x1, .int x2, .int x3, .int 0]) dX11_edge_21 (by decide) rfl rfl ?_
    refine zj_iload dX11_edge_23 rfl ?_
    refine zj_if_eq (tgt := 33) dX11_edge_25 (by decide) (fun _ => ?_) (fun q => absurd (by decide) q)
    refine zj_aload_n dX11_edge_33 rfl rfl ?_
    refine zj_iload dX11_edge_34 rfl ?_
    refine zj_if_eq (tgt := 53) dX11_edge_36 (by decide) (fun _ => ?_) (fun q => absurd (by decide) q)
    refine zj_iconst (x := 1) dX11_edge_53 rfl ?_
    refine zj_goto (tgt := 58) dX11_edge_54 (by decide) ?_
    refine zj_callV (M' := mX11_throwsIf) (avs := [.int 1]) (st := []) (ci := 11) dX11_edge_58 wm_X11_throwsIf wl_X11_285 wi_X11_throwsIf ws_X11_throwsIf (by decide) (zk_223 hL) rfl rfl (by decide) rfl (Nat.le_of_ble_eq_true rfl) (Nat.le_of_ble_eq_true rfl) ⟨Or.inl (z_k0 (zk_223 hL)), trivial⟩ trivial (z_J.mono h (fun r S1 v5 hq => ?_))
    obtain ⟨y4, rfl, rfl, h⟩ := hq
    refine zj_if_eq (tgt := 66) dX11_edge_61 (by decide) (fun c => ?_) (fun c => ?_)
    · replace h := h.1 c
      refine zj_iload_n dX11_edge_66 rfl rfl ?_
      refine zj_if_ne (tgt := 79) dX11_edge_67 (by decide) (fun c => ?_) (fun c => ?_)
      · replace h := h.1 c
        refine zj_iload_n dX11_edge_79 rfl rfl ?_
        refine zj_iconst (x := 2) dX11_edge_80 rfl ?_
        refine zj_icmp_ne (tgt := 93) dX11_edge_81 (by decide) (fun c => ?_) (fun c => ?_)
        · replace h := h.1 c
          refine zj_aload_n dX11_edge_93 rfl rfl ?_
          refine zj_getR (ci := 11) (j := 27) dX11_edge_94 wf_X11_61 (by decide) (by decide) (zk_223 hL) rfl (zr_223_27 hL) ?_
          refine zj_iload_n dX11_edge_97 rfl rfl ?_
          refine zj_iaload dX11_edge_98 (zk_239 hL) (by rw [(zl_239 hL)]; exact h.1) ?_
          replace h := h.2
          refine zj_aload_n dX11_edge_99 rfl rfl ?_
          refine zj_getI (ci := 11) (j := 32) dX11_edge_100 wf_X11_254 (by decide) (by decide) (zk_223 hL) rfl ?_
          refine zj_icmp_ne (tgt := 110) dX11_edge_103 (by decide) (fun c => ?_) (fun c => ?_)
          · replace h := h.1 c
            refine zj_aload_n dX11_edge_110 rfl rfl ?_
            refine zj_getR (ci := 11) (j := 27) dX11_edge_111 wf_X11_61 (by decide) (by decide) (zk_223 hL) rfl (zr_223_27 hL) ?_
            refine zj_iload_n dX11_edge_114 rfl rfl ?_
            refine zj_iaload dX11_edge_115 (zk_239 hL) (by rw [(zl_239 hL)]; exact h.1) ?_
            replace h := h.2
            exact zj_iret dX11_edge_116 rfl rfl h
          · replace h := h.2 c
            refine zj_iconst (x := (-1)) dX11_edge_106 rfl ?_
            refine zj_goto (tgt := 116) dX11_edge_107 (by decide) ?_
            exact zj_iret dX11_edge_116 rfl rfl h
        · replace h := h.2 c
          refine zj_aload_n dX11_edge_84 rfl rfl ?_
          refine zj_getR (ci := 11) (j := 28) dX11_edge_85 wf_X11_64 (by decide) (by decide) (zk_223 hL) rfl (zr_223_28 hL) ?_
          refine zj_iload_n dX11_edge_88 rfl rfl ?_
          refine zj_iaload dX11_edge_89 (zk_240 hL) (by rw [(zl_240 hL)]; exact h.1) ?_
          replace h := h.2
          refine zj_goto (tgt := 116) dX11_edge_90 (by decide) ?_
          exact zj_iret dX11_edge_116 rfl rfl h
      · replace h := h.2 c
        refine zj_aload_n dX11_edge_70 rfl rfl ?_
        refine zj_getR (ci := 11) (j := 26) dX11_edge_71 wf_X11_58 (by decide) (by decide) (zk_223 hL) rfl (zr_223_26 hL) ?_
        refine zj_iload_n dX11_edge_74 rfl rfl ?_
        refine zj_iaload dX11_edge_75 (zk_238 hL) (by rw [(zl_238 hL)]; exact h.1) ?_
        replace h := h.2
        refine zj_goto (tgt := 116) dX11_edge_76 (by decide) ?_
        exact zj_iret dX11_edge_116 rfl rfl h
    · replace h := h.2 c
      refine zj_iconst (x := 0) dX11_edge_64 rfl ?_
      exact zj_iret dX11_edge_65 rfl rfl h
theorem sg_X11_edges_0 {G : z_G} {d : Nat} {S : z_Shp} {v : z_Dat} {Q : Option Value → z_Shp → z_Dat → Prop} {x1 : Int32} (hL : z_L S)
    (h : ∀ v1, v1 = z_u v 223 0 0 → (((x1 = 0 ∨ x1 = 1) → (z_J G d mX11_laysNet (0, [.ref 223, .int x1, .null, .null, .null, .null, .null, .null], [], S, v1) (fun r S1 v2 => r = none ∧ S1 = S ∧ (Q (some (.int (v2 223 31))) S v2)))) ∧ (¬ (x1 = 0 ∨ x1 = 1) → (Q (some (.int (-1))) S v1)))) :
    z_J G (d + 1) mX11_edges (0, [.ref 223, .int x1], [], S, v) Q := by
  refine zj_aload_n dX11_edges_0 rfl rfl ?_
  refine zj_iconst (x := 0) dX11_edges_1 rfl ?_
  refine zj_putI (ci := 11) (j := 0) dX11_edges_2 wf_X11_1 (by decide) (by decide) (zk_223 hL) rfl rfl rfl rfl (fun v1 ev1 => ?_)
  replace h := h v1 ev1
  refine zj_iload_n dX11_edges_5 rfl rfl ?_
  refine zj_callS (M' := mX11_isKind) (avs := [.int x1]) (st := []) dX11_edges_6 wm_X11_isKind wl_X11_165 wt_X11_isKind rfl (by decide) rfl (Nat.le_of_ble_eq_true rfl) (Nat.le_of_ble_eq_true rfl) ⟨Or.inl (z_k0 (zk_223 hL)), trivial⟩ trivial (hp_X11_isKind (fun c => ?_) (fun c => ?_))
  · replace h := h.1 c
    refine zj_if_ne (tgt := 14) dX11_edges_9 (by decide) (fun _ => ?_) (fun q => absurd q (by decide))
    refine zj_aload_n dX11_edges_14 rfl rfl ?_
    refine zj_iload_n dX11_edges_15 rfl rfl ?_
    refine zj_callV (M' := mX11_laysNet) (avs := [.int x1]) (st := []) (ci := 11) dX11_edges_16 wm_X11_laysNet wl_X11_270 wi_X11_laysNet ws_X11_laysNet (by decide) (zk_223 hL) rfl rfl (by decide) rfl (Nat.le_of_ble_eq_true rfl) (Nat.le_of_ble_eq_true rfl) ⟨Or.inl (z_k0 (zk_223 hL)), trivial⟩ trivial (z_J.mono h (fun r S1 v2 hq => ?_))
    obtain ⟨rfl, rfl, h⟩ := hq
    refine zj_aload_n dX11_edges_19 rfl rfl ?_
    refine zj_getI (ci := 11) (j := 31) dX11_edges_20 wf_X11_251 (by decide) (by decide) (zk_223 hL) rfl ?_
    exact zj_iret dX11_edges_23 rfl rfl h
  · replace h := h.2 c
    refine zj_if_ne (tgt := 14) dX11_edges_9 (by decide) (fun q => absurd (by decide) q) (fun _ => ?_)
    refine zj_iconst (x := (-1)) dX11_edges_12 rfl ?_
    exact zj_iret dX11_edges_13 rfl rfl h
theorem sg_X11_end_0 {G : z_G} {d : Nat} {S : z_Shp} {v : z_Dat} {Q : Option Value → z_Shp → z_Dat → Prop} {x1 : Int32} (hL : z_L S)
    (h : ∀ v1, v1 = z_u v 223 0 0 → ((x1 < 0 → (Q (some (.int 0)) S v1)) ∧ (¬ x1 < 0 → ((x1 ≤ (v1 223 8) → (∀ v2, v2 = z_u v1 223 8 x1 → (Q (some (.int 1)) S v2))) ∧ (¬ x1 ≤ (v1 223 8) → (Q (some (.int 0)) S v1)))))) :
    z_J G d mX11_end (0, [.ref 223, .int x1], [], S, v) Q := by
  refine zj_aload_n dX11_end_0 rfl rfl ?_
  refine zj_iconst (x := 0) dX11_end_1 rfl ?_
  refine zj_putI (ci := 11) (j := 0) dX11_end_2 wf_X11_1 (by decide) (by decide) (zk_223 hL) rfl rfl rfl rfl (fun v1 ev1 => ?_)
  replace h := h v1 ev1
  refine zj_iload_n dX11_end_5 rfl rfl ?_
  refine zj_if_lt (tgt := 17) dX11_end_6 (by decide) (fun c => ?_) (fun c => ?_)
  · replace h := h.1 c
    refine zj_iconst (x := 0) dX11_end_17 rfl ?_
    exact zj_iret dX11_end_18 rfl (by decide) h
  · replace h := h.2 c
    refine zj_iload_n dX11_end_9 rfl rfl ?_
    refine zj_aload_n dX11_end_10 rfl rfl ?_
    refine zj_getI (ci := 11) (j := 8) dX11_end_11 wf_X11_134 (by decide) (by decide) (zk_223 hL) rfl ?_
    refine zj_icmp_le (tgt := 19) dX11_end_14 (by decide) (fun c => ?_) (fun c => ?_)
    · replace h := h.1 c
      refine zj_aload_n dX11_end_19 rfl rfl ?_
      refine zj_iload_n dX11_end_20 rfl rfl ?_
      refine zj_putI (ci := 11) (j := 8) dX11_end_21 wf_X11_134 (by decide) (by decide) (zk_223 hL) rfl rfl rfl rfl (fun v2 ev2 => ?_)
      replace h := h v2 ev2
      refine zj_iconst (x := 1) dX11_end_24 rfl ?_
      exact zj_iret dX11_end_25 rfl (by decide) h
    · replace h := h.2 c
      refine zj_iconst (x := 0) dX11_end_17 rfl ?_
      exact zj_iret dX11_end_18 rfl (by decide) h
theorem sg_X11_event_0 {G : z_G} {d : Nat} {S : z_Shp} {v : z_Dat} {Q : Option Value → z_Shp → z_Dat → Prop} {x1 : Int32} {x2 : Int32} {x3 : Int32} (hL : z_L S)
    (h : ∀ v1, v1 = z_u v 223 0 0 → (((x1 = 0 ∨ x1 = 1) → (((0 ≤ x3 ∧ x3 ≤ 1) → (z_J G d mX11_laysNet (0, [.ref 223, .int x1, .null, .null, .null, .null, .null, .null], [], S, v1) (fun r S1 v2 => r = none ∧ S1 = S ∧ (((0 ≤ x2 ∧ x2 ≤ ((v2 223 33) - 1)) → ((¬ x3 = 0 → ((vp_in x2 108) ∧ ((¬ (v2 223 14) = 0) ∧ (Q (some (.int ((v2 242 x2.toNatClampNeg) / (v2 223 14)))) S v2)))) ∧ (x3 = 0 → ((vp_in x2 108) ∧ ((¬ (v2 223 14) = 0) ∧ (Q (some (.int ((v2 242 x2.toNatClampNeg) - (v2 242 x2.toNatClampNeg) / (v2 223 14) * (v2 223 14)))) S v2)))))) ∧ (¬ (0 ≤ x2 ∧ x2 ≤ ((v2 223 33) - 1)) → (Q (some (.int (-1))) S v2)))))) ∧ (¬ (0 ≤ x3 ∧ x3 ≤ 1) → (Q (some (.int (-1))) S v1)))) ∧ (¬ (x1 = 0 ∨ x1 = 1) → (Q (some (.int (-1))) S v1)))) :
    z_J G (d + 1) mX11_event (0, [.ref 223, .int x1, .int x2, .int x3], [], S, v) Q := by
  refine zj_aload_n dX11_event_0 rfl rfl ?_
  refine zj_iconst (x := 0) dX11_event_1 rfl ?_
  refine zj_putI (ci := 11) (j := 0) dX11_event_2 wf_X11_1 (by decide) (by decide) (zk_223 hL) rfl rfl rfl rfl (fun v1 ev1 => ?_)
  replace h := h v1 ev1
  refine zj_iload_n dX11_event_5 rfl rfl ?_
  refine zj_callS (M' := mX11_isKind) (avs := [.int x1]) (st := []) dX11_event_6 wm_X11_isKind wl_X11_165 wt_X11_isKind rfl (by decide) rfl (Nat.le_of_ble_eq_true rfl) (Nat.le_of_ble_eq_true rfl) ⟨Or.inl (z_k0 (zk_223 hL)), trivial⟩ trivial (hp_X11_isKind (fun c => ?_) (fun c => ?_))
  · replace h := h.1 c
    refine zj_if_eq (tgt := 21) dX11_event_9 (by decide) (fun q => absurd q (by decide)) (fun _ => ?_)
    refine zj_iload_n dX11_event_12 rfl rfl ?_
    refine zj_iconst (x := 0) dX11_event_13 rfl ?_
    refine zj_iconst (x := 1) dX11_event_14 rfl ?_
    refine zj_callS (M' := mX11_isIn) (avs := [.int x3, .int 0, .int 1]) (st := []) dX11_event_15 wm_X11_isIn wl_X11_144 wt_X11_isIn rfl (by decide) rfl (Nat.le_of_ble_eq_true rfl) (Nat.le_of_ble_eq_true rfl) ⟨Or.inl (z_k0 (zk_223 hL)), trivial⟩ trivial (hp_X11_isIn (fun c => ?_) (fun c => ?_))
    · replace h := h.1 c
      refine zj_if_ne (tgt := 23) dX11_event_18 (by decide) (fun _ => ?_) (fun q => absurd q (by decide))
      refine zj_aload_n dX11_event_23 rfl rfl ?_
      refine zj_iload_n dX11_event_24 rfl rfl ?_
      refine zj_callV (M' := mX11_laysNet) (avs := [.int x1]) (st := []) (ci := 11) dX11_event_25 wm_X11_laysNet wl_X11_270 wi_X11_laysNet ws_X11_laysNet (by decide) (zk_223 hL) rfl rfl (by decide) rfl (Nat.le_of_ble_eq_true rfl) (Nat.le_of_ble_eq_true rfl) ⟨Or.inl (z_k0 (zk_223 hL)), trivial⟩ trivial (z_J.mono h (fun r S1 v2 hq => ?_))
      obtain ⟨rfl, rfl, h⟩ := hq
      refine zj_iload_n dX11_event_28 rfl rfl ?_
      refine zj_iconst (x := 0) dX11_event_29 rfl ?_
      refine zj_aload_n dX11_event_30 rfl rfl ?_
      refine zj_getI (ci := 11) (j := 33) dX11_event_31 wf_X11_257 (by decide) (by decide) (zk_223 hL) rfl ?_
      refine zj_iconst (x := 1) dX11_event_34 rfl ?_
      refine zj_isub dX11_event_35 ?_
      refine zj_callS (M' := mX11_isIn) (avs := [.int x2, .int 0, .int ((v2 223 33) - 1)]) (st := []) dX11_event_36 wm_X11_isIn wl_X11_144 wt_X11_isIn rfl (by decide) rfl (Nat.le_of_ble_eq_true rfl) (Nat.le_of_ble_eq_true rfl) ⟨Or.inl (z_k0 (zk_223 hL)), trivial⟩ trivial (hp_X11_isIn (fun c => ?_) (fun c => ?_))
      · replace h := h.1 c
        refine zj_if_ne (tgt := 44) dX11_event_39 (by decide) (fun _ => ?_) (fun q => absurd q (by decide))
        refine zj_iload_n dX11_event_44 rfl rfl ?_
        refine zj_if_ne (tgt := 62) dX11_event_45 (by decide) (fun c => ?_) (fun c => ?_)
        · replace h := h.1 c
          refine zj_aload_n dX11_event_62 rfl rfl ?_
          refine zj_getR (ci := 11) (j := 30) dX11_event_63 wf_X11_70 (by decide) (by decide) (zk_223 hL) rfl (zr_223_30 hL) ?_
          refine zj_iload_n dX11_event_66 rfl rfl ?_
          refine zj_iaload dX11_event_67 (zk_242 hL) (by rw [(zl_242 hL)]; exact h.1) ?_
          replace h := h.2
          refine zj_aload_n dX11_event_68 rfl rfl ?_
          refine zj_getI (ci := 11) (j := 14) dX11_event_69 wf_X11_151 (by decide) (by decide) (zk_223 hL) rfl ?_
          refine zj_idiv dX11_event_72 h.1 ?_
          replace h := h.2
          exact zj_iret dX11_event_73 rfl rfl h
        · replace h := h.2 c
          refine zj_aload_n dX11_event_48 rfl rfl ?_
          refine zj_getR (ci := 11) (j := 30) dX11_event_49 wf_X11_70 (by decide) (by decide) (zk_223 hL) rfl (zr_223_30 hL) ?_
          refine zj_iload_n dX11_event_52 rfl rfl ?_
          refine zj_iaload dX11_event_53 (zk_242 hL) (by rw [(zl_242 hL)]; exact h.1) ?_
          replace h := h.2
          refine zj_aload_n dX11_event_54 rfl rfl ?_
          refine zj_getI (ci := 11) (j := 14) dX11_event_55 wf_X11_151 (by decide) (by decide) (zk_223 hL) rfl ?_
          refine zj_irem dX11_event_58 h.1 ?_
          replace h := h.2
          refine zj_goto (tgt := 73) dX11_event_59 (by decide) ?_
          exact zj_iret dX11_event_73 rfl rfl h
      · replace h := h.2 c
        refine zj_if_ne (tgt := 44) dX11_event_39 (by decide) (fun q => absurd (by decide) q) (fun _ => ?_)
        refine zj_iconst (x := (-1)) dX11_event_42 rfl ?_
        exact zj_iret dX11_event_43 rfl rfl h
    · replace h := h.2 c
      refine zj_if_ne (tgt := 23) dX11_event_18 (by decide) (fun q => absurd (by decide) q) (fun _ => ?_)
      refine zj_iconst (x := (-1)) dX11_event_21 rfl ?_
      exact zj_iret dX11_event_22 rfl rfl h
  · replace h := h.2 c
    refine zj_if_eq (tgt := 21) dX11_event_9 (by decide) (fun _ => ?_) (fun q => absurd (by decide) q)
    refine zj_iconst (x := (-1)) dX11_event_21 rfl ?_
    exact zj_iret dX11_event_22 rfl rfl h
theorem sg_X11_events_0 {G : z_G} {d : Nat} {S : z_Shp} {v : z_Dat} {Q : Option Value → z_Shp → z_Dat → Prop} {x1 : Int32} (hL : z_L S)
    (h : ∀ v1, v1 = z_u v 223 0 0 → (((x1 = 0 ∨ x1 = 1) → (z_J G d mX11_laysNet (0, [.ref 223, .int x1, .null, .null, .null, .null, .null, .null], [], S, v1) (fun r S1 v2 => r = none ∧ S1 = S ∧ (Q (some (.int (v2 223 33))) S v2)))) ∧ (¬ (x1 = 0 ∨ x1 = 1) → (Q (some (.int (-1))) S v1)))) :
    z_J G (d + 1) mX11_events (0, [.ref 223, .int x1], [], S, v) Q := by
  refine zj_aload_n dX11_events_0 rfl rfl ?_
  refine zj_iconst (x := 0) dX11_events_1 rfl ?_
  refine zj_putI (ci := 11) (j := 0) dX11_events_2 wf_X11_1 (by decide) (by decide) (zk_223 hL) rfl rfl rfl rfl (fun v1 ev1 => ?_)
  replace h := h v1 ev1
  refine zj_iload_n dX11_events_5 rfl rfl ?_
  refine zj_callS (M' := mX11_isKind) (avs := [.int x1]) (st := []) dX11_events_6 wm_X11_isKind wl_X11_165 wt_X11_isKind rfl (by decide) rfl (Nat.le_of_ble_eq_true rfl) (Nat.le_of_ble_eq_true rfl) ⟨Or.inl (z_k0 (zk_223 hL)), trivial⟩ trivial (hp_X11_isKind (fun c => ?_) (fun c => ?_))
  · replace h := h.1 c
    refine zj_if_ne (tgt := 14) dX11_events_9 (by decide) (fun _ => ?_) (fun q => absurd q (by decide))
    refine zj_aload_n dX11_events_14 rfl rfl ?_
    refine zj_iload_n dX11_events_15 rfl rfl ?_
    refine zj_callV (M' := mX11_laysNet) (avs := [.int x1]) (st := []) (ci := 11) dX11_events_16 wm_X11_laysNet wl_X11_270 wi_X11_laysNet ws_X11_laysNet (by decide) (zk_223 hL) rfl rfl (by decide) rfl (Nat.le_of_ble_eq_true rfl) (Nat.le_of_ble_eq_true rfl) ⟨Or.inl (z_k0 (zk_223 hL)), trivial⟩ trivial (z_J.mono h (fun r S1 v2 hq => ?_))
    obtain ⟨rfl, rfl, h⟩ := hq
    refine zj_aload_n dX11_events_19 rfl rfl ?_
    refine zj_getI (ci := 11) (j := 33) dX11_events_20 wf_X11_257 (by decide) (by decide) (zk_223 hL) rfl ?_
    exact zj_iret dX11_events_23 rfl rfl h
  · replace h := h.2 c
    refine zj_if_ne (tgt := 14) dX11_events_9 (by decide) (fun q => absurd (by decide) q) (fun _ => ?_)
    refine zj_iconst (x := (-1)) dX11_events_12 rfl ?_
    exact zj_iret dX11_events_13 rfl rfl h
theorem sg_X11_far_0 {G : z_G} {d : Nat} {S : z_Shp} {v : z_Dat} {Q : Option Value → z_Shp → z_Dat → Prop} {x1 : Int32} {x2 : Int32} {x3 : Int32} (hL : z_L S)
    (h : ∀ v1, v1 = z_u v 223 0 0 → (z_J G d mX11_isPair (0, [.ref 223, .int x1, .int x2, .int x3], [], S, v1) (fun r S1 v2 => ∃ y1 : Int32, r = some (.int y1) ∧ S1 = S ∧ ((¬ y1 = 0 → (z_J G d mX11_aims (0, [.ref 223, .int x3], [], S, v2) (fun r S1 v3 => r = none ∧ S1 = S ∧ ((vp_in x2 108) ∧ ((vp_in (v3 242 x2.toNatClampNeg) 109) ∧ (Q (some (.int (v3 241 (v3 242 x2.toNatClampNeg).toNatClampNeg))) S v3)))))) ∧ (y1 = 0 → (Q (some (.int (-1))) S v2)))))) :
    z_J G (d + 1) mX11_far (0, [.ref 223, .int x1, .int x2, .int x3], [], S, v) Q := by
  refine zj_aload_n dX11_far_0 rfl rfl ?_
  refine zj_iconst (x := 0) dX11_far_1 rfl ?_
  refine zj_putI (ci := 11) (j := 0) dX11_far_2 wf_X11_1 (by decide) (by decide) (zk_223 hL) rfl rfl rfl rfl (fun v1 ev1 => ?_)
  replace h := h v1 ev1
  refine zj_aload_n dX11_far_5 rfl rfl ?_
  refine zj_iload_n dX11_far_6 rfl rfl ?_
  refine zj_iload_n dX11_far_7 rfl rfl ?_
  refine zj_iload_n dX11_far_8 rfl rfl ?_
  refine zj_callV (M' := mX11_isPair) (avs := [.int x1, .int x2, .int x3]) (st := []) (ci := 11) dX11_far_9 wm_X11_isPair wl_X11_276 wi_X11_isPair ws_X11_isPair (by decide) (zk_223 hL) rfl rfl (by decide) rfl (Nat.le_of_ble_eq_true rfl) (Nat.le_of_ble_eq_true rfl) ⟨Or.inl (z_k0 (zk_223 hL)), trivial⟩ trivial (z_J.mono h (fun r S1 v2 hq => ?_))
  obtain ⟨y1, rfl, rfl, h⟩ := hq
  refine zj_if_ne (tgt := 17) dX11_far_12 (by decide) (fun c => ?_) (fun c => ?_)
  · replace h := h.1 c
    refine zj_aload_n dX11_far_17 rfl rfl ?_
    refine zj_iload_n dX11_far_18 rfl rfl ?_
    refine zj_callV (M' := mX11_aims) (avs := [.int x3]) (st := []) (ci := 11) dX11_far_19 wm_X11_aims wl_X11_279 wi_X11_aims ws_X11_aims (by decide) (zk_223 hL) rfl rfl (by decide) rfl (Nat.le_of_ble_eq_true rfl) (Nat.le_of_ble_eq_true rfl) ⟨Or.inl (z_k0 (zk_223 hL)), trivial⟩ trivial (z_J.mono h (fun r S1 v3 hq => ?_))
    obtain ⟨rfl, rfl, h⟩ := hq
    refine zj_aload_n dX11_far_22 rfl rfl ?_
    refine zj_getR (ci := 11) (j := 29) dX11_far_23 wf_X11_67 (by decide) (by decide) (zk_223 hL) rfl (zr_223_29 hL) ?_
    refine zj_aload_n dX11_far_26 rfl rfl ?_
    refine zj_getR (ci := 11) (j := 30) dX11_far_27 wf_X11_70 (by decide) (by decide) (zk_223 hL) rfl (zr_223_30 hL) ?_
    refine zj_iload_n dX11_far_30 rfl rfl ?_
    refine zj_iaload dX11_far_31 (zk_242 hL) (by rw [(zl_242 hL)]; exact h.1) ?_
    replace h := h.2
    refine zj_iaload dX11_far_32 (zk_241 hL) (by rw [(zl_241 hL)]; exact h.1) ?_
    replace h := h.2
    exact zj_iret dX11_far_33 rfl rfl h
  · replace h := h.2 c
    refine zj_iconst (x := (-1)) dX11_far_15 rfl ?_
    exact zj_iret dX11_far_16 rfl rfl h
theorem sg_X11_fault_0 {G : z_G} {d : Nat} {S : z_Shp} {v : z_Dat} {Q : Option Value → z_Shp → z_Dat → Prop} (hL : z_L S)
    (h : ∀ v1, v1 = z_u v 223 0 0 → (Q (some (.int (v1 223 20))) S v1)) :
    z_J G d mX11_fault (0, [.ref 223], [], S, v) Q := by
  refine zj_aload_n dX11_fault_0 rfl rfl ?_
  refine zj_iconst (x := 0) dX11_fault_1 rfl ?_
  refine zj_putI (ci := 11) (j := 0) dX11_fault_2 wf_X11_1 (by decide) (by decide) (zk_223 hL) rfl rfl rfl rfl (fun v1 ev1 => ?_)
  replace h := h v1 ev1
  refine zj_aload_n dX11_fault_5 rfl rfl ?_
  refine zj_getI (ci := 11) (j := 20) dX11_fault_6 wf_X11_193 (by decide) (by decide) (zk_223 hL) rfl ?_
  exact zj_iret dX11_fault_9 rfl rfl h
theorem sg_X11_feed_0 {G : z_G} {d : Nat} {S : z_Shp} {v : z_Dat} {Q : Option Value → z_Shp → z_Dat → Prop} {x1 : Int32} {x2 : Int32} {x3 : Int32} {x4 : Int32} {x5 : Int32} (hL : z_L S)
    (h : ∀ v1, v1 = z_u v 223 0 0 → ((((v1 223 8) + 20) ≤ 240 → (z_J G d mX11_four (0, [.ref 223, .int x1, .null], [], S, v1) (fun r S1 v2 => r = none ∧ S1 = S ∧ (z_J G d mX11_four (0, [.ref 223, .int x2, .null], [], S, v2) (fun r S1 v3 => r = none ∧ S1 = S ∧ (z_J G d mX11_four (0, [.ref 223, .int x3, .null], [], S, v3) (fun r S1 v4 => r = none ∧ S1 = S ∧ (z_J G d mX11_four (0, [.ref 223, .int x4, .null], [], S, v4) (fun r S1 v5 => r = none ∧ S1 = S ∧ (z_J G d mX11_four (0, [.ref 223, .int x5, .null], [], S, v5) (fun r S1 v6 => r = none ∧ S1 = S ∧ (Q (some (.int (v6 223 8))) S v6)))))))))))) ∧ (¬ ((v1 223 8) + 20) ≤ 240 → (Q (some (.int (-1))) S v1)))) :
    z_J G (d + 1) mX11_feed (0, [.ref 223, .int x1, .int x2, .int x3, .int x4, .int x5], [], S, v) Q := by
  refine zj_aload_n dX11_feed_0 rfl rfl ?_
  refine zj_iconst (x := 0) dX11_feed_1 rfl ?_
  refine zj_putI (ci := 11) (j := 0) dX11_feed_2 wf_X11_1 (by decide) (by decide) (zk_223 hL) rfl rfl rfl rfl (fun v1 ev1 => ?_)
  replace h := h v1 ev1
  refine zj_aload_n dX11_feed_5 rfl rfl ?_
  refine zj_getI (ci := 11) (j := 8) dX11_feed_6 wf_X11_134 (by decide) (by decide) (zk_223 hL) rfl ?_
  refine zj_bipush (x := 20) dX11_feed_9 rfl ?_
  refine zj_iadd dX11_feed_11 ?_
  refine zj_sipush (x := 240) dX11_feed_12 rfl ?_
  refine zj_icmp_le (tgt := 20) dX11_feed_15 (by decide) (fun c => ?_) (fun c => ?_)
  · replace h := h.1 c
    refine zj_aload_n dX11_feed_20 rfl rfl ?_
    refine zj_iload_n dX11_feed_21 rfl rfl ?_
    refine zj_callV (M' := mX11_four) (avs := [.int x1]) (st := []) (ci := 11) dX11_feed_22 wm_X11_four wl_X11_137 wi_X11_four ws_X11_four (by decide) (zk_223 hL) rfl rfl (by decide) rfl (Nat.le_of_ble_eq_true rfl) (Nat.le_of_ble_eq_true rfl) ⟨Or.inl (z_k0 (zk_223 hL)), trivial⟩ trivial (z_J.mono h (fun r S1 v2 hq => ?_))
    obtain ⟨rfl, rfl, h⟩ := hq
    refine zj_aload_n dX11_feed_25 rfl rfl ?_
    refine zj_iload_n dX11_feed_26 rfl rfl ?_
    refine zj_callV (M' := mX11_four) (avs := [.int x2]) (st := []) (ci := 11) dX11_feed_27 wm_X11_four wl_X11_137 wi_X11_four ws_X11_four (by decide) (zk_223 hL) rfl rfl (by decide) rfl (Nat.le_of_ble_eq_true rfl) (Nat.le_of_ble_eq_true rfl) ⟨Or.inl (z_k0 (zk_223 hL)), trivial⟩ trivial (z_J.mono h (fun r S1 v3 hq => ?_))
    obtain ⟨rfl, rfl, h⟩ := hq
    refine zj_aload_n dX11_feed_30 rfl rfl ?_
    refine zj_iload_n dX11_feed_31 rfl rfl ?_
    refine zj_callV (M' := mX11_four) (avs := [.int x3]) (st := []) (ci := 11) dX11_feed_32 wm_X11_four wl_X11_137 wi_X11_four ws_X11_four (by decide) (zk_223 hL) rfl rfl (by decide) rfl (Nat.le_of_ble_eq_true rfl) (Nat.le_of_ble_eq_true rfl) ⟨Or.inl (z_k0 (zk_223 hL)), trivial⟩ trivial (z_J.mono h (fun r S1 v4 hq => ?_))
    obtain ⟨rfl, rfl, h⟩ := hq
    refine zj_aload_n dX11_feed_35 rfl rfl ?_
    refine zj_iload dX11_feed_36 rfl ?_
    refine zj_callV (M' := mX11_four) (avs := [.int x4]) (st := []) (ci := 11) dX11_feed_38 wm_X11_four wl_X11_137 wi_X11_four ws_X11_four (by decide) (zk_223 hL) rfl rfl (by decide) rfl (Nat.le_of_ble_eq_true rfl) (Nat.le_of_ble_eq_true rfl) ⟨Or.inl (z_k0 (zk_223 hL)), trivial⟩ trivial (z_J.mono h (fun r S1 v5 hq => ?_))
    obtain ⟨rfl, rfl, h⟩ := hq
    refine zj_aload_n dX11_feed_41 rfl rfl ?_
    refine zj_iload dX11_feed_42 rfl ?_
    refine zj_callV (M' := mX11_four) (avs := [.int x5]) (st := []) (ci := 11) dX11_feed_44 wm_X11_four wl_X11_137 wi_X11_four ws_X11_four (by decide) (zk_223 hL) rfl rfl (by decide) rfl (Nat.le_of_ble_eq_true rfl) (Nat.le_of_ble_eq_true rfl) ⟨Or.inl (z_k0 (zk_223 hL)), trivial⟩ trivial (z_J.mono h (fun r S1 v6 hq => ?_))
    obtain ⟨rfl, rfl, h⟩ := hq
    refine zj_aload_n dX11_feed_47 rfl rfl ?_
    refine zj_getI (ci := 11) (j := 8) dX11_feed_48 wf_X11_134 (by decide) (by decide) (zk_223 hL) rfl ?_
    exact zj_iret dX11_feed_51 rfl rfl h
  · replace h := h.2 c
    refine zj_iconst (x := (-1)) dX11_feed_18 rfl ?_
    exact zj_iret dX11_feed_19 rfl rfl h
theorem sg_X11_fewest_0 {G : z_G} {d : Nat} {S : z_Shp} {v : z_Dat} {Q : Option Value → z_Shp → z_Dat → Prop} {x1 : Int32} {x2 : Int32} (hL : z_L S)
    (h : ∀ v1, v1 = z_u v 223 0 0 → (z_J G d mX11_isLike (0, [.ref 223, .int x1, .int x2], [], S, v1) (fun r S1 v2 => ∃ y1 : Int32, r = some (.int y1) ∧ S1 = S ∧ ((¬ y1 = 0 → ((vp_in ((2 : Int32) + x1) 71) ∧ (z_J G d mX11_likes (0, [.ref 223, .int x1, .int (v2 224 ((2 : Int32) + x1).toNatClampNeg), .int 1, .null, .null, .null], [], S, v2) (fun r S1 v3 => r = none ∧ S1 = S ∧ (z_J G (d + 1) mX11_fewest (32, [.ref 223, .int x1, .int x2, .int 0], [], S, v3) Q))))) ∧ (y1 = 0 → (Q (some (.int (-1))) S v2)))))) :
    z_J G (d + 1) mX11_fewest (0, [.ref 223, .int x1, .int x2, .null], [], S, v) Q := by
  refine zj_aload_n dX11_fewest_0 rfl rfl ?_
  refine zj_iconst (x := 0) dX11_fewest_1 rfl ?_
  refine zj_putI (ci := 11) (j := 0) dX11_fewest_2 wf_X11_1 (by decide) (by decide) (zk_223 hL) rfl rfl rfl rfl (fun v1 ev1 => ?_)
  replace h := h v1 ev1
  refine zj_aload_n dX11_fewest_5 rfl rfl ?_
  refine zj_iload_n dX11_fewest_6 rfl rfl ?_
  refine zj_iload_n dX11_fewest_7 rfl rfl ?_
  refine zj_callV (M' := mX11_isLike) (avs := [.int x1, .int x2]) (st := []) (ci := 11) dX11_fewest_8 wm_X11_isLike wl_X11_373 wi_X11_isLike ws_X11_isLike (by decide) (zk_223 hL) rfl rfl (by decide) rfl (Nat.le_of_ble_eq_true rfl) (Nat.le_of_ble_eq_true rfl) ⟨Or.inl (z_k0 (zk_223 hL)), trivial⟩ trivial (z_J.mono h (fun r S1 v2 hq => ?_))
  obtain ⟨y1, rfl, rfl, h⟩ := hq
  refine zj_if_ne (tgt := 16) dX11_fewest_11 (by decide) (fun c => ?_) (fun c => ?_)
  · replace h := h.1 c
    refine zj_aload_n dX11_fewest_16 rfl rfl ?_
    refine zj_iload_n dX11_fewest_17 rfl rfl ?_
    refine zj_aload_n dX11_fewest_18 rfl rfl ?_
    refine zj_getR (ci := 11) (j := 1) dX11_fewest_19 wf_X11_13 (by decide) (by decide) (zk_223 hL) rfl (zr_223_1 hL) ?_
    refine zj_iconst (x := 2) dX11_fewest_22 rfl ?_
    refine zj_iload_n dX11_fewest_23 rfl rfl ?_
    refine zj_iadd dX11_fewest_24 ?_
    refine zj_iaload dX11_fewest_25 (zk_224 hL) (by rw [(zl_224 hL)]; exact h.1) ?_
    replace h := h.2
    refine zj_iconst (x := 1) dX11_fewest_26 rfl ?_
    refine zj_callV (M' := mX11_likes) (avs := [.int x1, .int (v2 224 ((2 : Int32) + x1).toNatClampNeg), .int 1]) (st := []) (ci := 11) dX11_fewest_27 wm_X11_likes wl_X11_376 wi_X11_likes ws_X11_likes (by decide) (zk_223 hL) rfl rfl (by decide) rfl (Nat.le_of_ble_eq_true rfl) (Nat.le_of_ble_eq_true rfl) ⟨Or.inl (z_k0 (zk_223 hL)), trivial⟩ trivial (z_J.mono h (fun r S1 v3 hq => ?_))
    obtain ⟨rfl, rfl, h⟩ := hq
    refine zj_iconst (x := 0) dX11_fewest_30 rfl ?_
    refine zj_istore_n (ls2 := [.ref 223, .int x1, .int x2, .int 0]) dX11_fewest_31 rfl (by decide) rfl rfl ?_
    exact h
  · replace h := h.2 c
    refine zj_iconst (x := (-1)) dX11_fewest_14 rfl ?_
    exact zj_iret dX11_fewest_15 rfl rfl h
theorem sg_X11_fewest_32 {G : z_G} {d : Nat} {S : z_Shp} {v : z_Dat} {Q : Option Value → z_Shp → z_Dat → Prop} {x1 : Int32} {x2 : Int32} {x3 : Int32} (hL : z_L S)
    (h : (vp_in (((26 : Int32) * x2) + x3) 52) ∧ ((¬ (v 259 (((26 : Int32) * x2) + x3).toNatClampNeg) = 0 → (Q (some (.int x3)) S v)) ∧ ((v 259 (((26 : Int32) * x2) + x3).toNatClampNeg) = 0 → (z_J G d mX11_fewest (32, [.ref 223, .int x1, .int x2, .int (x3 + 1)], [], S, v) Q)))) :
    z_J G d mX11_fewest (32, [.ref 223, .int x1, .int x2, .int x3], [], S, v) Q := by
  refine zj_aload_n dX11_fewest_32 rfl rfl ?_
  refine zj_getR (ci := 11) (j := 58) dX11_fewest_33 wf_X11_121 (by decide) (by decide) (zk_223 hL) rfl (zr_223_58 hL) ?_
  refine zj_bipush (x := 26) dX11_fewest_36 rfl ?_
  refine zj_iload_n dX11_fewest_38 rfl rfl ?_
  refine zj_imul dX11_fewest_39 ?_
  refine zj_iload_n dX11_fewest_40 rfl rfl ?_
  refine zj_iadd dX11_fewest_41 ?_
  refine zj_iaload dX11_fewest_42 (zk_259 hL) (by rw [(zl_259 hL)]; exact h.1) ?_
  replace h := h.2
  refine zj_if_ne (tgt := 52) dX11_fewest_43 (by decide) (fun c => ?_) (fun c => ?_)
  · replace h := h.1 c
    refine zj_iload_n dX11_fewest_52 rfl rfl ?_
    exact zj_iret dX11_fewest_53 rfl rfl h
  · replace h := h.2 c
    refine zj_iinc (y := x3 + 1) (ls2 := [.ref 223, .int x1, .int x2, .int (x3 + 1)]) dX11_fewest_46 rfl rfl (by decide) rfl rfl ?_
    refine zj_goto (tgt := 32) dX11_fewest_49 (by decide) ?_
    exact h
theorem sg_X11_four_0 {G : z_G} {d : Nat} {S : z_Shp} {v : z_Dat} {Q : Option Value → z_Shp → z_Dat → Prop} {x1 : Int32}
    (h : z_J G d mX11_four (3, [.ref 223, .int x1, .int 24], [], S, v) Q) :
    z_J G d mX11_four (0, [.ref 223, .int x1, .null], [], S, v) Q := by
  refine zj_bipush (x := 24) dX11_four_0 rfl ?_
  refine zj_istore_n (ls2 := [.ref 223, .int x1, .int 24]) dX11_four_2 rfl (by decide) rfl rfl ?_
  exact h
theorem sg_X11_four_3 {G : z_G} {d : Nat} {S : z_Shp} {v : z_Dat} {Q : Option Value → z_Shp → z_Dat → Prop} {x1 : Int32} {x2 : Int32} (hL : z_L S)
    (h : (x2 < 0 → (Q none S v)) ∧ (¬ x2 < 0 → (vp_in (v 223 8) 240 ∧ (∀ v1, v1 = z_u v 229 (v 223 8).toNatClampNeg (vp_nar .byte ((x1 >>> (x2 &&& 31)).toInt8.toInt32)) → (∀ v2, v2 = z_u v1 223 8 ((v1 223 8) + 1) → (z_J G d mX11_four (3, [.ref 223, .int x1, .int (x2 + (-8))], [], S, v2) Q)))))) :
    z_J G d mX11_four (3, [.ref 223, .int x1, .int x2], [], S, v) Q := by
  refine zj_iload_n dX11_four_3 rfl rfl ?_
  refine zj_if_lt (tgt := 36) dX11_four_4 (by decide) (fun c => ?_) (fun c => ?_)
  · replace h := h.1 c
    exact zj_vret dX11_four_36 rfl h
  · replace h := h.2 c
    refine zj_aload_n dX11_four_7 rfl rfl ?_
    refine zj_getR (ci := 11) (j := 7) dX11_four_8 wf_X11_30 (by decide) (by decide) (zk_223 hL) rfl (zr_223_7 hL) ?_
    refine zj_aload_n dX11_four_11 rfl rfl ?_
    refine zj_getI (ci := 11) (j := 8) dX11_four_12 wf_X11_134 (by decide) (by decide) (zk_223 hL) rfl ?_
    refine zj_iload_n dX11_four_15 rfl rfl ?_
    refine zj_iload_n dX11_four_16 rfl rfl ?_
    refine zj_ishr dX11_four_17 ?_
    refine zj_i2b dX11_four_18 ?_
    refine zj_bastore dX11_four_19 (zk_229 hL) (by rw [(zl_229 hL)]; exact h.1) (fun v1 ev1 => ?_)
    replace h := h.2 v1 ev1
    refine zj_aload_n dX11_four_20 rfl rfl ?_
    refine zj_dup dX11_four_21 rfl ?_
    refine zj_getI (ci := 11) (j := 8) dX11_four_22 wf_X11_134 (by decide) (by decide) (zk_223 hL) rfl ?_
    refine zj_iconst (x := 1) dX11_four_25 rfl ?_
    refine zj_iadd dX11_four_26 ?_
    refine zj_putI (ci := 11) (j := 8) dX11_four_27 wf_X11_134 (by decide) (by decide) (zk_223 hL) rfl rfl rfl rfl (fun v2 ev2 => ?_)
    replace h := h v2 ev2
    refine zj_iinc (y := x2 + (-8)) (ls2 := [.ref 223, .int x1, .int (x2 + (-8))]) dX11_four_30 rfl rfl (by decide) rfl rfl ?_
    refine zj_goto (tgt := 3) dX11_four_33 (by decide) ?_
    exact h
theorem sg_X11_goesWay_0 {G : z_G} {d : Nat} {S : z_Shp} {v : z_Dat} {Q : Option Value → z_Shp → z_Dat → Prop}
    (h : z_J G d mX11_goesWay (2, [.ref 223, .int 0], [], S, v) Q) :
    z_J G d mX11_goesWay (0, [.ref 223, .null], [], S, v) Q := by
  refine zj_iconst (x := 0) dX11_goesWay_0 rfl ?_
  refine zj_istore_n (ls2 := [.ref 223, .int 0]) dX11_goesWay_1 rfl (by decide) rfl rfl ?_
  exact h
theorem sg_X11_goesWay_2 {G : z_G} {d : Nat} {S : z_Shp} {v : z_Dat} {Q : Option Value → z_Shp → z_Dat → Prop} {x1 : Int32} (hL : z_L S)
    (h : ((v 223 36) ≤ x1 → (Q none S v)) ∧ (¬ (v 223 36) ≤ x1 → ((vp_in x1 321) ∧ ((vp_in x1 321) ∧ ((vp_in (v 243 x1.toNatClampNeg) 321) ∧ ((¬ (v 258 (v 243 x1.toNatClampNeg).toNatClampNeg) = 0 → (vp_in (v 243 x1.toNatClampNeg) 321 ∧ (∀ v1, v1 = z_u v 258 (v 243 x1.toNatClampNeg).toNatClampNeg (vp_nar .boolean 0) → (z_J G d mX11_goesWay (2, [.ref 223, .int (x1 + 1)], [], S, v1) Q)))) ∧ ((v 258 (v 243 x1.toNatClampNeg).toNatClampNeg) = 0 → (vp_in (v 243 x1.toNatClampNeg) 321 ∧ (∀ v2, v2 = z_u v 258 (v 243 x1.toNatClampNeg).toNatClampNeg (vp_nar .boolean 1) → (z_J G d mX11_goesWay (2, [.ref 223, .int (x1 + 1)], [], S, v2) Q)))))))))) :
    z_J G d mX11_goesWay (2, [.ref 223, .int x1], [], S, v) Q := by
  refine zj_iload_n dX11_goesWay_2 rfl rfl ?_
  refine zj_aload_n dX11_goesWay_3 rfl rfl ?_
  refine zj_getI (ci := 11) (j := 36) dX11_goesWay_4 wf_X11_264 (by decide) (by decide) (zk_223 hL) rfl ?_
  refine zj_icmp_ge (tgt := 46) dX11_goesWay_7 (by decide) (fun c => ?_) (fun c => ?_)
  · replace h := h.1 c
    exact zj_vret dX11_goesWay_46 rfl h
  · replace h := h.2 c
    refine zj_aload_n dX11_goesWay_10 rfl rfl ?_
    refine zj_getR (ci := 11) (j := 57) dX11_goesWay_11 wf_X11_118 (by decide) (by decide) (zk_223 hL) rfl (zr_223_57 hL) ?_
    refine zj_aload_n dX11_goesWay_14 rfl rfl ?_
    refine zj_getR (ci := 11) (j := 35) dX11_goesWay_15 wf_X11_73 (by decide) (by decide) (zk_223 hL) rfl (zr_223_35 hL) ?_
    refine zj_iload_n dX11_goesWay_18 rfl rfl ?_
    refine zj_iaload dX11_goesWay_19 (zk_243 hL) (by rw [(zl_243 hL)]; exact h.1) ?_
    replace h := h.2
    refine zj_aload_n dX11_goesWay_20 rfl rfl ?_
    refine zj_getR (ci := 11) (j := 57) dX11_goesWay_21 wf_X11_118 (by decide) (by decide) (zk_223 hL) rfl (zr_223_57 hL) ?_
    refine zj_aload_n dX11_goesWay_24 rfl rfl ?_
    refine zj_getR (ci := 11) (j := 35) dX11_goesWay_25 wf_X11_73 (by decide) (by decide) (zk_223 hL) rfl (zr_223_35 hL) ?_
    refine zj_iload_n dX11_goesWay_28 rfl rfl ?_
    refine zj_iaload dX11_goesWay_29 (zk_243 hL) (by rw [(zl_243 hL)]; exact h.1) ?_
    replace h := h.2
    refine zj_zaload dX11_goesWay_30 (zk_258 hL) (by rw [(zl_258 hL)]; exact h.1) ?_
    replace h := h.2
    refine zj_if_ne (tgt := 38) dX11_goesWay_31 (by decide) (fun c => ?_) (fun c => ?_)
    · replace h := h.1 c
      refine zj_iconst (x := 0) dX11_goesWay_38 rfl ?_
      refine zj_zastore dX11_goesWay_39 (zk_258 hL) (by rw [(zl_258 hL)]; exact h.1) (fun v1 ev1 => ?_)
      replace h := h.2 v1 ev1
      refine zj_iinc (y := x1 + 1) (ls2 := [.ref 223, .int (x1 + 1)]) dX11_goesWay_40 rfl rfl (by decide) rfl rfl ?_
      refine zj_goto (tgt := 2) dX11_goesWay_43 (by decide) ?_
      exact h
    · replace h := h.2 c
      refine zj_iconst (x := 1) dX11_goesWay_34 rfl ?_
      refine zj_goto (tgt := 39) dX11_goesWay_35 (by decide) ?_
      refine zj_zastore dX11_goesWay_39 (zk_258 hL) (by rw [(zl_258 hL)]; exact h.1) (fun v2 ev2 => ?_)
      replace h := h.2 v2 ev2
      refine zj_iinc (y := x1 + 1) (ls2 := [.ref 223, .int (x1 + 1)]) dX11_goesWay_40 rfl rfl (by decide) rfl rfl ?_
      refine zj_goto (tgt := 2) dX11_goesWay_43 (by decide) ?_
      exact h
theorem sg_X11_gone_0 {G : z_G} {d : Nat} {S : z_Shp} {v : z_Dat} {Q : Option Value → z_Shp → z_Dat → Prop} {x1 : Int32} {x2 : Int32} (hL : z_L S)
    (h : z_J G (d + 1) mX11_gone (16, [.ref 223, .int x1, .int x2, .int (((v 224 0) * (v 224 0)) + (v 223 14)), .int 0, .int 0, .null], [], S, v) Q) :
    z_J G (d + 1) mX11_gone (0, [.ref 223, .int x1, .int x2, .null, .null, .null, .null], [], S, v) Q := by
  refine zj_aload_n dX11_gone_0 rfl rfl ?_
  refine zj_callV (M' := mX11_qubits) (avs := []) (st := []) (ci := 11) dX11_gone_1 wm_X11_qubits wl_X11_148 wi_X11_qubits ws_X11_qubits (by decide) (zk_223 hL) rfl rfl (by decide) rfl (Nat.le_of_ble_eq_true rfl) (Nat.le_of_ble_eq_true rfl) ⟨Or.inl (z_k0 (zk_223 hL)), trivial⟩ trivial (hp_X11_qubits hL ?_)
  refine zj_aload_n dX11_gone_4 rfl rfl ?_
  refine zj_getI (ci := 11) (j := 14) dX11_gone_5 wf_X11_151 (by decide) (by decide) (zk_223 hL) rfl ?_
  refine zj_iadd dX11_gone_8 ?_
  refine zj_istore_n (ls2 := [.ref 223, .int x1, .int x2, .int (((v 224 0) * (v 224 0)) + (v 223 14)), .null, .null, .null]) dX11_gone_9 rfl (by decide) rfl rfl ?_
  refine zj_iconst (x := 0) dX11_gone_10 rfl ?_
  refine zj_istore (ls2 := [.ref 223, .int x1, .int x2, .int (((v 224 0) * (v 224 0)) + (v 223 14)), .int 0, .null, .null]) dX11_gone_11 (by decide) rfl rfl ?_
  refine zj_iconst (x := 0) dX11_gone_13 rfl ?_
  refine zj_istore (ls2 := [.ref 223, .int x1, .int x2, .int (((v 224 0) * (v 224 0)) + (v 223 14)), .int 0, .int 0, .null]) dX11_gone_14 (by decide) rfl rfl ?_
  exact h
theorem sg_X11_gone_16 {G : z_G} {d : Nat} {S : z_Shp} {v : z_Dat} {Q : Option Value → z_Shp → z_Dat → Prop} {x1 : Int32} {x2 : Int32} {x3 : Int32} {x4 : Int32} {x5 : Int32} (hL : z_L S)
    (h : ((v 223 31) ≤ x5 → (Q (some (.int x4)) S v)) ∧ (¬ (v 223 31) ≤ x5 → ((¬ x3 = 0) ∧ ((vp_in x5 321) ∧ (((v 258 x5.toNatClampNeg) = 0 → (z_J G (d + 1) mX11_gone (16, [.ref 223, .int x1, .int x2, .int x3, .int x4, .int (x5 + 1), .null], [], S, v) Q)) ∧ (¬ (v 258 x5.toNatClampNeg) = 0 → ((((v 224 0) * (v 224 0)) ≤ (x5 - x5 / x3 * x3) → ((0 = x1 → ((x1 = 0 → ((¬ x3 = 0) ∧ ((¬ (x5 / x3) = x2 → (z_J G (d + 1) mX11_gone (16, [.ref 223, .int x1, .int x2, .int x3, .int x4, .int (x5 + 1), .null], [], S, v) Q)) ∧ ((x5 / x3) = x2 → (z_J G (d + 1) mX11_gone (16, [.ref 223, .int x1, .int x2, .int x3, .int (x4 ^^^ ((1 : Int32) <<< (((x5 - x5 / x3 * x3) - ((v 224 0) * (v 224 0))) &&& 31))), .int (x5 + 1), .null], [], S, v) Q))))) ∧ (¬ x1 = 0 → (z_J G (d + 1) mX11_gone (16, [.ref 223, .int x1, .int x2, .int x3, .int (x4 ^^^ ((1 : Int32) <<< ((x5 - x5 / x3 * x3) &&& 31))), .int (x5 + 1), .null], [], S, v) Q)))) ∧ (¬ 0 = x1 → (z_J G (d + 1) mX11_gone (16, [.ref 223, .int x1, .int x2, .int x3, .int x4, .int (x5 + 1), .null], [], S, v) Q)))) ∧ (¬ ((v 224 0) * (v 224 0)) ≤ (x5 - x5 / x3 * x3) → ((1 = x1 → ((x1 = 0 → ((¬ x3 = 0) ∧ ((¬ (x5 / x3) = x2 → (z_J G (d + 1) mX11_gone (16, [.ref 223, .int x1, .int x2, .int x3, .int x4, .int (x5 + 1), .null], [], S, v) Q)) ∧ ((x5 / x3) = x2 → (z_J G (d + 1) mX11_gone (16, [.ref 223, .int x1, .int x2, .int x3, .int (x4 ^^^ ((1 : Int32) <<< (((x5 - x5 / x3 * x3) - ((v 224 0) * (v 224 0))) &&& 31))), .int (x5 + 1), .null], [], S, v) Q))))) ∧ (¬ x1 = 0 → (z_J G (d + 1) mX11_gone (16, [.ref 223, .int x1, .int x2, .int x3, .int (x4 ^^^ ((1 : Int32) <<< ((x5 - x5 / x3 * x3) &&& 31))), .int (x5 + 1), .null], [], S, v) Q)))) ∧ (¬ 1 = x1 → (z_J G (d + 1) mX11_gone (16, [.ref 223, .int x1, .int x2, .int x3, .int x4, .int (x5 + 1), .null], [], S, v) Q))))))))))) :
    z_J G (d + 1) mX11_gone (16, [.ref 223, .int x1, .int x2, .int x3, .int x4, .int x5, .null], [], S, v) Q := by
  refine zj_iload dX11_gone_16 rfl ?_
  refine zj_aload_n dX11_gone_18 rfl rfl ?_
  refine zj_getI (ci := 11) (j := 31) dX11_gone_19 wf_X11_251 (by decide) (by decide) (zk_223 hL) rfl ?_
  refine zj_icmp_ge (tgt := 106) dX11_gone_22 (by decide) (fun c => ?_) (fun c => ?_)
  · replace h := h.1 c
    refine zj_iload dX11_gone_106 rfl ?_
    exact zj_iret dX11_gone_108 rfl rfl h
  · replace h := h.2 c
    refine zj_iload dX11_gone_25 rfl ?_
    refine zj_iload_n dX11_gone_27 rfl rfl ?_
    refine zj_irem dX11_gone_28 h.1 ?_
    replace h := h.2
    refine zj_istore (ls2 := [.ref 223, .int x1, .int x2, .int x3, .int x4, .int x5, .int (x5 - x5 / x3 * x3)]) dX11_gone_29 (by decide) rfl rfl ?_
    refine zj_aload_n dX11_gone_31 rfl rfl ?_
    refine zj_getR (ci := 11) (j := 57) dX11_gone_32 wf_X11_118 (by decide) (by decide) (zk_223 hL) rfl (zr_223_57 hL) ?_
    refine zj_iload dX11_gone_35 rfl ?_
    refine zj_zaload dX11_gone_37 (zk_258 hL) (by rw [(zl_258 hL)]; exact h.1) ?_
    replace h := h.2
    refine zj_if_eq (tgt := 100) dX11_gone_38 (by decide) (fun c => ?_) (fun c => ?_)
    · replace h := h.1 c
      refine zj_iinc (y := x5 + 1) (ls2 := [.ref 223, .int x1, .int x2, .int x3, .int x4, .int (x5 + 1), .int (x5 - x5 / x3 * x3)]) dX11_gone_100 rfl rfl (by decide) rfl rfl ?_
      refine zj_goto (tgt := 16) dX11_gone_103 (by decide) ?_
      refine zj_forget (ls2 := [.ref 223, .int x1, .int x2, .int x3, .int x4, .int (x5 + 1), .null]) ⟨Or.inr rfl, Or.inr rfl, Or.inr rfl, Or.inr rfl, Or.inr rfl, Or.inr rfl, Or.inl rfl, trivial⟩ ?_
      exact h
    · replace h := h.2 c
      refine zj_iload dX11_gone_41 rfl ?_
      refine zj_aload_n dX11_gone_43 rfl rfl ?_
      refine zj_callV (M' := mX11_qubits) (avs := []) (st := [.int (x5 - x5 / x3 * x3)]) (ci := 11) dX11_gone_44 wm_X11_qubits wl_X11_148 wi_X11_qubits ws_X11_qubits (by decide) (zk_223 hL) rfl rfl (by decide) rfl (Nat.le_of_ble_eq_true rfl) (Nat.le_of_ble_eq_true rfl) ⟨Or.inl (z_k0 (zk_223 hL)), trivial⟩ trivial (hp_X11_qubits hL ?_)
      refine zj_icmp_ge (tgt := 54) dX11_gone_47 (by decide) (fun c => ?_) (fun c => ?_)
      · replace h := h.1 c
        refine zj_iconst (x := 0) dX11_gone_54 rfl ?_
        refine zj_iload_n dX11_gone_55 rfl rfl ?_
        refine zj_icmp_eq (tgt := 62) dX11_gone_56 (by decide) (fun c => ?_) (fun c => ?_)
        · replace h := h.1 c
          refine zj_iload_n dX11_gone_62 rfl rfl ?_
          refine zj_if_eq (tgt := 78) dX11_gone_63 (by decide) (fun c => ?_) (fun c => ?_)
          · replace h := h.1 c
            refine zj_iload dX11_gone_78 rfl ?_
            refine zj_iload_n dX11_gone_80 rfl rfl ?_
            refine zj_idiv dX11_gone_81 h.1 ?_
            replace h := h.2
            refine zj_iload_n dX11_gone_82 rfl rfl ?_
            refine zj_icmp_ne (tgt := 100) dX11_gone_83 (by decide) (fun c => ?_) (fun c => ?_)
            · replace h := h.1 c
              refine zj_iinc (y := x5 + 1) (ls2 := [.ref 223, .int x1, .int x2, .int x3, .int x4, .int (x5 + 1), .int (x5 - x5 / x3 * x3)]) dX11_gone_100 rfl rfl (by decide) rfl rfl ?_
              refine zj_goto (tgt := 16) dX11_gone_103 (by decide) ?_
              refine zj_forget (ls2 := [.ref 223, .int x1, .int x2, .int x3, .int x4, .int (x5 + 1), .null]) ⟨Or.inr rfl, Or.inr rfl, Or.inr rfl, Or.inr rfl, Or.inr rfl, Or.inr rfl, Or.inl rfl, trivial⟩ ?_
              exact h
            · replace h := h.2 c
              refine zj_iload dX11_gone_86 rfl ?_
              refine zj_iconst (x := 1) dX11_gone_88 rfl ?_
              refine zj_iload dX11_gone_89 rfl ?_
              refine zj_aload_n dX11_gone_91 rfl rfl ?_
              refine zj_callV (M' := mX11_qubits) (avs := []) (st := [.int (x5 - x5 / x3 * x3), .int 1, .int x4]) (ci := 11) dX11_gone_92 wm_X11_qubits wl_X11_148 wi_X11_qubits ws_X11_qubits (by decide) (zk_223 hL) rfl rfl (by decide) rfl (Nat.le_of_ble_eq_true rfl) (Nat.le_of_ble_eq_true rfl) ⟨Or.inl (z_k0 (zk_223 hL)), trivial⟩ trivial (hp_X11_qubits hL ?_)
              refine zj_isub dX11_gone_95 ?_
              refine zj_ishl dX11_gone_96 ?_
              refine zj_ixor dX11_gone_97 ?_
              refine zj_istore (ls2 := [.ref 223, .int x1, .int x2, .int x3, .int (x4 ^^^ ((1 : Int32) <<< (((x5 - x5 / x3 * x3) - ((v 224 0) * (v 224 0))) &&& 31))), .int x5, .int (x5 - x5 / x3 * x3)]) dX11_gone_98 (by decide) rfl rfl ?_
              refine zj_iinc (y := x5 + 1) (ls2 := [.ref 223, .int x1, .int x2, .int x3, .int (x4 ^^^ ((1 : Int32) <<< (((x5 - x5 / x3 * x3) - ((v 224 0) * (v 224 0))) &&& 31))), .int (x5 + 1), .int (x5 - x5 / x3 * x3)]) dX11_gone_100 rfl rfl (by decide) rfl rfl ?_
              refine zj_goto (tgt := 16) dX11_gone_103 (by decide) ?_
              refine zj_forget (ls2 := [.ref 223, .int x1, .int x2, .int x3, .int (x4 ^^^ ((1 : Int32) <<< (((x5 - x5 / x3 * x3) - ((v 224 0) * (v 224 0))) &&& 31))), .int (x5 + 1), .null]) ⟨Or.inr rfl, Or.inr rfl, Or.inr rfl, Or.inr rfl, Or.inr rfl, Or.inr rfl, Or.inl rfl, trivial⟩ ?_
              exact h
          · replace h := h.2 c
            refine zj_iload dX11_gone_66 rfl ?_
            refine zj_iconst (x := 1) dX11_gone_68 rfl ?_
            refine zj_iload dX11_gone_69 rfl ?_
            refine zj_ishl dX11_gone_71 ?_
            refine zj_ixor dX11_gone_72 ?_
            refine zj_istore (ls2 := [.ref 223, .int x1, .int x2, .int x3, .int (x4 ^^^ ((1 : Int32) <<< ((x5 - x5 / x3 * x3) &&& 31))), .int x5, .int (x5 - x5 / x3 * x3)]) dX11_gone_73 (by decide) rfl rfl ?_
            refine zj_goto (tgt := 100) dX11_gone_75 (by decide) ?_
            refine zj_iinc (y := x5 + 1) (ls2 := [.ref 223, .int x1, .int x2, .int x3, .int (x4 ^^^ ((1 : Int32) <<< ((x5 - x5 / x3 * x3) &&& 31))), .int (x5 + 1), .int (x5 - x5 / x3 * x3)]) dX11_gone_100 rfl rfl (by decide) rfl rfl ?_
            refine zj_goto (tgt := 16) dX11_gone_103 (by decide) ?_
            refine zj_forget (ls2 := [.ref 223, .int x1, .int x2, .int x3, .int (x4 ^^^ ((1 : Int32) <<< ((x5 - x5 / x3 * x3) &&& 31))), .int (x5 + 1), .null]) ⟨Or.inr rfl, Or.inr rfl, Or.inr rfl, Or.inr rfl, Or.inr rfl, Or.inr rfl, Or.inl rfl, trivial⟩ ?_
            exact h
        · replace h := h.2 c
          refine zj_goto (tgt := 100) dX11_gone_59 (by decide) ?_
          refine zj_iinc (y := x5 + 1) (ls2 := [.ref 223, .int x1, .int x2, .int x3, .int x4, .int (x5 + 1), .int (x5 - x5 / x3 * x3)]) dX11_gone_100 rfl rfl (by decide) rfl rfl ?_
          refine zj_goto (tgt := 16) dX11_gone_103 (by decide) ?_
          refine zj_forget (ls2 := [.ref 223, .int x1, .int x2, .int x3, .int x4, .int (x5 + 1), .null]) ⟨Or.inr rfl, Or.inr rfl, Or.inr rfl, Or.inr rfl, Or.inr rfl, Or.inr rfl, Or.inl rfl, trivial⟩ ?_
          exact h
      · replace h := h.2 c
        refine zj_iconst (x := 1) dX11_gone_50 rfl ?_
        refine zj_goto (tgt := 55) dX11_gone_51 (by decide) ?_
        refine zj_iload_n dX11_gone_55 rfl rfl ?_
        refine zj_icmp_eq (tgt := 62) dX11_gone_56 (by decide) (fun c => ?_) (fun c => ?_)
        · replace h := h.1 c
          refine zj_iload_n dX11_gone_62 rfl rfl ?_
          refine zj_if_eq (tgt := 78) dX11_gone_63 (by decide) (fun c => ?_) (fun c => ?_)
          · replace h := h.1 c
            refine zj_iload dX11_gone_78 rfl ?_
            refine zj_iload_n dX11_gone_80 rfl rfl ?_
            refine zj_idiv dX11_gone_81 h.1 ?_
            replace h := h.2
            refine zj_iload_n dX11_gone_82 rfl rfl ?_
            refine zj_icmp_ne (tgt := 100) dX11_gone_83 (by decide) (fun c => ?_) (fun c => ?_)
            · replace h := h.1 c
              refine zj_iinc (y := x5 + 1) (ls2 := [.ref 223, .int x1, .int x2, .int x3, .int x4, .int (x5 + 1), .int (x5 - x5 / x3 * x3)]) dX11_gone_100 rfl rfl (by decide) rfl rfl ?_
              refine zj_goto (tgt := 16) dX11_gone_103 (by decide) ?_
              refine zj_forget (ls2 := [.ref 223, .int x1, .int x2, .int x3, .int x4, .int (x5 + 1), .null]) ⟨Or.inr rfl, Or.inr rfl, Or.inr rfl, Or.inr rfl, Or.inr rfl, Or.inr rfl, Or.inl rfl, trivial⟩ ?_
              exact h
            · replace h := h.2 c
              refine zj_iload dX11_gone_86 rfl ?_
              refine zj_iconst (x := 1) dX11_gone_88 rfl ?_
              refine zj_iload dX11_gone_89 rfl ?_
              refine zj_aload_n dX11_gone_91 rfl rfl ?_
              refine zj_callV (M' := mX11_qubits) (avs := []) (st := [.int (x5 - x5 / x3 * x3), .int 1, .int x4]) (ci := 11) dX11_gone_92 wm_X11_qubits wl_X11_148 wi_X11_qubits ws_X11_qubits (by decide) (zk_223 hL) rfl rfl (by decide) rfl (Nat.le_of_ble_eq_true rfl) (Nat.le_of_ble_eq_true rfl) ⟨Or.inl (z_k0 (zk_223 hL)), trivial⟩ trivial (hp_X11_qubits hL ?_)
              refine zj_isub dX11_gone_95 ?_
              refine zj_ishl dX11_gone_96 ?_
              refine zj_ixor dX11_gone_97 ?_
              refine zj_istore (ls2 := [.ref 223, .int x1, .int x2, .int x3, .int (x4 ^^^ ((1 : Int32) <<< (((x5 - x5 / x3 * x3) - ((v 224 0) * (v 224 0))) &&& 31))), .int x5, .int (x5 - x5 / x3 * x3)]) dX11_gone_98 (by decide) rfl rfl ?_
              refine zj_iinc (y := x5 + 1) (ls2 := [.ref 223, .int x1, .int x2, .int x3, .int (x4 ^^^ ((1 : Int32) <<< (((x5 - x5 / x3 * x3) - ((v 224 0) * (v 224 0))) &&& 31))), .int (x5 + 1), .int (x5 - x5 / x3 * x3)]) dX11_gone_100 rfl rfl (by decide) rfl rfl ?_
              refine zj_goto (tgt := 16) dX11_gone_103 (by decide) ?_
              refine zj_forget (ls2 := [.ref 223, .int x1, .int x2, .int x3, .int (x4 ^^^ ((1 : Int32) <<< (((x5 - x5 / x3 * x3) - ((v 224 0) * (v 224 0))) &&& 31))), .int (x5 + 1), .null]) ⟨Or.inr rfl, Or.inr rfl, Or.inr rfl, Or.inr rfl, Or.inr rfl, Or.inr rfl, Or.inl rfl, trivial⟩ ?_
              exact h
          · replace h := h.2 c
            refine zj_iload dX11_gone_66 rfl ?_
            refine zj_iconst (x := 1) dX11_gone_68 rfl ?_
            refine zj_iload dX11_gone_69 rfl ?_
            refine zj_ishl dX11_gone_71 ?_
            refine zj_ixor dX11_gone_72 ?_
            refine zj_istore (ls2 := [.ref 223, .int x1, .int x2, .int x3, .int (x4 ^^^ ((1 : Int32) <<< ((x5 - x5 / x3 * x3) &&& 31))), .int x5, .int (x5 - x5 / x3 * x3)]) dX11_gone_73 (by decide) rfl rfl ?_
            refine zj_goto (tgt := 100) dX11_gone_75 (by decide) ?_
            refine zj_iinc (y := x5 + 1) (ls2 := [.ref 223, .int x1, .int x2, .int x3, .int (x4 ^^^ ((1 : Int32) <<< ((x5 - x5 / x3 * x3) &&& 31))), .int (x5 + 1), .int (x5 - x5 / x3 * x3)]) dX11_gone_100 rfl rfl (by decide) rfl rfl ?_
            refine zj_goto (tgt := 16) dX11_gone_103 (by decide) ?_
            refine zj_forget (ls2 := [.ref 223, .int x1, .int x2, .int x3, .int (x4 ^^^ ((1 : Int32) <<< ((x5 - x5 / x3 * x3) &&& 31))), .int (x5 + 1), .null]) ⟨Or.inr rfl, Or.inr rfl, Or.inr rfl, Or.inr rfl, Or.inr rfl, Or.inr rfl, Or.inl rfl, trivial⟩ ?_
            exact h
        · replace h := h.2 c
          refine zj_goto (tgt := 100) dX11_gone_59 (by decide) ?_
          refine zj_iinc (y := x5 + 1) (ls2 := [.ref 223, .int x1, .int x2, .int x3, .int x4, .int (x5 + 1), .int (x5 - x5 / x3 * x3)]) dX11_gone_100 rfl rfl (by decide) rfl rfl ?_
          refine zj_goto (tgt := 16) dX11_gone_103 (by decide) ?_
          refine zj_forget (ls2 := [.ref 223, .int x1, .int x2, .int x3, .int x4, .int (x5 + 1), .null]) ⟨Or.inr rfl, Or.inr rfl, Or.inr rfl, Or.inr rfl, Or.inr rfl, Or.inr rfl, Or.inl rfl, trivial⟩ ?_
          exact h
theorem sg_X11_grow_0 {G : z_G} {d : Nat} {S : z_Shp} {v : z_Dat} {Q : Option Value → z_Shp → z_Dat → Prop} {x1 : Int32} (hL : z_L S)
    (h : ∀ v1, v1 = z_u v 223 0 0 → (((x1 = 0 ∨ x1 = 1) → (z_J G d mX11_grows (0, [.ref 223, .int x1, .null], [], S, v1) (fun r S1 v2 => r = none ∧ S1 = S ∧ (∀ v3, v3 = z_u v2 223 56 1 → (∀ v4, v4 = z_u v3 256 0 (v3 223 50) → (∀ v5, v5 = z_u v4 256 1 (v4 223 51) → (∀ v6, v6 = z_u v5 256 2 (v5 223 52) → (∀ v7, v7 = z_u v6 256 3 (v6 223 53) → (z_J G (d + 1) mX11_grow (68, [.ref 223, .int x1, .int 0, .int 0], [], S, v7) Q))))))))) ∧ (¬ (x1 = 0 ∨ x1 = 1) → (Q (some (.int (-1))) S v1)))) :
    z_J G (d + 1) mX11_grow (0, [.ref 223, .int x1, .null, .null], [], S, v) Q := by
  refine zj_aload_n dX11_grow_0 rfl rfl ?_
  refine zj_iconst (x := 0) dX11_grow_1 rfl ?_
  refine zj_putI (ci := 11) (j := 0) dX11_grow_2 wf_X11_1 (by decide) (by decide) (zk_223 hL) rfl rfl rfl rfl (fun v1 ev1 => ?_)
  replace h := h v1 ev1
  refine zj_iload_n dX11_grow_5 rfl rfl ?_
  refine zj_callS (M' := mX11_isKind) (avs := [.int x1]) (st := []) dX11_grow_6 wm_X11_isKind wl_X11_165 wt_X11_isKind rfl (by decide) rfl (Nat.le_of_ble_eq_true rfl) (Nat.le_of_ble_eq_true rfl) ⟨Or.inl (z_k0 (zk_223 hL)), trivial⟩ trivial (hp_X11_isKind (fun c => ?_) (fun c => ?_))
  · replace h := h.1 c
    refine zj_if_ne (tgt := 14) dX11_grow_9 (by decide) (fun _ => ?_) (fun q => absurd q (by decide))
    refine zj_aload_n dX11_grow_14 rfl rfl ?_
    refine zj_iload_n dX11_grow_15 rfl rfl ?_
    refine zj_callV (M' := mX11_grows) (avs := [.int x1]) (st := []) (ci := 11) dX11_grow_16 wm_X11_grows wl_X11_339 wi_X11_grows ws_X11_grows (by decide) (zk_223 hL) rfl rfl (by decide) rfl (Nat.le_of_ble_eq_true rfl) (Nat.le_of_ble_eq_true rfl) ⟨Or.inl (z_k0 (zk_223 hL)), trivial⟩ trivial (z_J.mono h (fun r S1 v2 hq => ?_))
    obtain ⟨rfl, rfl, h⟩ := hq
    refine zj_aload_n dX11_grow_19 rfl rfl ?_
    refine zj_iconst (x := 1) dX11_grow_20 rfl ?_
    refine zj_putI (ci := 11) (j := 56) dX11_grow_21 wf_X11_342 (by decide) (by decide) (zk_223 hL) rfl rfl (by decide) (by decide) (fun v3 ev3 => ?_)
    replace h := h v3 ev3
    refine zj_aload_n dX11_grow_24 rfl rfl ?_
    refine zj_getR (ci := 11) (j := 54) dX11_grow_25 wf_X11_112 (by decide) (by decide) (zk_223 hL) rfl (zr_223_54 hL) ?_
    refine zj_iconst (x := 0) dX11_grow_28 rfl ?_
    refine zj_aload_n dX11_grow_29 rfl rfl ?_
    refine zj_getI (ci := 11) (j := 50) dX11_grow_30 wf_X11_311 (by decide) (by decide) (zk_223 hL) rfl ?_
    refine zj_iastore dX11_grow_33 (zk_256 hL) (by rw [(zl_256 hL)]; exact z_vin (by decide)) (fun v4 ev4 => ?_)
    replace h := h v4 ev4
    refine zj_aload_n dX11_grow_34 rfl rfl ?_
    refine zj_getR (ci := 11) (j := 54) dX11_grow_35 wf_X11_112 (by decide) (by decide) (zk_223 hL) rfl (zr_223_54 hL) ?_
    refine zj_iconst (x := 1) dX11_grow_38 rfl ?_
    refine zj_aload_n dX11_grow_39 rfl rfl ?_
    refine zj_getI (ci := 11) (j := 51) dX11_grow_40 wf_X11_324 (by decide) (by decide) (zk_223 hL) rfl ?_
    refine zj_iastore dX11_grow_43 (zk_256 hL) (by rw [(zl_256 hL)]; exact z_vin (by decide)) (fun v5 ev5 => ?_)
    replace h := h v5 ev5
    refine zj_aload_n dX11_grow_44 rfl rfl ?_
    refine zj_getR (ci := 11) (j := 54) dX11_grow_45 wf_X11_112 (by decide) (by decide) (zk_223 hL) rfl (zr_223_54 hL) ?_
    refine zj_iconst (x := 2) dX11_grow_48 rfl ?_
    refine zj_aload_n dX11_grow_49 rfl rfl ?_
    refine zj_getI (ci := 11) (j := 52) dX11_grow_50 wf_X11_327 (by decide) (by decide) (zk_223 hL) rfl ?_
    refine zj_iastore dX11_grow_53 (zk_256 hL) (by rw [(zl_256 hL)]; exact z_vin (by decide)) (fun v6 ev6 => ?_)
    replace h := h v6 ev6
    refine zj_aload_n dX11_grow_54 rfl rfl ?_
    refine zj_getR (ci := 11) (j := 54) dX11_grow_55 wf_X11_112 (by decide) (by decide) (zk_223 hL) rfl (zr_223_54 hL) ?_
    refine zj_iconst (x := 3) dX11_grow_58 rfl ?_
    refine zj_aload_n dX11_grow_59 rfl rfl ?_
    refine zj_getI (ci := 11) (j := 53) dX11_grow_60 wf_X11_333 (by decide) (by decide) (zk_223 hL) rfl ?_
    refine zj_iastore dX11_grow_63 (zk_256 hL) (by rw [(zl_256 hL)]; exact z_vin (by decide)) (fun v7 ev7 => ?_)
    replace h := h v7 ev7
    refine zj_iconst (x := 0) dX11_grow_64 rfl ?_
    refine zj_istore_n (ls2 := [.ref 223, .int x1, .int 0, .null]) dX11_grow_65 rfl (by decide) rfl rfl ?_
    refine zj_iconst (x := 0) dX11_grow_66 rfl ?_
    refine zj_istore_n (ls2 := [.ref 223, .int x1, .int 0, .int 0]) dX11_grow_67 rfl (by decide) rfl rfl ?_
    exact h
  · replace h := h.2 c
    refine zj_if_ne (tgt := 14) dX11_grow_9 (by decide) (fun q => absurd (by decide) q) (fun _ => ?_)
    refine zj_iconst (x := (-1)) dX11_grow_12 rfl ?_
    exact zj_iret dX11_grow_13 rfl rfl h
theorem sg_X11_grow_68 {G : z_G} {d : Nat} {S : z_Shp} {v : z_Dat} {Q : Option Value → z_Shp → z_Dat → Prop} {x1 : Int32} {x2 : Int32} {x3 : Int32} (hL : z_L S)
    (h : ((v 223 53) ≤ x3 → (Q (some (.int x2)) S v)) ∧ (¬ (v 223 53) ≤ x3 → ((vp_in x3 109) ∧ (vp_in x3 109 ∧ (∀ v1, v1 = z_u v 257 x3.toNatClampNeg (v 253 x3.toNatClampNeg) → ((vp_in x3 109) ∧ ((vp_in (v1 253 x3.toNatClampNeg) 321) ∧ (z_J G d mX11_grow (68, [.ref 223, .int x1, .int (x2 + (v1 240 (v1 253 x3.toNatClampNeg).toNatClampNeg)), .int (x3 + 1)], [], S, v1) Q)))))))) :
    z_J G d mX11_grow (68, [.ref 223, .int x1, .int x2, .int x3], [], S, v) Q := by
  refine zj_iload_n dX11_grow_68 rfl rfl ?_
  refine zj_aload_n dX11_grow_69 rfl rfl ?_
  refine zj_getI (ci := 11) (j := 53) dX11_grow_70 wf_X11_333 (by decide) (by decide) (zk_223 hL) rfl ?_
  refine zj_icmp_ge (tgt := 108) dX11_grow_73 (by decide) (fun c => ?_) (fun c => ?_)
  · replace h := h.1 c
    refine zj_iload_n dX11_grow_108 rfl rfl ?_
    exact zj_iret dX11_grow_109 rfl rfl h
  · replace h := h.2 c
    refine zj_aload_n dX11_grow_76 rfl rfl ?_
    refine zj_getR (ci := 11) (j := 55) dX11_grow_77 wf_X11_115 (by decide) (by decide) (zk_223 hL) rfl (zr_223_55 hL) ?_
    refine zj_iload_n dX11_grow_80 rfl rfl ?_
    refine zj_aload_n dX11_grow_81 rfl rfl ?_
    refine zj_getR (ci := 11) (j := 47) dX11_grow_82 wf_X11_103 (by decide) (by decide) (zk_223 hL) rfl (zr_223_47 hL) ?_
    refine zj_iload_n dX11_grow_85 rfl rfl ?_
    refine zj_iaload dX11_grow_86 (zk_253 hL) (by rw [(zl_253 hL)]; exact h.1) ?_
    replace h := h.2
    refine zj_iastore dX11_grow_87 (zk_257 hL) (by rw [(zl_257 hL)]; exact h.1) (fun v1 ev1 => ?_)
    replace h := h.2 v1 ev1
    refine zj_iload_n dX11_grow_88 rfl rfl ?_
    refine zj_aload_n dX11_grow_89 rfl rfl ?_
    refine zj_getR (ci := 11) (j := 28) dX11_grow_90 wf_X11_64 (by decide) (by decide) (zk_223 hL) rfl (zr_223_28 hL) ?_
    refine zj_aload_n dX11_grow_93 rfl rfl ?_
    refine zj_getR (ci := 11) (j := 47) dX11_grow_94 wf_X11_103 (by decide) (by decide) (zk_223 hL) rfl (zr_223_47 hL) ?_
    refine zj_iload_n dX11_grow_97 rfl rfl ?_
    refine zj_iaload dX11_grow_98 (zk_253 hL) (by rw [(zl_253 hL)]; exact h.1) ?_
    replace h := h.2
    refine zj_iaload dX11_grow_99 (zk_240 hL) (by rw [(zl_240 hL)]; exact h.1) ?_
    replace h := h.2
    refine zj_iadd dX11_grow_100 ?_
    refine zj_istore_n (ls2 := [.ref 223, .int x1, .int (x2 + (v1 240 (v1 253 x3.toNatClampNeg).toNatClampNeg)), .int x3]) dX11_grow_101 rfl (by decide) rfl rfl ?_
    refine zj_iinc (y := x3 + 1) (ls2 := [.ref 223, .int x1, .int (x2 + (v1 240 (v1 253 x3.toNatClampNeg).toNatClampNeg)), .int (x3 + 1)]) dX11_grow_102 rfl rfl (by decide) rfl rfl ?_
    refine zj_goto (tgt := 68) dX11_grow_105 (by decide) ?_
    exact h
theorem sg_X11_grown_0 {G : z_G} {d : Nat} {S : z_Shp} {v : z_Dat} {Q : Option Value → z_Shp → z_Dat → Prop} {x1 : Int32} (hL : z_L S)
    (h : ∀ v1, v1 = z_u v 223 0 0 → (((v1 223 56) = 0 → (Q (some (.int (-1))) S v1)) ∧ (¬ (v1 223 56) = 0 → (((0 ≤ x1 ∧ x1 ≤ 3) → ((vp_in x1 4) ∧ (Q (some (.int (v1 256 x1.toNatClampNeg))) S v1))) ∧ (¬ (0 ≤ x1 ∧ x1 ≤ 3) → (Q (some (.int (-1))) S v1)))))) :
    z_J G (d + 1) mX11_grown (0, [.ref 223, .int x1], [], S, v) Q := by
  refine zj_aload_n dX11_grown_0 rfl rfl ?_
  refine zj_iconst (x := 0) dX11_grown_1 rfl ?_
  refine zj_putI (ci := 11) (j := 0) dX11_grown_2 wf_X11_1 (by decide) (by decide) (zk_223 hL) rfl rfl rfl rfl (fun v1 ev1 => ?_)
  replace h := h v1 ev1
  refine zj_aload_n dX11_grown_5 rfl rfl ?_
  refine zj_getI (ci := 11) (j := 56) dX11_grown_6 wf_X11_342 (by decide) (by decide) (zk_223 hL) rfl ?_
  refine zj_if_eq (tgt := 30) dX11_grown_9 (by decide) (fun c => ?_) (fun c => ?_)
  · replace h := h.1 c
    refine zj_iconst (x := (-1)) dX11_grown_30 rfl ?_
    exact zj_iret dX11_grown_31 rfl rfl h
  · replace h := h.2 c
    refine zj_iload_n dX11_grown_12 rfl rfl ?_
    refine zj_iconst (x := 0) dX11_grown_13 rfl ?_
    refine zj_iconst (x := 3) dX11_grown_14 rfl ?_
    refine zj_callS (M' := mX11_isIn) (avs := [.int x1, .int 0, .int 3]) (st := []) dX11_grown_15 wm_X11_isIn wl_X11_144 wt_X11_isIn rfl (by decide) rfl (Nat.le_of_ble_eq_true rfl) (Nat.le_of_ble_eq_true rfl) ⟨Or.inl (z_k0 (zk_223 hL)), trivial⟩ trivial (hp_X11_isIn (fun c => ?_) (fun c => ?_))
    · replace h := h.1 c
      refine zj_if_eq (tgt := 30) dX11_grown_18 (by decide) (fun q => absurd q (by decide)) (fun _ => ?_)
      refine zj_aload_n dX11_grown_21 rfl rfl ?_
      refine zj_getR (ci := 11) (j := 54) dX11_grown_22 wf_X11_112 (by decide) (by decide) (zk_223 hL) rfl (zr_223_54 hL) ?_
      refine zj_iload_n dX11_grown_25 rfl rfl ?_
      refine zj_iaload dX11_grown_26 (zk_256 hL) (by rw [(zl_256 hL)]; exact h.1) ?_
      replace h := h.2
      refine zj_goto (tgt := 31) dX11_grown_27 (by decide) ?_
      exact zj_iret dX11_grown_31 rfl rfl h
    · replace h := h.2 c
      refine zj_if_eq (tgt := 30) dX11_grown_18 (by decide) (fun _ => ?_) (fun q => absurd (by decide) q)
      refine zj_iconst (x := (-1)) dX11_grown_30 rfl ?_
      exact zj_iret dX11_grown_31 rfl rfl h
theorem sg_X11_grows_0 {G : z_G} {d : Nat} {S : z_Shp} {v : z_Dat} {Q : Option Value → z_Shp → z_Dat → Prop} {x1 : Int32} (hL : z_L S)
    (h : z_J G d mX11_laysNet (0, [.ref 223, .int x1, .null, .null, .null, .null, .null, .null], [], S, v) (fun r S1 v1 => r = none ∧ S1 = S ∧ (z_J G (d + 1) mX11_grows (7, [.ref 223, .int x1, .int 0], [], S, v1) Q))) :
    z_J G (d + 1) mX11_grows (0, [.ref 223, .int x1, .null], [], S, v) Q := by
  refine zj_aload_n dX11_grows_0 rfl rfl ?_
  refine zj_iload_n dX11_grows_1 rfl rfl ?_
  refine zj_callV (M' := mX11_laysNet) (avs := [.int x1]) (st := []) (ci := 11) dX11_grows_2 wm_X11_laysNet wl_X11_270 wi_X11_laysNet ws_X11_laysNet (by decide) (zk_223 hL) rfl rfl (by decide) rfl (Nat.le_of_ble_eq_true rfl) (Nat.le_of_ble_eq_true rfl) ⟨Or.inl (z_k0 (zk_223 hL)), trivial⟩ trivial (z_J.mono h (fun r S1 v1 hq => ?_))
  obtain ⟨rfl, rfl, h⟩ := hq
  refine zj_iconst (x := 0) dX11_grows_5 rfl ?_
  refine zj_istore_n (ls2 := [.ref 223, .int x1, .int 0]) dX11_grows_6 rfl (by decide) rfl rfl ?_
  exact h
theorem sg_X11_grows_7 {G : z_G} {d : Nat} {S : z_Shp} {v : z_Dat} {Q : Option Value → z_Shp → z_Dat → Prop} {x1 : Int32} {x2 : Int32} (hL : z_L S)
    (h : ((v 223 32) < x2 → (z_J G d mX11_grows (30, [.ref 223, .int x1, .int 0], [], S, v) Q)) ∧ (¬ (v 223 32) < x2 → (vp_in x2 109 ∧ (∀ v1, v1 = z_u v 250 x2.toNatClampNeg x2 → (z_J G d mX11_grows (7, [.ref 223, .int x1, .int (x2 + 1)], [], S, v1) Q))))) :
    z_J G d mX11_grows (7, [.ref 223, .int x1, .int x2], [], S, v) Q := by
  refine zj_iload_n dX11_grows_7 rfl rfl ?_
  refine zj_aload_n dX11_grows_8 rfl rfl ?_
  refine zj_getI (ci := 11) (j := 32) dX11_grows_9 wf_X11_254 (by decide) (by decide) (zk_223 hL) rfl ?_
  refine zj_icmp_gt (tgt := 28) dX11_grows_12 (by decide) (fun c => ?_) (fun c => ?_)
  · replace h := h.1 c
    refine zj_iconst (x := 0) dX11_grows_28 rfl ?_
    refine zj_istore_n (ls2 := [.ref 223, .int x1, .int 0]) dX11_grows_29 rfl (by decide) rfl rfl ?_
    exact h
  · replace h := h.2 c
    refine zj_aload_n dX11_grows_15 rfl rfl ?_
    refine zj_getR (ci := 11) (j := 44) dX11_grows_16 wf_X11_94 (by decide) (by decide) (zk_223 hL) rfl (zr_223_44 hL) ?_
    refine zj_iload_n dX11_grows_19 rfl rfl ?_
    refine zj_iload_n dX11_grows_20 rfl rfl ?_
    refine zj_iastore dX11_grows_21 (zk_250 hL) (by rw [(zl_250 hL)]; exact h.1) (fun v1 ev1 => ?_)
    replace h := h.2 v1 ev1
    refine zj_iinc (y := x2 + 1) (ls2 := [.ref 223, .int x1, .int (x2 + 1)]) dX11_grows_22 rfl rfl (by decide) rfl rfl ?_
    refine zj_goto (tgt := 7) dX11_grows_25 (by decide) ?_
    exact h
theorem sg_X11_grows_30 {G : z_G} {d : Nat} {S : z_Shp} {v : z_Dat} {Q : Option Value → z_Shp → z_Dat → Prop} {x1 : Int32} {x2 : Int32} (hL : z_L S)
    (h : ((v 223 31) ≤ x2 → (∀ v1, v1 = z_u v 223 50 0 → (z_J G d mX11_grows (63, [.ref 223, .int x1, .int x2], [], S, v1) Q))) ∧ (¬ (v 223 31) ≤ x2 → (vp_in x2 321 ∧ (∀ v2, v2 = z_u v 249 x2.toNatClampNeg 0 → (vp_in x2 321 ∧ (∀ v3, v3 = z_u v2 254 x2.toNatClampNeg (vp_nar .boolean 0) → (z_J G d mX11_grows (30, [.ref 223, .int x1, .int (x2 + 1)], [], S, v3) Q))))))) :
    z_J G d mX11_grows (30, [.ref 223, .int x1, .int x2], [], S, v) Q := by
  refine zj_iload_n dX11_grows_30 rfl rfl ?_
  refine zj_aload_n dX11_grows_31 rfl rfl ?_
  refine zj_getI (ci := 11) (j := 31) dX11_grows_32 wf_X11_251 (by decide) (by decide) (zk_223 hL) rfl ?_
  refine zj_icmp_ge (tgt := 58) dX11_grows_35 (by decide) (fun c => ?_) (fun c => ?_)
  · replace h := h.1 c
    refine zj_aload_n dX11_grows_58 rfl rfl ?_
    refine zj_iconst (x := 0) dX11_grows_59 rfl ?_
    refine zj_putI (ci := 11) (j := 50) dX11_grows_60 wf_X11_311 (by decide) (by decide) (zk_223 hL) rfl rfl rfl rfl (fun v1 ev1 => ?_)
    replace h := h v1 ev1
    exact h
  · replace h := h.2 c
    refine zj_aload_n dX11_grows_38 rfl rfl ?_
    refine zj_getR (ci := 11) (j := 43) dX11_grows_39 wf_X11_91 (by decide) (by decide) (zk_223 hL) rfl (zr_223_43 hL) ?_
    refine zj_iload_n dX11_grows_42 rfl rfl ?_
    refine zj_iconst (x := 0) dX11_grows_43 rfl ?_
    refine zj_iastore dX11_grows_44 (zk_249 hL) (by rw [(zl_249 hL)]; exact h.1) (fun v2 ev2 => ?_)
    replace h := h.2 v2 ev2
    refine zj_aload_n dX11_grows_45 rfl rfl ?_
    refine zj_getR (ci := 11) (j := 48) dX11_grows_46 wf_X11_106 (by decide) (by decide) (zk_223 hL) rfl (zr_223_48 hL) ?_
    refine zj_iload_n dX11_grows_49 rfl rfl ?_
    refine zj_iconst (x := 0) dX11_grows_50 rfl ?_
    refine zj_zastore dX11_grows_51 (zk_254 hL) (by rw [(zl_254 hL)]; exact h.1) (fun v3 ev3 => ?_)
    replace h := h.2 v3 ev3
    refine zj_iinc (y := x2 + 1) (ls2 := [.ref 223, .int x1, .int (x2 + 1)]) dX11_grows_52 rfl rfl (by decide) rfl rfl ?_
    refine zj_goto (tgt := 30) dX11_grows_55 (by decide) ?_
    exact h
theorem sg_X11_grows_63 {G : z_G} {d : Nat} {S : z_Shp} {v : z_Dat} {Q : Option Value → z_Shp → z_Dat → Prop} {x1 : Int32} {x2 : Int32} (hL : z_L S)
    (h : z_J G d mX11_counts (0, [.ref 223, .null, .null], [], S, v) (fun r S1 v1 => ∃ y1 : Int32, r = some (.int y1) ∧ S1 = S ∧ ((y1 = 0 → (∀ v2, v2 = z_u v1 223 51 0 → (∀ v3, v3 = z_u v2 223 52 0 → (z_J G (d + 1) mX11_grows (218, [.ref 223, .int x1, .int 0], [], S, v3) Q)))) ∧ (¬ y1 = 0 → (z_J G (d + 1) mX11_grows (72, [.ref 223, .int x1, .int 0], [], S, v1) Q))))) :
    z_J G (d + 1) mX11_grows (63, [.ref 223, .int x1, .int x2], [], S, v) Q := by
  refine zj_aload_n dX11_grows_63 rfl rfl ?_
  refine zj_callV (M' := mX11_counts) (avs := []) (st := []) (ci := 11) dX11_grows_64 wm_X11_counts wl_X11_314 wi_X11_counts ws_X11_counts (by decide) (zk_223 hL) rfl rfl (by decide) rfl (Nat.le_of_ble_eq_true rfl) (Nat.le_of_ble_eq_true rfl) ⟨Or.inl (z_k0 (zk_223 hL)), trivial⟩ trivial (z_J.mono h (fun r S1 v1 hq => ?_))
  obtain ⟨y1, rfl, rfl, h⟩ := hq
  refine zj_if_eq (tgt := 206) dX11_grows_67 (by decide) (fun c => ?_) (fun c => ?_)
  · replace h := h.1 c
    refine zj_aload_n dX11_grows_206 rfl rfl ?_
    refine zj_iconst (x := 0) dX11_grows_207 rfl ?_
    refine zj_putI (ci := 11) (j := 51) dX11_grows_208 wf_X11_324 (by decide) (by decide) (zk_223 hL) rfl rfl rfl rfl (fun v2 ev2 => ?_)
    replace h := h v2 ev2
    refine zj_aload_n dX11_grows_211 rfl rfl ?_
    refine zj_iconst (x := 0) dX11_grows_212 rfl ?_
    refine zj_putI (ci := 11) (j := 52) dX11_grows_213 wf_X11_327 (by decide) (by decide) (zk_223 hL) rfl rfl rfl rfl (fun v3 ev3 => ?_)
    replace h := h v3 ev3
    refine zj_iconst (x := 0) dX11_grows_216 rfl ?_
    refine zj_istore_n (ls2 := [.ref 223, .int x1, .int 0]) dX11_grows_217 rfl (by decide) rfl rfl ?_
    exact h
  · replace h := h.2 c
    refine zj_iconst (x := 0) dX11_grows_70 rfl ?_
    refine zj_istore_n (ls2 := [.ref 223, .int x1, .int 0]) dX11_grows_71 rfl (by decide) rfl rfl ?_
    exact h
theorem sg_X11_grows_218 {G : z_G} {d : Nat} {S : z_Shp} {v : z_Dat} {Q : Option Value → z_Shp → z_Dat → Prop} {x1 : Int32} {x2 : Int32} (hL : z_L S)
    (h : ((v 223 32) < x2 → (z_J G d mX11_grows (241, [.ref 223, .int x1, .int 0], [], S, v) Q)) ∧ (¬ (v 223 32) < x2 → (vp_in x2 109 ∧ (∀ v1, v1 = z_u v 250 x2.toNatClampNeg x2 → (z_J G d mX11_grows (218, [.ref 223, .int x1, .int (x2 + 1)], [], S, v1) Q))))) :
    z_J G d mX11_grows (218, [.ref 223, .int x1, .int x2], [], S, v) Q := by
  refine zj_iload_n dX11_grows_218 rfl rfl ?_
  refine zj_aload_n dX11_grows_219 rfl rfl ?_
  refine zj_getI (ci := 11) (j := 32) dX11_grows_220 wf_X11_254 (by decide) (by decide) (zk_223 hL) rfl ?_
  refine zj_icmp_gt (tgt := 239) dX11_grows_223 (by decide) (fun c => ?_) (fun c => ?_)
  · replace h := h.1 c
    refine zj_iconst (x := 0) dX11_grows_239 rfl ?_
    refine zj_istore_n (ls2 := [.ref 223, .int x1, .int 0]) dX11_grows_240 rfl (by decide) rfl rfl ?_
    exact h
  · replace h := h.2 c
    refine zj_aload_n dX11_grows_226 rfl rfl ?_
    refine zj_getR (ci := 11) (j := 44) dX11_grows_227 wf_X11_94 (by decide) (by decide) (zk_223 hL) rfl (zr_223_44 hL) ?_
    refine zj_iload_n dX11_grows_230 rfl rfl ?_
    refine zj_iload_n dX11_grows_231 rfl rfl ?_
    refine zj_iastore dX11_grows_232 (zk_250 hL) (by rw [(zl_250 hL)]; exact h.1) (fun v1 ev1 => ?_)
    replace h := h.2 v1 ev1
    refine zj_iinc (y := x2 + 1) (ls2 := [.ref 223, .int x1, .int (x2 + 1)]) dX11_grows_233 rfl rfl (by decide) rfl rfl ?_
    refine zj_goto (tgt := 218) dX11_grows_236 (by decide) ?_
    exact h
theorem sg_X11_grows_72 {G : z_G} {d : Nat} {S : z_Shp} {v : z_Dat} {Q : Option Value → z_Shp → z_Dat → Prop} {x1 : Int32} {x2 : Int32} (hL : z_L S)
    (h : ((v 223 31) ≤ x2 → (z_J G (d + 1) mX11_grows (127, [.ref 223, .int x1, .int 0], [], S, v) Q)) ∧ (¬ (v 223 31) ≤ x2 → ((vp_in x2 321) ∧ ((¬ (v 254 x2.toNatClampNeg) = 0 → (z_J G (d + 1) mX11_grows (72, [.ref 223, .int x1, .int (x2 + 1)], [], S, v) Q)) ∧ ((v 254 x2.toNatClampNeg) = 0 → ((vp_in x2 321) ∧ ((vp_in x2 321) ∧ (z_J G d mX11_opens (0, [.ref 223, .int (v 238 x2.toNatClampNeg)], [], S, v) (fun r S1 v1 => ∃ y1 : Int32, r = some (.int y1) ∧ S1 = S ∧ ((vp_in x2 321) ∧ (z_J G d mX11_opens (0, [.ref 223, .int (v1 239 x2.toNatClampNeg)], [], S, v1) (fun r S1 v2 => ∃ y2 : Int32, r = some (.int y2) ∧ S1 = S ∧ (vp_in x2 321 ∧ (∀ v3, v3 = z_u v2 249 x2.toNatClampNeg ((v 249 x2.toNatClampNeg) + (y1 + y2)) → (z_J G (d + 1) mX11_grows (72, [.ref 223, .int x1, .int (x2 + 1)], [], S, v3) Q))))))))))))))) :
    z_J G (d + 1) mX11_grows (72, [.ref 223, .int x1, .int x2], [], S, v) Q := by
  refine zj_iload_n dX11_grows_72 rfl rfl ?_
  refine zj_aload_n dX11_grows_73 rfl rfl ?_
  refine zj_getI (ci := 11) (j := 31) dX11_grows_74 wf_X11_251 (by decide) (by decide) (zk_223 hL) rfl ?_
  refine zj_icmp_ge (tgt := 125) dX11_grows_77 (by decide) (fun c => ?_) (fun c => ?_)
  · replace h := h.1 c
    refine zj_iconst (x := 0) dX11_grows_125 rfl ?_
    refine zj_istore_n (ls2 := [.ref 223, .int x1, .int 0]) dX11_grows_126 rfl (by decide) rfl rfl ?_
    exact h
  · replace h := h.2 c
    refine zj_aload_n dX11_grows_80 rfl rfl ?_
    refine zj_getR (ci := 11) (j := 48) dX11_grows_81 wf_X11_106 (by decide) (by decide) (zk_223 hL) rfl (zr_223_48 hL) ?_
    refine zj_iload_n dX11_grows_84 rfl rfl ?_
    refine zj_zaload dX11_grows_85 (zk_254 hL) (by rw [(zl_254 hL)]; exact h.1) ?_
    replace h := h.2
    refine zj_if_ne (tgt := 119) dX11_grows_86 (by decide) (fun c => ?_) (fun c => ?_)
    · replace h := h.1 c
      refine zj_iinc (y := x2 + 1) (ls2 := [.ref 223, .int x1, .int (x2 + 1)]) dX11_grows_119 rfl rfl (by decide) rfl rfl ?_
      refine zj_goto (tgt := 72) dX11_grows_122 (by decide) ?_
      exact h
    · replace h := h.2 c
      refine zj_aload_n dX11_grows_89 rfl rfl ?_
      refine zj_getR (ci := 11) (j := 43) dX11_grows_90 wf_X11_91 (by decide) (by decide) (zk_223 hL) rfl (zr_223_43 hL) ?_
      refine zj_iload_n dX11_grows_93 rfl rfl ?_
      refine zj_dup2 dX11_grows_94 rfl rfl ?_
      refine zj_iaload dX11_grows_95 (zk_249 hL) (by rw [(zl_249 hL)]; exact h.1) ?_
      replace h := h.2
      refine zj_aload_n dX11_grows_96 rfl rfl ?_
      refine zj_aload_n dX11_grows_97 rfl rfl ?_
      refine zj_getR (ci := 11) (j := 26) dX11_grows_98 wf_X11_58 (by decide) (by decide) (zk_223 hL) rfl (zr_223_26 hL) ?_
      refine zj_iload_n dX11_grows_101 rfl rfl ?_
      refine zj_iaload dX11_grows_102 (zk_238 hL) (by rw [(zl_238 hL)]; exact h.1) ?_
      replace h := h.2
      refine zj_callV (M' := mX11_opens) (avs := [.int (v 238 x2.toNatClampNeg)]) (st := [.int (v 249 x2.toNatClampNeg), .int x2, .ref 249]) (ci := 11) dX11_grows_103 wm_X11_opens wl_X11_317 wi_X11_opens ws_X11_opens (by decide) (zk_223 hL) rfl rfl (by decide) rfl (Nat.le_of_ble_eq_true rfl) (Nat.le_of_ble_eq_true rfl) ⟨Or.inl (z_k0 (zk_223 hL)), trivial⟩ ⟨Or.inl (z_k0 (zk_249 hL)), trivial⟩ (z_J.mono h (fun r S1 v1 hq => ?_))
      obtain ⟨y1, rfl, rfl, h⟩ := hq
      refine zj_aload_n dX11_grows_106 rfl rfl ?_
      refine zj_aload_n dX11_grows_107 rfl rfl ?_
      refine zj_getR (ci := 11) (j := 27) dX11_grows_108 wf_X11_61 (by decide) (by decide) (zk_223 hL) rfl (zr_223_27 hL) ?_
      refine zj_iload_n dX11_grows_111 rfl rfl ?_
      refine zj_iaload dX11_grows_112 (zk_239 hL) (by rw [(zl_239 hL)]; exact h.1) ?_
      replace h := h.2
      refine zj_callV (M' := mX11_opens) (avs := [.int (v1 239 x2.toNatClampNeg)]) (st := [.int y1, .int (v 249 x2.toNatClampNeg), .int x2, .ref 249]) (ci := 11) dX11_grows_113 wm_X11_opens wl_X11_317 wi_X11_opens ws_X11_opens (by decide) (zk_223 hL) rfl rfl (by decide) rfl (Nat.le_of_ble_eq_true rfl) (Nat.le_of_ble_eq_true rfl) ⟨Or.inl (z_k0 (zk_223 hL)), trivial⟩ ⟨Or.inl (z_k0 (zk_249 hL)), trivial⟩ (z_J.mono h (fun r S1 v2 hq => ?_))
      obtain ⟨y2, rfl, rfl, h⟩ := hq
      refine zj_iadd dX11_grows_116 ?_
      refine zj_iadd dX11_grows_117 ?_
      refine zj_iastore dX11_grows_118 (zk_249 hL) (by rw [(zl_249 hL)]; exact h.1) (fun v3 ev3 => ?_)
      replace h := h.2 v3 ev3
      refine zj_iinc (y := x2 + 1) (ls2 := [.ref 223, .int x1, .int (x2 + 1)]) dX11_grows_119 rfl rfl (by decide) rfl rfl ?_
      refine zj_goto (tgt := 72) dX11_grows_122 (by decide) ?_
      exact h
theorem sg_X11_grows_241 {G : z_G} {d : Nat} {S : z_Shp} {v : z_Dat} {Q : Option Value → z_Shp → z_Dat → Prop} {x1 : Int32} {x2 : Int32} (hL : z_L S)
    (h : ((v 223 31) ≤ x2 → (z_J G d mX11_peels (0, [.ref 223, .null, .null, .null, .null], [], S, v) (fun r S1 v1 => r = none ∧ S1 = S ∧ (Q none S v1)))) ∧ (¬ (v 223 31) ≤ x2 → ((vp_in x2 321) ∧ ((¬ (v 254 x2.toNatClampNeg) = 0 → (∀ v2, v2 = z_u v 223 51 ((v 223 51) + 1) → ((vp_in x2 321) ∧ (z_J G d mX11_leaderOf (0, [.ref 223, .int (v2 238 x2.toNatClampNeg), .null], [], S, v2) (fun r S1 v3 => ∃ y1 : Int32, r = some (.int y1) ∧ S1 = S ∧ ((vp_in x2 321) ∧ (z_J G d mX11_leaderOf (0, [.ref 223, .int (v3 239 x2.toNatClampNeg), .null], [], S, v3) (fun r S1 v4 => ∃ y2 : Int32, r = some (.int y2) ∧ S1 = S ∧ ((¬ y1 = y2 → ((vp_in x2 321) ∧ ((vp_in x2 321) ∧ (z_J G d mX11_unites (0, [.ref 223, .int (v4 238 x2.toNatClampNeg), .int (v4 239 x2.toNatClampNeg), .null, .null], [], S, v4) (fun r S1 v5 => r = none ∧ S1 = S ∧ (vp_in (v5 223 52) 109 ∧ (∀ v6, v6 = z_u v5 252 (v5 223 52).toNatClampNeg x2 → (∀ v7, v7 = z_u v6 223 52 ((v6 223 52) + 1) → (z_J G (d + 1) mX11_grows (241, [.ref 223, .int x1, .int (x2 + 1)], [], S, v7) Q))))))))) ∧ (y1 = y2 → (z_J G (d + 1) mX11_grows (241, [.ref 223, .int x1, .int (x2 + 1)], [], S, v4) Q))))))))))) ∧ ((v 254 x2.toNatClampNeg) = 0 → (z_J G (d + 1) mX11_grows (241, [.ref 223, .int x1, .int (x2 + 1)], [], S, v) Q)))))) :
    z_J G (d + 1) mX11_grows (241, [.ref 223, .int x1, .int x2], [], S, v) Q := by
  refine zj_iload_n dX11_grows_241 rfl rfl ?_
  refine zj_aload_n dX11_grows_242 rfl rfl ?_
  refine zj_getI (ci := 11) (j := 31) dX11_grows_243 wf_X11_251 (by decide) (by decide) (zk_223 hL) rfl ?_
  refine zj_icmp_ge (tgt := 339) dX11_grows_246 (by decide) (fun c => ?_) (fun c => ?_)
  · replace h := h.1 c
    refine zj_aload_n dX11_grows_339 rfl rfl ?_
    refine zj_callV (M' := mX11_peels) (avs := []) (st := []) (ci := 11) dX11_grows_340 wm_X11_peels wl_X11_330 wi_X11_peels ws_X11_peels (by decide) (zk_223 hL) rfl rfl (by decide) rfl (Nat.le_of_ble_eq_true rfl) (Nat.le_of_ble_eq_true rfl) ⟨Or.inl (z_k0 (zk_223 hL)), trivial⟩ trivial (z_J.mono h (fun r S1 v1 hq => ?_))
    obtain ⟨rfl, rfl, h⟩ := hq
    exact zj_vret dX11_grows_343 rfl h
  · replace h := h.2 c
    refine zj_aload_n dX11_grows_249 rfl rfl ?_
    refine zj_getR (ci := 11) (j := 48) dX11_grows_250 wf_X11_106 (by decide) (by decide) (zk_223 hL) rfl (zr_223_48 hL) ?_
    refine zj_iload_n dX11_grows_253 rfl rfl ?_
    refine zj_zaload dX11_grows_254 (zk_254 hL) (by rw [(zl_254 hL)]; exact h.1) ?_
    replace h := h.2
    refine zj_if_ne (tgt := 261) dX11_grows_255 (by decide) (fun c => ?_) (fun c => ?_)
    · replace h := h.1 c
      refine zj_aload_n dX11_grows_261 rfl rfl ?_
      refine zj_dup dX11_grows_262 rfl ?_
      refine zj_getI (ci := 11) (j := 51) dX11_grows_263 wf_X11_324 (by decide) (by decide) (zk_223 hL) rfl ?_
      refine zj_iconst (x := 1) dX11_grows_266 rfl ?_
      refine zj_iadd dX11_grows_267 ?_
      refine zj_putI (ci := 11) (j := 51) dX11_grows_268 wf_X11_324 (by decide) (by decide) (zk_223 hL) rfl rfl rfl rfl (fun v2 ev2 => ?_)
      replace h := h v2 ev2
      refine zj_aload_n dX11_grows_271 rfl rfl ?_
      refine zj_aload_n dX11_grows_272 rfl rfl ?_
      refine zj_getR (ci := 11) (j := 26) dX11_grows_273 wf_X11_58 (by decide) (by decide) (zk_223 hL) rfl (zr_223_26 hL) ?_
      refine zj_iload_n dX11_grows_276 rfl rfl ?_
      refine zj_iaload dX11_grows_277 (zk_238 hL) (by rw [(zl_238 hL)]; exact h.1) ?_
      replace h := h.2
      refine zj_callV (M' := mX11_leaderOf) (avs := [.int (v2 238 x2.toNatClampNeg)]) (st := []) (ci := 11) dX11_grows_278 wm_X11_leaderOf wl_X11_308 wi_X11_leaderOf ws_X11_leaderOf (by decide) (zk_223 hL) rfl rfl (by decide) rfl (Nat.le_of_ble_eq_true rfl) (Nat.le_of_ble_eq_true rfl) ⟨Or.inl (z_k0 (zk_223 hL)), trivial⟩ trivial (z_J.mono h (fun r S1 v3 hq => ?_))
      obtain ⟨y1, rfl, rfl, h⟩ := hq
      refine zj_aload_n dX11_grows_281 rfl rfl ?_
      refine zj_aload_n dX11_grows_282 rfl rfl ?_
      refine zj_getR (ci := 11) (j := 27) dX11_grows_283 wf_X11_61 (by decide) (by decide) (zk_223 hL) rfl (zr_223_27 hL) ?_
      refine zj_iload_n dX11_grows_286 rfl rfl ?_
      refine zj_iaload dX11_grows_287 (zk_239 hL) (by rw [(zl_239 hL)]; exact h.1) ?_
      replace h := h.2
      refine zj_callV (M' := mX11_leaderOf) (avs := [.int (v3 239 x2.toNatClampNeg)]) (st := [.int y1]) (ci := 11) dX11_grows_288 wm_X11_leaderOf wl_X11_308 wi_X11_leaderOf ws_X11_leaderOf (by decide) (zk_223 hL) rfl rfl (by decide) rfl (Nat.le_of_ble_eq_true rfl) (Nat.le_of_ble_eq_true rfl) ⟨Or.inl (z_k0 (zk_223 hL)), trivial⟩ trivial (z_J.mono h (fun r S1 v4 hq => ?_))
      obtain ⟨y2, rfl, rfl, h⟩ := hq
      refine zj_icmp_ne (tgt := 297) dX11_grows_291 (by decide) (fun c => ?_) (fun c => ?_)
      · replace h := h.1 c
        refine zj_aload_n dX11_grows_297 rfl rfl ?_
        refine zj_aload_n dX11_grows_298 rfl rfl ?_
        refine zj_getR (ci := 11) (j := 26) dX11_grows_299 wf_X11_58 (by decide) (by decide) (zk_223 hL) rfl (zr_223_26 hL) ?_
        refine zj_iload_n dX11_grows_302 rfl rfl ?_
        refine zj_iaload dX11_grows_303 (zk_238 hL) (by rw [(zl_238 hL)]; exact h.1) ?_
        replace h := h.2
        refine zj_aload_n dX11_grows_304 rfl rfl ?_
        refine zj_getR (ci := 11) (j := 27) dX11_grows_305 wf_X11_61 (by decide) (by decide) (zk_223 hL) rfl (zr_223_27 hL) ?_
        refine zj_iload_n dX11_grows_308 rfl rfl ?_
        refine zj_iaload dX11_grows_309 (zk_239 hL) (by rw [(zl_239 hL)]; exact h.1) ?_
        replace h := h.2
        refine zj_callV (M' := mX11_unites) (avs := [.int (v4 238 x2.toNatClampNeg), .int (v4 239 x2.toNatClampNeg)]) (st := []) (ci := 11) dX11_grows_310 wm_X11_unites wl_X11_320 wi_X11_unites ws_X11_unites (by decide) (zk_223 hL) rfl rfl (by decide) rfl (Nat.le_of_ble_eq_true rfl) (Nat.le_of_ble_eq_true rfl) ⟨Or.inl (z_k0 (zk_223 hL)), trivial⟩ trivial (z_J.mono h (fun r S1 v5 hq => ?_))
        obtain ⟨rfl, rfl, h⟩ := hq
        refine zj_aload_n dX11_grows_313 rfl rfl ?_
        refine zj_getR (ci := 11) (j := 46) dX11_grows_314 wf_X11_100 (by decide) (by decide) (zk_223 hL) rfl (zr_223_46 hL) ?_
        refine zj_aload_n dX11_grows_317 rfl rfl ?_
        refine zj_getI (ci := 11) (j := 52) dX11_grows_318 wf_X11_327 (by decide) (by decide) (zk_223 hL) rfl ?_
        refine zj_iload_n dX11_grows_321 rfl rfl ?_
        refine zj_iastore dX11_grows_322 (zk_252 hL) (by rw [(zl_252 hL)]; exact h.1) (fun v6 ev6 => ?_)
        replace h := h.2 v6 ev6
        refine zj_aload_n dX11_grows_323 rfl rfl ?_
        refine zj_dup dX11_grows_324 rfl ?_
        refine zj_getI (ci := 11) (j := 52) dX11_grows_325 wf_X11_327 (by decide) (by decide) (zk_223 hL) rfl ?_
        refine zj_iconst (x := 1) dX11_grows_328 rfl ?_
        refine zj_iadd dX11_grows_329 ?_
        refine zj_putI (ci := 11) (j := 52) dX11_grows_330 wf_X11_327 (by decide) (by decide) (zk_223 hL) rfl rfl rfl rfl (fun v7 ev7 => ?_)
        replace h := h v7 ev7
        refine zj_iinc (y := x2 + 1) (ls2 := [.ref 223, .int x1, .int (x2 + 1)]) dX11_grows_333 rfl rfl (by decide) rfl rfl ?_
        refine zj_goto (tgt := 241) dX11_grows_336 (by decide) ?_
        exact h
      · replace h := h.2 c
        refine zj_goto (tgt := 333) dX11_grows_294 (by decide) ?_
        refine zj_iinc (y := x2 + 1) (ls2 := [.ref 223, .int x1, .int (x2 + 1)]) dX11_grows_333 rfl rfl (by decide) rfl rfl ?_
        refine zj_goto (tgt := 241) dX11_grows_336 (by decide) ?_
        exact h
    · replace h := h.2 c
      refine zj_goto (tgt := 333) dX11_grows_258 (by decide) ?_
      refine zj_iinc (y := x2 + 1) (ls2 := [.ref 223, .int x1, .int (x2 + 1)]) dX11_grows_333 rfl rfl (by decide) rfl rfl ?_
      refine zj_goto (tgt := 241) dX11_grows_336 (by decide) ?_
      exact h
theorem sg_X11_grows_127 {G : z_G} {d : Nat} {S : z_Shp} {v : z_Dat} {Q : Option Value → z_Shp → z_Dat → Prop} {x1 : Int32} {x2 : Int32} (hL : z_L S)
    (h : ((v 223 31) ≤ x2 → (∀ v1, v1 = z_u v 223 50 ((v 223 50) + 1) → (z_J G (d + 1) mX11_grows (63, [.ref 223, .int x1, .int x2], [], S, v1) Q))) ∧ (¬ (v 223 31) ≤ x2 → ((vp_in x2 321) ∧ ((¬ (v 254 x2.toNatClampNeg) = 0 → (z_J G (d + 1) mX11_grows (127, [.ref 223, .int x1, .int (x2 + 1)], [], S, v) Q)) ∧ ((v 254 x2.toNatClampNeg) = 0 → ((vp_in x2 321) ∧ ((vp_in x2 321) ∧ ((((2 : Int32) * (v 240 x2.toNatClampNeg)) ≤ (v 249 x2.toNatClampNeg) → (vp_in x2 321 ∧ (∀ v2, v2 = z_u v 254 x2.toNatClampNeg (vp_nar .boolean 1) → ((vp_in x2 321) ∧ ((vp_in x2 321) ∧ (z_J G d mX11_unites (0, [.ref 223, .int (v2 238 x2.toNatClampNeg), .int (v2 239 x2.toNatClampNeg), .null, .null], [], S, v2) (fun r S1 v3 => r = none ∧ S1 = S ∧ (z_J G (d + 1) mX11_grows (127, [.ref 223, .int x1, .int (x2 + 1)], [], S, v3) Q)))))))) ∧ (¬ ((2 : Int32) * (v 240 x2.toNatClampNeg)) ≤ (v 249 x2.toNatClampNeg) → (z_J G (d + 1) mX11_grows (127, [.ref 223, .int x1, .int (x2 + 1)], [], S, v) Q)))))))))) :
    z_J G (d + 1) mX11_grows (127, [.ref 223, .int x1, .int x2], [], S, v) Q := by
  refine zj_iload_n dX11_grows_127 rfl rfl ?_
  refine zj_aload_n dX11_grows_128 rfl rfl ?_
  refine zj_getI (ci := 11) (j := 31) dX11_grows_129 wf_X11_251 (by decide) (by decide) (zk_223 hL) rfl ?_
  refine zj_icmp_ge (tgt := 193) dX11_grows_132 (by decide) (fun c => ?_) (fun c => ?_)
  · replace h := h.1 c
    refine zj_aload_n dX11_grows_193 rfl rfl ?_
    refine zj_dup dX11_grows_194 rfl ?_
    refine zj_getI (ci := 11) (j := 50) dX11_grows_195 wf_X11_311 (by decide) (by decide) (zk_223 hL) rfl ?_
    refine zj_iconst (x := 1) dX11_grows_198 rfl ?_
    refine zj_iadd dX11_grows_199 ?_
    refine zj_putI (ci := 11) (j := 50) dX11_grows_200 wf_X11_311 (by decide) (by decide) (zk_223 hL) rfl rfl rfl rfl (fun v1 ev1 => ?_)
    replace h := h v1 ev1
    refine zj_goto (tgt := 63) dX11_grows_203 (by decide) ?_
    exact h
  · replace h := h.2 c
    refine zj_aload_n dX11_grows_135 rfl rfl ?_
    refine zj_getR (ci := 11) (j := 48) dX11_grows_136 wf_X11_106 (by decide) (by decide) (zk_223 hL) rfl (zr_223_48 hL) ?_
    refine zj_iload_n dX11_grows_139 rfl rfl ?_
    refine zj_zaload dX11_grows_140 (zk_254 hL) (by rw [(zl_254 hL)]; exact h.1) ?_
    replace h := h.2
    refine zj_if_ne (tgt := 187) dX11_grows_141 (by decide) (fun c => ?_) (fun c => ?_)
    · replace h := h.1 c
      refine zj_iinc (y := x2 + 1) (ls2 := [.ref 223, .int x1, .int (x2 + 1)]) dX11_grows_187 rfl rfl (by decide) rfl rfl ?_
      refine zj_goto (tgt := 127) dX11_grows_190 (by decide) ?_
      exact h
    · replace h := h.2 c
      refine zj_aload_n dX11_grows_144 rfl rfl ?_
      refine zj_getR (ci := 11) (j := 43) dX11_grows_145 wf_X11_91 (by decide) (by decide) (zk_223 hL) rfl (zr_223_43 hL) ?_
      refine zj_iload_n dX11_grows_148 rfl rfl ?_
      refine zj_iaload dX11_grows_149 (zk_249 hL) (by rw [(zl_249 hL)]; exact h.1) ?_
      replace h := h.2
      refine zj_iconst (x := 2) dX11_grows_150 rfl ?_
      refine zj_aload_n dX11_grows_151 rfl rfl ?_
      refine zj_getR (ci := 11) (j := 28) dX11_grows_152 wf_X11_64 (by decide) (by decide) (zk_223 hL) rfl (zr_223_28 hL) ?_
      refine zj_iload_n dX11_grows_155 rfl rfl ?_
      refine zj_iaload dX11_grows_156 (zk_240 hL) (by rw [(zl_240 hL)]; exact h.1) ?_
      replace h := h.2
      refine zj_imul dX11_grows_157 ?_
      refine zj_icmp_ge (tgt := 164) dX11_grows_158 (by decide) (fun c => ?_) (fun c => ?_)
      · replace h := h.1 c
        refine zj_aload_n dX11_grows_164 rfl rfl ?_
        refine zj_getR (ci := 11) (j := 48) dX11_grows_165 wf_X11_106 (by decide) (by decide) (zk_223 hL) rfl (zr_223_48 hL) ?_
        refine zj_iload_n dX11_grows_168 rfl rfl ?_
        refine zj_iconst (x := 1) dX11_grows_169 rfl ?_
        refine zj_zastore dX11_grows_170 (zk_254 hL) (by rw [(zl_254 hL)]; exact h.1) (fun v2 ev2 => ?_)
        replace h := h.2 v2 ev2
        refine zj_aload_n dX11_grows_171 rfl rfl ?_
        refine zj_aload_n dX11_grows_172 rfl rfl ?_
        refine zj_getR (ci := 11) (j := 26) dX11_grows_173 wf_X11_58 (by decide) (by decide) (zk_223 hL) rfl (zr_223_26 hL) ?_
        refine zj_iload_n dX11_grows_176 rfl rfl ?_
        refine zj_iaload dX11_grows_177 (zk_238 hL) (by rw [(zl_238 hL)]; exact h.1) ?_
        replace h := h.2
        refine zj_aload_n dX11_grows_178 rfl rfl ?_
        refine zj_getR (ci := 11) (j := 27) dX11_grows_179 wf_X11_61 (by decide) (by decide) (zk_223 hL) rfl (zr_223_27 hL) ?_
        refine zj_iload_n dX11_grows_182 rfl rfl ?_
        refine zj_iaload dX11_grows_183 (zk_239 hL) (by rw [(zl_239 hL)]; exact h.1) ?_
        replace h := h.2
        refine zj_callV (M' := mX11_unites) (avs := [.int (v2 238 x2.toNatClampNeg), .int (v2 239 x2.toNatClampNeg)]) (st := []) (ci := 11) dX11_grows_184 wm_X11_unites wl_X11_320 wi_X11_unites ws_X11_unites (by decide) (zk_223 hL) rfl rfl (by decide) rfl (Nat.le_of_ble_eq_true rfl) (Nat.le_of_ble_eq_true rfl) ⟨Or.inl (z_k0 (zk_223 hL)), trivial⟩ trivial (z_J.mono h (fun r S1 v3 hq => ?_))
        obtain ⟨rfl, rfl, h⟩ := hq
        refine zj_iinc (y := x2 + 1) (ls2 := [.ref 223, .int x1, .int (x2 + 1)]) dX11_grows_187 rfl rfl (by decide) rfl rfl ?_
        refine zj_goto (tgt := 127) dX11_grows_190 (by decide) ?_
        exact h
      · replace h := h.2 c
        refine zj_goto (tgt := 187) dX11_grows_161 (by decide) ?_
        refine zj_iinc (y := x2 + 1) (ls2 := [.ref 223, .int x1, .int (x2 + 1)]) dX11_grows_187 rfl rfl (by decide) rfl rfl ?_
        refine zj_goto (tgt := 127) dX11_grows_190 (by decide) ?_
        exact h
theorem sg_X11_image_0 {G : z_G} {d : Nat} {S : z_Shp} {v : z_Dat} {Q : Option Value → z_Shp → z_Dat → Prop} {x1 : Int32} (hL : z_L S)
    (h : ∀ v1, v1 = z_u v 223 0 0 → (((0 ≤ x1 ∧ x1 ≤ 1) → (z_J G d mX11_copies (0, [.ref 223, .ref 224, .int 0, .ref 225, .int ((71 : Int32) * x1), .null], [], S, v1) (fun r S1 v2 => r = none ∧ S1 = S ∧ (vp_in x1 2 ∧ (∀ v3, v3 = z_u v2 228 x1.toNatClampNeg (vp_nar .boolean 1) → (Q (some (.int 1)) S v3)))))) ∧ (¬ (0 ≤ x1 ∧ x1 ≤ 1) → (Q (some (.int 0)) S v1)))) :
    z_J G (d + 1) mX11_image (0, [.ref 223, .int x1], [], S, v) Q := by
  refine zj_aload_n dX11_image_0 rfl rfl ?_
  refine zj_iconst (x := 0) dX11_image_1 rfl ?_
  refine zj_putI (ci := 11) (j := 0) dX11_image_2 wf_X11_1 (by decide) (by decide) (zk_223 hL) rfl rfl rfl rfl (fun v1 ev1 => ?_)
  replace h := h v1 ev1
  refine zj_iload_n dX11_image_5 rfl rfl ?_
  refine zj_iconst (x := 0) dX11_image_6 rfl ?_
  refine zj_iconst (x := 1) dX11_image_7 rfl ?_
  refine zj_callS (M' := mX11_isIn) (avs := [.int x1, .int 0, .int 1]) (st := []) dX11_image_8 wm_X11_isIn wl_X11_144 wt_X11_isIn rfl (by decide) rfl (Nat.le_of_ble_eq_true rfl) (Nat.le_of_ble_eq_true rfl) ⟨Or.inl (z_k0 (zk_223 hL)), trivial⟩ trivial (hp_X11_isIn (fun c => ?_) (fun c => ?_))
  · replace h := h.1 c
    refine zj_if_ne (tgt := 16) dX11_image_11 (by decide) (fun _ => ?_) (fun q => absurd q (by decide))
    refine zj_aload_n dX11_image_16 rfl rfl ?_
    refine zj_aload_n dX11_image_17 rfl rfl ?_
    refine zj_getR (ci := 11) (j := 1) dX11_image_18 wf_X11_13 (by decide) (by decide) (zk_223 hL) rfl (zr_223_1 hL) ?_
    refine zj_iconst (x := 0) dX11_image_21 rfl ?_
    refine zj_aload_n dX11_image_22 rfl rfl ?_
    refine zj_getR (ci := 11) (j := 2) dX11_image_23 wf_X11_17 (by decide) (by decide) (zk_223 hL) rfl (zr_223_2 hL) ?_
    refine zj_bipush (x := 71) dX11_image_26 rfl ?_
    refine zj_iload_n dX11_image_28 rfl rfl ?_
    refine zj_imul dX11_image_29 ?_
    refine zj_callV (M' := mX11_copies) (avs := [.ref 224, .int 0, .ref 225, .int ((71 : Int32) * x1)]) (st := []) (ci := 11) dX11_image_30 wm_X11_copies wl_X11_183 wi_X11_copies ws_X11_copies (by decide) (zk_223 hL) rfl rfl (by decide) rfl (Nat.le_of_ble_eq_true rfl) (Nat.le_of_ble_eq_true rfl) ⟨Or.inl (z_k0 (zk_223 hL)), trivial⟩ trivial (z_J.mono h (fun r S1 v2 hq => ?_))
    obtain ⟨rfl, rfl, h⟩ := hq
    refine zj_aload_n dX11_image_33 rfl rfl ?_
    refine zj_getR (ci := 11) (j := 5) dX11_image_34 wf_X11_26 (by decide) (by decide) (zk_223 hL) rfl (zr_223_5 hL) ?_
    refine zj_iload_n dX11_image_37 rfl rfl ?_
    refine zj_iconst (x := 1) dX11_image_38 rfl ?_
    refine zj_zastore dX11_image_39 (zk_228 hL) (by rw [(zl_228 hL)]; exact h.1) (fun v3 ev3 => ?_)
    replace h := h.2 v3 ev3
    refine zj_iconst (x := 1) dX11_image_40 rfl ?_
    exact zj_iret dX11_image_41 rfl (by decide) h
  · replace h := h.2 c
    refine zj_if_ne (tgt := 16) dX11_image_11 (by decide) (fun q => absurd (by decide) q) (fun _ => ?_)
    refine zj_iconst (x := 0) dX11_image_14 rfl ?_
    exact zj_iret dX11_image_15 rfl (by decide) h
theorem sg_X11_isCheck_0 {G : z_G} {d : Nat} {S : z_Shp} {v : z_Dat} {Q : Option Value → z_Shp → z_Dat → Prop} {x1 : Int32} {x2 : Int32} (hL : z_L S)
    (h : ((x1 = 0 ∨ x1 = 1) → (((0 ≤ x2 ∧ x2 ≤ ((v 223 14) - 1)) → (Q (some (.int 1)) S v)) ∧ (¬ (0 ≤ x2 ∧ x2 ≤ ((v 223 14) - 1)) → (Q (some (.int 0)) S v)))) ∧ (¬ (x1 = 0 ∨ x1 = 1) → (Q (some (.int 0)) S v))) :
    z_J G (d + 1) mX11_isCheck (0, [.ref 223, .int x1, .int x2], [], S, v) Q := by
  refine zj_iload_n dX11_isCheck_0 rfl rfl ?_
  refine zj_callS (M' := mX11_isKind) (avs := [.int x1]) (st := []) dX11_isCheck_1 wm_X11_isKind wl_X11_165 wt_X11_isKind rfl (by decide) rfl (Nat.le_of_ble_eq_true rfl) (Nat.le_of_ble_eq_true rfl) ⟨Or.inl (z_k0 (zk_223 hL)), trivial⟩ trivial (hp_X11_isKind (fun c => ?_) (fun c => ?_))
  · replace h := h.1 c
    refine zj_if_eq (tgt := 25) dX11_isCheck_4 (by decide) (fun q => absurd q (by decide)) (fun _ => ?_)
    refine zj_iload_n dX11_isCheck_7 rfl rfl ?_
    refine zj_iconst (x := 0) dX11_isCheck_8 rfl ?_
    refine zj_aload_n dX11_isCheck_9 rfl rfl ?_
    refine zj_getI (ci := 11) (j := 14) dX11_isCheck_10 wf_X11_151 (by decide) (by decide) (zk_223 hL) rfl ?_
    refine zj_iconst (x := 1) dX11_isCheck_13 rfl ?_
    refine zj_isub dX11_isCheck_14 ?_
    refine zj_callS (M' := mX11_isIn) (avs := [.int x2, .int 0, .int ((v 223 14) - 1)]) (st := []) dX11_isCheck_15 wm_X11_isIn wl_X11_144 wt_X11_isIn rfl (by decide) rfl (Nat.le_of_ble_eq_true rfl) (Nat.le_of_ble_eq_true rfl) ⟨Or.inl (z_k0 (zk_223 hL)), trivial⟩ trivial (hp_X11_isIn (fun c => ?_) (fun c => ?_))
    · replace h := h.1 c
      refine zj_if_eq (tgt := 25) dX11_isCheck_18 (by decide) (fun q => absurd q (by decide)) (fun _ => ?_)
      refine zj_iconst (x := 1) dX11_isCheck_21 rfl ?_
      refine zj_goto (tgt := 26) dX11_isCheck_22 (by decide) ?_
      exact zj_iret dX11_isCheck_26 rfl (by decide) h
    · replace h := h.2 c
      refine zj_if_eq (tgt := 25) dX11_isCheck_18 (by decide) (fun _ => ?_) (fun q => absurd (by decide) q)
      refine zj_iconst (x := 0) dX11_isCheck_25 rfl ?_
      exact zj_iret dX11_isCheck_26 rfl (by decide) h
  · replace h := h.2 c
    refine zj_if_eq (tgt := 25) dX11_isCheck_4 (by decide) (fun _ => ?_) (fun q => absurd (by decide) q)
    refine zj_iconst (x := 0) dX11_isCheck_25 rfl ?_
    exact zj_iret dX11_isCheck_26 rfl (by decide) h
theorem sg_X11_isLike_0 {G : z_G} {d : Nat} {S : z_Shp} {v : z_Dat} {Q : Option Value → z_Shp → z_Dat → Prop} {x1 : Int32} {x2 : Int32} (hL : z_L S)
    (h : ((x1 = 0 ∨ x1 = 1) → (((0 ≤ x2 ∧ x2 ≤ 1) → (Q (some (.int 1)) S v)) ∧ (¬ (0 ≤ x2 ∧ x2 ≤ 1) → (Q (some (.int 0)) S v)))) ∧ (¬ (x1 = 0 ∨ x1 = 1) → (Q (some (.int 0)) S v))) :
    z_J G (d + 1) mX11_isLike (0, [.ref 223, .int x1, .int x2], [], S, v) Q := by
  refine zj_iload_n dX11_isLike_0 rfl rfl ?_
  refine zj_callS (M' := mX11_isKind) (avs := [.int x1]) (st := []) dX11_isLike_1 wm_X11_isKind wl_X11_165 wt_X11_isKind rfl (by decide) rfl (Nat.le_of_ble_eq_true rfl) (Nat.le_of_ble_eq_true rfl) ⟨Or.inl (z_k0 (zk_223 hL)), trivial⟩ trivial (hp_X11_isKind (fun c => ?_) (fun c => ?_))
  · replace h := h.1 c
    refine zj_if_eq (tgt := 20) dX11_isLike_4 (by decide) (fun q => absurd q (by decide)) (fun _ => ?_)
    refine zj_iload_n dX11_isLike_7 rfl rfl ?_
    refine zj_iconst (x := 0) dX11_isLike_8 rfl ?_
    refine zj_iconst (x := 1) dX11_isLike_9 rfl ?_
    refine zj_callS (M' := mX11_isIn) (avs := [.int x2, .int 0, .int 1]) (st := []) dX11_isLike_10 wm_X11_isIn wl_X11_144 wt_X11_isIn rfl (by decide) rfl (Nat.le_of_ble_eq_true rfl) (Nat.le_of_ble_eq_true rfl) ⟨Or.inl (z_k0 (zk_223 hL)), trivial⟩ trivial (hp_X11_isIn (fun c => ?_) (fun c => ?_))
    · replace h := h.1 c
      refine zj_if_eq (tgt := 20) dX11_isLike_13 (by decide) (fun q => absurd q (by decide)) (fun _ => ?_)
      refine zj_iconst (x := 1) dX11_isLike_16 rfl ?_
      refine zj_goto (tgt := 21) dX11_isLike_17 (by decide) ?_
      exact zj_iret dX11_isLike_21 rfl (by decide) h
    · replace h := h.2 c
      refine zj_if_eq (tgt := 20) dX11_isLike_13 (by decide) (fun _ => ?_) (fun q => absurd (by decide) q)
      refine zj_iconst (x := 0) dX11_isLike_20 rfl ?_
      exact zj_iret dX11_isLike_21 rfl (by decide) h
  · replace h := h.2 c
    refine zj_if_eq (tgt := 20) dX11_isLike_4 (by decide) (fun _ => ?_) (fun q => absurd (by decide) q)
    refine zj_iconst (x := 0) dX11_isLike_20 rfl ?_
    exact zj_iret dX11_isLike_21 rfl (by decide) h
theorem sg_X11_isPair_0 {G : z_G} {d : Nat} {S : z_Shp} {v : z_Dat} {Q : Option Value → z_Shp → z_Dat → Prop} {x1 : Int32} {x2 : Int32} {x3 : Int32} (hL : z_L S)
    (h : ((x1 = 0 ∨ x1 = 1) → (z_J G d mX11_laysNet (0, [.ref 223, .int x1, .null, .null, .null, .null, .null, .null], [], S, v) (fun r S1 v1 => r = none ∧ S1 = S ∧ (((0 ≤ x2 ∧ x2 ≤ ((v1 223 33) - 1)) → ((((-1) ≤ x3 ∧ x3 ≤ ((v1 223 33) - 1)) → ((x2 = x3 → (Q (some (.int 0)) S v1)) ∧ (¬ x2 = x3 → (Q (some (.int 1)) S v1)))) ∧ (¬ ((-1) ≤ x3 ∧ x3 ≤ ((v1 223 33) - 1)) → (Q (some (.int 0)) S v1)))) ∧ (¬ (0 ≤ x2 ∧ x2 ≤ ((v1 223 33) - 1)) → (Q (some (.int 0)) S v1)))))) ∧ (¬ (x1 = 0 ∨ x1 = 1) → (Q (some (.int 0)) S v))) :
    z_J G (d + 1) mX11_isPair (0, [.ref 223, .int x1, .int x2, .int x3], [], S, v) Q := by
  refine zj_iload_n dX11_isPair_0 rfl rfl ?_
  refine zj_callS (M' := mX11_isKind) (avs := [.int x1]) (st := []) dX11_isPair_1 wm_X11_isKind wl_X11_165 wt_X11_isKind rfl (by decide) rfl (Nat.le_of_ble_eq_true rfl) (Nat.le_of_ble_eq_true rfl) ⟨Or.inl (z_k0 (zk_223 hL)), trivial⟩ trivial (hp_X11_isKind (fun c => ?_) (fun c => ?_))
  · replace h := h.1 c
    refine zj_if_ne (tgt := 9) dX11_isPair_4 (by decide) (fun _ => ?_) (fun q => absurd q (by decide))
    refine zj_aload_n dX11_isPair_9 rfl rfl ?_
    refine zj_iload_n dX11_isPair_10 rfl rfl ?_
    refine zj_callV (M' := mX11_laysNet) (avs := [.int x1]) (st := []) (ci := 11) dX11_isPair_11 wm_X11_laysNet wl_X11_270 wi_X11_laysNet ws_X11_laysNet (by decide) (zk_223 hL) rfl rfl (by decide) rfl (Nat.le_of_ble_eq_true rfl) (Nat.le_of_ble_eq_true rfl) ⟨Or.inl (z_k0 (zk_223 hL)), trivial⟩ trivial (z_J.mono h (fun r S1 v1 hq => ?_))
    obtain ⟨rfl, rfl, h⟩ := hq
    refine zj_iload_n dX11_isPair_14 rfl rfl ?_
    refine zj_iconst (x := 0) dX11_isPair_15 rfl ?_
    refine zj_aload_n dX11_isPair_16 rfl rfl ?_
    refine zj_getI (ci := 11) (j := 33) dX11_isPair_17 wf_X11_257 (by decide) (by decide) (zk_223 hL) rfl ?_
    refine zj_iconst (x := 1) dX11_isPair_20 rfl ?_
    refine zj_isub dX11_isPair_21 ?_
    refine zj_callS (M' := mX11_isIn) (avs := [.int x2, .int 0, .int ((v1 223 33) - 1)]) (st := []) dX11_isPair_22 wm_X11_isIn wl_X11_144 wt_X11_isIn rfl (by decide) rfl (Nat.le_of_ble_eq_true rfl) (Nat.le_of_ble_eq_true rfl) ⟨Or.inl (z_k0 (zk_223 hL)), trivial⟩ trivial (hp_X11_isIn (fun c => ?_) (fun c => ?_))
    · replace h := h.1 c
      refine zj_if_eq (tgt := 51) dX11_isPair_25 (by decide) (fun q => absurd q (by decide)) (fun _ => ?_)
      refine zj_iload_n dX11_isPair_28 rfl rfl ?_
      refine zj_iconst (x := (-1)) dX11_isPair_29 rfl ?_
      refine zj_aload_n dX11_isPair_30 rfl rfl ?_
      refine zj_getI (ci := 11) (j := 33) dX11_isPair_31 wf_X11_257 (by decide) (by decide) (zk_223 hL) rfl ?_
      refine zj_iconst (x := 1) dX11_isPair_34 rfl ?_
      refine zj_isub dX11_isPair_35 ?_
      refine zj_callS (M' := mX11_isIn) (avs := [.int x3, .int (-1), .int ((v1 223 33) - 1)]) (st := []) dX11_isPair_36 wm_X11_isIn wl_X11_144 wt_X11_isIn rfl (by decide) rfl (Nat.le_of_ble_eq_true rfl) (Nat.le_of_ble_eq_true rfl) ⟨Or.inl (z_k0 (zk_223 hL)), trivial⟩ trivial (hp_X11_isIn (fun c => ?_) (fun c => ?_))
      · replace h := h.1 c
        refine zj_if_eq (tgt := 51) dX11_isPair_39 (by decide) (fun q => absurd q (by decide)) (fun _ => ?_)
        refine zj_iload_n dX11_isPair_42 rfl rfl ?_
        refine zj_iload_n dX11_isPair_43 rfl rfl ?_
        refine zj_icmp_eq (tgt := 51) dX11_isPair_44 (by decide) (fun c => ?_) (fun c => ?_)
        · replace h := h.1 c
          refine zj_iconst (x := 0) dX11_isPair_51 rfl ?_
          exact zj_iret dX11_isPair_52 rfl (by decide) h
        · replace h := h.2 c
          refine zj_iconst (x := 1) dX11_isPair_47 rfl ?_
          refine zj_goto (tgt := 52) dX11_isPair_48 (by decide) ?_
          exact zj_iret dX11_isPair_52 rfl (by decide) h
      · replace h := h.2 c
        refine zj_if_eq (tgt := 51) dX11_isPair_39 (by decide) (fun _ => ?_) (fun q => absurd (by decide) q)
        refine zj_iconst (x := 0) dX11_isPair_51 rfl ?_
        exact zj_iret dX11_isPair_52 rfl (by decide) h
    · replace h := h.2 c
      refine zj_if_eq (tgt := 51) dX11_isPair_25 (by decide) (fun _ => ?_) (fun q => absurd (by decide) q)
      refine zj_iconst (x := 0) dX11_isPair_51 rfl ?_
      exact zj_iret dX11_isPair_52 rfl (by decide) h
  · replace h := h.2 c
    refine zj_if_ne (tgt := 9) dX11_isPair_4 (by decide) (fun q => absurd (by decide) q) (fun _ => ?_)
    refine zj_iconst (x := 0) dX11_isPair_7 rfl ?_
    exact zj_iret dX11_isPair_8 rfl (by decide) h
theorem sg_X11_keeps_0 {G : z_G} {d : Nat} {S : z_Shp} {v : z_Dat} {Q : Option Value → z_Shp → z_Dat → Prop} (hL : z_L S)
    (h : (¬ (v 223 6) = 8 → (z_J G d mX11_copies (0, [.ref 223, .ref 224, .int 0, .ref 226, .int ((71 : Int32) * (v 223 6)), .null], [], S, v) (fun r S1 v1 => r = none ∧ S1 = S ∧ (∀ v2, v2 = z_u v1 223 6 ((v1 223 6) + 1) → (Q none S v2))))) ∧ ((v 223 6) = 8 → (z_J G (d + 1) mX11_keeps (11, [.ref 223, .int 0], [], S, v) Q))) :
    z_J G (d + 1) mX11_keeps (0, [.ref 223, .null], [], S, v) Q := by
  refine zj_aload_n dX11_keeps_0 rfl rfl ?_
  refine zj_getI (ci := 11) (j := 6) dX11_keeps_1 wf_X11_180 (by decide) (by decide) (zk_223 hL) rfl ?_
  refine zj_bipush (x := 8) dX11_keeps_4 rfl ?_
  refine zj_icmp_ne (tgt := 49) dX11_keeps_6 (by decide) (fun c => ?_) (fun c => ?_)
  · replace h := h.1 c
    refine zj_aload_n dX11_keeps_49 rfl rfl ?_
    refine zj_aload_n dX11_keeps_50 rfl rfl ?_
    refine zj_getR (ci := 11) (j := 1) dX11_keeps_51 wf_X11_13 (by decide) (by decide) (zk_223 hL) rfl (zr_223_1 hL) ?_
    refine zj_iconst (x := 0) dX11_keeps_54 rfl ?_
    refine zj_aload_n dX11_keeps_55 rfl rfl ?_
    refine zj_getR (ci := 11) (j := 3) dX11_keeps_56 wf_X11_20 (by decide) (by decide) (zk_223 hL) rfl (zr_223_3 hL) ?_
    refine zj_bipush (x := 71) dX11_keeps_59 rfl ?_
    refine zj_aload_n dX11_keeps_61 rfl rfl ?_
    refine zj_getI (ci := 11) (j := 6) dX11_keeps_62 wf_X11_180 (by decide) (by decide) (zk_223 hL) rfl ?_
    refine zj_imul dX11_keeps_65 ?_
    refine zj_callV (M' := mX11_copies) (avs := [.ref 224, .int 0, .ref 226, .int ((71 : Int32) * (v 223 6))]) (st := []) (ci := 11) dX11_keeps_66 wm_X11_copies wl_X11_183 wi_X11_copies ws_X11_copies (by decide) (zk_223 hL) rfl rfl (by decide) rfl (Nat.le_of_ble_eq_true rfl) (Nat.le_of_ble_eq_true rfl) ⟨Or.inl (z_k0 (zk_223 hL)), trivial⟩ trivial (z_J.mono h (fun r S1 v1 hq => ?_))
    obtain ⟨rfl, rfl, h⟩ := hq
    refine zj_aload_n dX11_keeps_69 rfl rfl ?_
    refine zj_dup dX11_keeps_70 rfl ?_
    refine zj_getI (ci := 11) (j := 6) dX11_keeps_71 wf_X11_180 (by decide) (by decide) (zk_223 hL) rfl ?_
    refine zj_iconst (x := 1) dX11_keeps_74 rfl ?_
    refine zj_iadd dX11_keeps_75 ?_
    refine zj_putI (ci := 11) (j := 6) dX11_keeps_76 wf_X11_180 (by decide) (by decide) (zk_223 hL) rfl rfl rfl rfl (fun v2 ev2 => ?_)
    replace h := h v2 ev2
    exact zj_vret dX11_keeps_79 rfl h
  · replace h := h.2 c
    refine zj_iconst (x := 0) dX11_keeps_9 rfl ?_
    refine zj_istore_n (ls2 := [.ref 223, .int 0]) dX11_keeps_10 rfl (by decide) rfl rfl ?_
    exact h
theorem sg_X11_keeps_11 {G : z_G} {d : Nat} {S : z_Shp} {v : z_Dat} {Q : Option Value → z_Shp → z_Dat → Prop} {x1 : Int32} (hL : z_L S)
    (h : (497 ≤ x1 → (∀ v1, v1 = z_u v 223 6 ((v 223 6) - 1) → (z_J G d mX11_copies (0, [.ref 223, .ref 224, .int 0, .ref 226, .int ((71 : Int32) * (v1 223 6)), .null], [], S, v1) (fun r S1 v2 => r = none ∧ S1 = S ∧ (∀ v3, v3 = z_u v2 223 6 ((v2 223 6) + 1) → (Q none S v3)))))) ∧ (¬ 497 ≤ x1 → ((vp_in (x1 + 71) 568) ∧ (vp_in x1 568 ∧ (∀ v4, v4 = z_u v 226 x1.toNatClampNeg (v 226 (x1 + 71).toNatClampNeg) → (z_J G (d + 1) mX11_keeps (11, [.ref 223, .int (x1 + 1)], [], S, v4) Q)))))) :
    z_J G (d + 1) mX11_keeps (11, [.ref 223, .int x1], [], S, v) Q := by
  refine zj_iload_n dX11_keeps_11 rfl rfl ?_
  refine zj_sipush (x := 497) dX11_keeps_12 rfl ?_
  refine zj_icmp_ge (tgt := 39) dX11_keeps_15 (by decide) (fun c => ?_) (fun c => ?_)
  · replace h := h.1 c
    refine zj_aload_n dX11_keeps_39 rfl rfl ?_
    refine zj_dup dX11_keeps_40 rfl ?_
    refine zj_getI (ci := 11) (j := 6) dX11_keeps_41 wf_X11_180 (by decide) (by decide) (zk_223 hL) rfl ?_
    refine zj_iconst (x := 1) dX11_keeps_44 rfl ?_
    refine zj_isub dX11_keeps_45 ?_
    refine zj_putI (ci := 11) (j := 6) dX11_keeps_46 wf_X11_180 (by decide) (by decide) (zk_223 hL) rfl rfl rfl rfl (fun v1 ev1 => ?_)
    replace h := h v1 ev1
    refine zj_aload_n dX11_keeps_49 rfl rfl ?_
    refine zj_aload_n dX11_keeps_50 rfl rfl ?_
    refine zj_getR (ci := 11) (j := 1) dX11_keeps_51 wf_X11_13 (by decide) (by decide) (zk_223 hL) rfl (zr_223_1 hL) ?_
    refine zj_iconst (x := 0) dX11_keeps_54 rfl ?_
    refine zj_aload_n dX11_keeps_55 rfl rfl ?_
    refine zj_getR (ci := 11) (j := 3) dX11_keeps_56 wf_X11_20 (by decide) (by decide) (zk_223 hL) rfl (zr_223_3 hL) ?_
    refine zj_bipush (x := 71) dX11_keeps_59 rfl ?_
    refine zj_aload_n dX11_keeps_61 rfl rfl ?_
    refine zj_getI (ci := 11) (j := 6) dX11_keeps_62 wf_X11_180 (by decide) (by decide) (zk_223 hL) rfl ?_
    refine zj_imul dX11_keeps_65 ?_
    refine zj_callV (M' := mX11_copies) (avs := [.ref 224, .int 0, .ref 226, .int ((71 : Int32) * (v1 223 6))]) (st := []) (ci := 11) dX11_keeps_66 wm_X11_copies wl_X11_183 wi_X11_copies ws_X11_copies (by decide) (zk_223 hL) rfl rfl (by decide) rfl (Nat.le_of_ble_eq_true rfl) (Nat.le_of_ble_eq_true rfl) ⟨Or.inl (z_k0 (zk_223 hL)), trivial⟩ trivial (z_J.mono h (fun r S1 v2 hq => ?_))
    obtain ⟨rfl, rfl, h⟩ := hq
    refine zj_aload_n dX11_keeps_69 rfl rfl ?_
    refine zj_dup dX11_keeps_70 rfl ?_
    refine zj_getI (ci := 11) (j := 6) dX11_keeps_71 wf_X11_180 (by decide) (by decide) (zk_223 hL) rfl ?_
    refine zj_iconst (x := 1) dX11_keeps_74 rfl ?_
    refine zj_iadd dX11_keeps_75 ?_
    refine zj_putI (ci := 11) (j := 6) dX11_keeps_76 wf_X11_180 (by decide) (by decide) (zk_223 hL) rfl rfl rfl rfl (fun v3 ev3 => ?_)
    replace h := h v3 ev3
    exact zj_vret dX11_keeps_79 rfl h
  · replace h := h.2 c
    refine zj_aload_n dX11_keeps_18 rfl rfl ?_
    refine zj_getR (ci := 11) (j := 3) dX11_keeps_19 wf_X11_20 (by decide) (by decide) (zk_223 hL) rfl (zr_223_3 hL) ?_
    refine zj_iload_n dX11_keeps_22 rfl rfl ?_
    refine zj_aload_n dX11_keeps_23 rfl rfl ?_
    refine zj_getR (ci := 11) (j := 3) dX11_keeps_24 wf_X11_20 (by decide) (by decide) (zk_223 hL) rfl (zr_223_3 hL) ?_
    refine zj_iload_n dX11_keeps_27 rfl rfl ?_
    refine zj_bipush (x := 71) dX11_keeps_28 rfl ?_
    refine zj_iadd dX11_keeps_30 ?_
    refine zj_iaload dX11_keeps_31 (zk_226 hL) (by rw [(zl_226 hL)]; exact h.1) ?_
    replace h := h.2
    refine zj_iastore dX11_keeps_32 (zk_226 hL) (by rw [(zl_226 hL)]; exact h.1) (fun v4 ev4 => ?_)
    replace h := h.2 v4 ev4
    refine zj_iinc (y := x1 + 1) (ls2 := [.ref 223, .int (x1 + 1)]) dX11_keeps_33 rfl rfl (by decide) rfl rfl ?_
    refine zj_goto (tgt := 11) dX11_keeps_36 (by decide) ?_
    exact h
theorem sg_X11_kind_0 {G : z_G} {d : Nat} {S : z_Shp} {v : z_Dat} {Q : Option Value → z_Shp → z_Dat → Prop} {x1 : Int32} (hL : z_L S)
    (h : z_J G d mX11_wordHere (0, [.ref 223, .null, .null, .null, .null, .null, .null], [], S, v) (fun r S1 v1 => ∃ y1 : Int32, r = some (.int y1) ∧ S1 = S ∧ ((y1 = 0 → (vp_in x1 128 ∧ (∀ v2, v2 = z_u v1 234 x1.toNatClampNeg y1 → (∀ v3, v3 = z_u v2 223 19 (v2 223 23) → (Q (some (.int 1)) S v3))))) ∧ (¬ y1 = 0 → ((y1 = 1 → (vp_in x1 128 ∧ (∀ v4, v4 = z_u v1 234 x1.toNatClampNeg y1 → (∀ v5, v5 = z_u v4 223 19 (v4 223 23) → (Q (some (.int 1)) S v5))))) ∧ (¬ y1 = 1 → (z_J G d mX11_bad (0, [.ref 223, .int 1, .int (v1 223 19)], [], S, v1) (fun r S1 v6 => ∃ y2 : Int32, r = some (.int y2) ∧ S1 = S ∧ (narrow .boolean (.int y2) = .int y2 ∧ Q (some (.int y2)) S v6))))))))) :
    z_J G (d + 1) mX11_kind (0, [.ref 223, .int x1, .null], [], S, v) Q := by
  refine zj_aload_n dX11_kind_0 rfl rfl ?_
  refine zj_callV (M' := mX11_wordHere) (avs := []) (st := []) (ci := 11) dX11_kind_1 wm_X11_wordHere wl_X11_211 wi_X11_wordHere ws_X11_wordHere (by decide) (zk_223 hL) rfl rfl (by decide) rfl (Nat.le_of_ble_eq_true rfl) (Nat.le_of_ble_eq_true rfl) ⟨Or.inl (z_k0 (zk_223 hL)), trivial⟩ trivial (z_J.mono h (fun r S1 v1 hq => ?_))
  obtain ⟨y1, rfl, rfl, h⟩ := hq
  refine zj_istore_n (ls2 := [.ref 223, .int x1, .int y1]) dX11_kind_4 rfl (by decide) rfl rfl ?_
  refine zj_iload_n dX11_kind_5 rfl rfl ?_
  refine zj_if_eq (tgt := 24) dX11_kind_6 (by decide) (fun c => ?_) (fun c => ?_)
  · replace h := h.1 c
    refine zj_aload_n dX11_kind_24 rfl rfl ?_
    refine zj_getR (ci := 11) (j := 15) dX11_kind_25 wf_X11_46 (by decide) (by decide) (zk_223 hL) rfl (zr_223_15 hL) ?_
    refine zj_iload_n dX11_kind_28 rfl rfl ?_
    refine zj_iload_n dX11_kind_29 rfl rfl ?_
    refine zj_iastore dX11_kind_30 (zk_234 hL) (by rw [(zl_234 hL)]; exact h.1) (fun v2 ev2 => ?_)
    replace h := h.2 v2 ev2
    refine zj_aload_n dX11_kind_31 rfl rfl ?_
    refine zj_aload_n dX11_kind_32 rfl rfl ?_
    refine zj_getI (ci := 11) (j := 23) dX11_kind_33 wf_X11_205 (by decide) (by decide) (zk_223 hL) rfl ?_
    refine zj_putI (ci := 11) (j := 19) dX11_kind_36 wf_X11_187 (by decide) (by decide) (zk_223 hL) rfl rfl rfl rfl (fun v3 ev3 => ?_)
    replace h := h v3 ev3
    refine zj_iconst (x := 1) dX11_kind_39 rfl ?_
    exact zj_iret dX11_kind_40 rfl (by decide) h
  · replace h := h.2 c
    refine zj_iload_n dX11_kind_9 rfl rfl ?_
    refine zj_iconst (x := 1) dX11_kind_10 rfl ?_
    refine zj_icmp_eq (tgt := 24) dX11_kind_11 (by decide) (fun c => ?_) (fun c => ?_)
    · replace h := h.1 c
      refine zj_aload_n dX11_kind_24 rfl rfl ?_
      refine zj_getR (ci := 11) (j := 15) dX11_kind_25 wf_X11_46 (by decide) (by decide) (zk_223 hL) rfl (zr_223_15 hL) ?_
      refine zj_iload_n dX11_kind_28 rfl rfl ?_
      refine zj_iload_n dX11_kind_29 rfl rfl ?_
      refine zj_iastore dX11_kind_30 (zk_234 hL) (by rw [(zl_234 hL)]; exact h.1) (fun v4 ev4 => ?_)
      replace h := h.2 v4 ev4
      refine zj_aload_n dX11_kind_31 rfl rfl ?_
      refine zj_aload_n dX11_kind_32 rfl rfl ?_
      refine zj_getI (ci := 11) (j := 23) dX11_kind_33 wf_X11_205 (by decide) (by decide) (zk_223 hL) rfl ?_
      refine zj_putI (ci := 11) (j := 19) dX11_kind_36 wf_X11_187 (by decide) (by decide) (zk_223 hL) rfl rfl rfl rfl (fun v5 ev5 => ?_)
      replace h := h v5 ev5
      refine zj_iconst (x := 1) dX11_kind_39 rfl ?_
      exact zj_iret dX11_kind_40 rfl (by decide) h
    · replace h := h.2 c
      refine zj_aload_n dX11_kind_14 rfl rfl ?_
      refine zj_iconst (x := 1) dX11_kind_15 rfl ?_
      refine zj_aload_n dX11_kind_16 rfl rfl ?_
      refine zj_getI (ci := 11) (j := 19) dX11_kind_17 wf_X11_187 (by decide) (by decide) (zk_223 hL) rfl ?_
      refine zj_callV (M' := mX11_bad) (avs := [.int 1, .int (v1 223 19)]) (st := []) (ci := 11) dX11_kind_20 wm_X11_bad wl_X11_208 wi_X11_bad ws_X11_bad (by decide) (zk_223 hL) rfl rfl (by decide) rfl (Nat.le_of_ble_eq_true rfl) (Nat.le_of_ble_eq_true rfl) ⟨Or.inl (z_k0 (zk_223 hL)), trivial⟩ trivial (z_J.mono h (fun r S1 v6 hq => ?_))
      obtain ⟨y2, rfl, rfl, h⟩ := hq
      exact zj_iret dX11_kind_23 rfl h.1 h.2
theorem sg_X11_kindOn_0 {G : z_G} {d : Nat} {S : z_Shp} {v : z_Dat} {Q : Option Value → z_Shp → z_Dat → Prop} {x1 : Int32} {x2 : Int32} (hL : z_L S)
    (h : (¬ ((x1 + x2) - (x1 + x2) / 2 * 2) = 0 → (((1 ≤ x1 ∧ x1 ≤ ((v 224 0) - 1)) → (((1 ≤ x2 ∧ x2 ≤ ((v 224 0) - 1)) → (Q (some (.int 1)) S v)) ∧ (¬ (1 ≤ x2 ∧ x2 ≤ ((v 224 0) - 1)) → (Q (some (.int (-1))) S v)))) ∧ (¬ (1 ≤ x1 ∧ x1 ≤ ((v 224 0) - 1)) → (((1 ≤ x2 ∧ x2 ≤ ((v 224 0) - 1)) → (Q (some (.int 1)) S v)) ∧ (¬ (1 ≤ x2 ∧ x2 ≤ ((v 224 0) - 1)) → (Q (some (.int (-1))) S v)))))) ∧ (((x1 + x2) - (x1 + x2) / 2 * 2) = 0 → (((1 ≤ x1 ∧ x1 ≤ ((v 224 0) - 1)) → (((1 ≤ x2 ∧ x2 ≤ ((v 224 0) - 1)) → (Q (some (.int 0)) S v)) ∧ (¬ (1 ≤ x2 ∧ x2 ≤ ((v 224 0) - 1)) → (Q (some (.int 0)) S v)))) ∧ (¬ (1 ≤ x1 ∧ x1 ≤ ((v 224 0) - 1)) → (((1 ≤ x2 ∧ x2 ≤ ((v 224 0) - 1)) → (Q (some (.int (-1))) S v)) ∧ (¬ (1 ≤ x2 ∧ x2 ≤ ((v 224 0) - 1)) → (Q (some (.int (-1))) S v))))))) :
    z_J G (d + 1) mX11_kindOn (0, [.ref 223, .int x1, .int x2, .null, .null, .null], [], S, v) Q := by
  refine zj_iload_n dX11_kindOn_0 rfl rfl ?_
  refine zj_iload_n dX11_kindOn_1 rfl rfl ?_
  refine zj_iadd dX11_kindOn_2 ?_
  refine zj_iconst (x := 2) dX11_kindOn_3 rfl ?_
  refine zj_irem dX11_kindOn_4 (by decide) ?_
  refine zj_if_ne (tgt := 12) dX11_kindOn_5 (by decide) (fun c => ?_) (fun c => ?_)
  · replace h := h.1 c
    refine zj_iconst (x := 0) dX11_kindOn_12 rfl ?_
    refine zj_istore_n (ls2 := [.ref 223, .int x1, .int x2, .int 0, .null, .null]) dX11_kindOn_13 rfl (by decide) rfl rfl ?_
    refine zj_iload_n dX11_kindOn_14 rfl rfl ?_
    refine zj_iconst (x := 1) dX11_kindOn_15 rfl ?_
    refine zj_aload_n dX11_kindOn_16 rfl rfl ?_
    refine zj_callV (M' := mX11_d) (avs := []) (st := [.int 1, .int x1]) (ci := 11) dX11_kindOn_17 wm_X11_d wl_X11_140 wi_X11_d ws_X11_d (by decide) (zk_223 hL) rfl rfl (by decide) rfl (Nat.le_of_ble_eq_true rfl) (Nat.le_of_ble_eq_true rfl) ⟨Or.inl (z_k0 (zk_223 hL)), trivial⟩ trivial (hp_X11_d hL ?_)
    refine zj_iconst (x := 1) dX11_kindOn_20 rfl ?_
    refine zj_isub dX11_kindOn_21 ?_
    refine zj_callS (M' := mX11_isIn) (avs := [.int x1, .int 1, .int ((v 224 0) - 1)]) (st := []) dX11_kindOn_22 wm_X11_isIn wl_X11_144 wt_X11_isIn rfl (by decide) rfl (Nat.le_of_ble_eq_true rfl) (Nat.le_of_ble_eq_true rfl) ⟨Or.inl (z_k0 (zk_223 hL)), trivial⟩ trivial (hp_X11_isIn (fun c => ?_) (fun c => ?_))
    · replace h := h.1 c
      refine zj_istore (ls2 := [.ref 223, .int x1, .int x2, .int 0, .int 1, .null]) dX11_kindOn_25 (by decide) rfl rfl ?_
      refine zj_iload_n dX11_kindOn_27 rfl rfl ?_
      refine zj_iconst (x := 1) dX11_kindOn_28 rfl ?_
      refine zj_aload_n dX11_kindOn_29 rfl rfl ?_
      refine zj_callV (M' := mX11_d) (avs := []) (st := [.int 1, .int x2]) (ci := 11) dX11_kindOn_30 wm_X11_d wl_X11_140 wi_X11_d ws_X11_d (by decide) (zk_223 hL) rfl rfl (by decide) rfl (Nat.le_of_ble_eq_true rfl) (Nat.le_of_ble_eq_true rfl) ⟨Or.inl (z_k0 (zk_223 hL)), trivial⟩ trivial (hp_X11_d hL ?_)
      refine zj_iconst (x := 1) dX11_kindOn_33 rfl ?_
      refine zj_isub dX11_kindOn_34 ?_
      refine zj_callS (M' := mX11_isIn) (avs := [.int x2, .int 1, .int ((v 224 0) - 1)]) (st := []) dX11_kindOn_35 wm_X11_isIn wl_X11_144 wt_X11_isIn rfl (by decide) rfl (Nat.le_of_ble_eq_true rfl) (Nat.le_of_ble_eq_true rfl) ⟨Or.inl (z_k0 (zk_223 hL)), trivial⟩ trivial (hp_X11_isIn (fun c => ?_) (fun c => ?_))
      · replace h := h.1 c
        refine zj_istore (ls2 := [.ref 223, .int x1, .int x2, .int 0, .int 1, .int 1]) dX11_kindOn_38 (by decide) rfl rfl ?_
        refine zj_iload dX11_kindOn_40 rfl ?_
        refine zj_if_eq (tgt := 60) dX11_kindOn_42 (by decide) (fun q => absurd q (by decide)) (fun _ => ?_)
        refine zj_iload dX11_kindOn_45 rfl ?_
        refine zj_if_eq (tgt := 60) dX11_kindOn_47 (by decide) (fun q => absurd q (by decide)) (fun _ => ?_)
        refine zj_iload_n dX11_kindOn_50 rfl rfl ?_
        refine zj_if_eq (tgt := 58) dX11_kindOn_51 (by decide) (fun _ => ?_) (fun q => absurd (by decide) q)
        refine zj_iconst (x := 1) dX11_kindOn_58 rfl ?_
        exact zj_iret dX11_kindOn_59 rfl rfl h
      · replace h := h.2 c
        refine zj_istore (ls2 := [.ref 223, .int x1, .int x2, .int 0, .int 1, .int 0]) dX11_kindOn_38 (by decide) rfl rfl ?_
        refine zj_iload dX11_kindOn_40 rfl ?_
        refine zj_if_eq (tgt := 60) dX11_kindOn_42 (by decide) (fun q => absurd q (by decide)) (fun _ => ?_)
        refine zj_iload dX11_kindOn_45 rfl ?_
        refine zj_if_eq (tgt := 60) dX11_kindOn_47 (by decide) (fun _ => ?_) (fun q => absurd (by decide) q)
        refine zj_iload dX11_kindOn_60 rfl ?_
        refine zj_if_eq (tgt := 75) dX11_kindOn_62 (by decide) (fun q => absurd q (by decide)) (fun _ => ?_)
        refine zj_iload_n dX11_kindOn_65 rfl rfl ?_
        refine zj_if_eq (tgt := 73) dX11_kindOn_66 (by decide) (fun _ => ?_) (fun q => absurd (by decide) q)
        refine zj_iconst (x := (-1)) dX11_kindOn_73 rfl ?_
        exact zj_iret dX11_kindOn_74 rfl rfl h
    · replace h := h.2 c
      refine zj_istore (ls2 := [.ref 223, .int x1, .int x2, .int 0, .int 0, .null]) dX11_kindOn_25 (by decide) rfl rfl ?_
      refine zj_iload_n dX11_kindOn_27 rfl rfl ?_
      refine zj_iconst (x := 1) dX11_kindOn_28 rfl ?_
      refine zj_aload_n dX11_kindOn_29 rfl rfl ?_
      refine zj_callV (M' := mX11_d) (avs := []) (st := [.int 1, .int x2]) (ci := 11) dX11_kindOn_30 wm_X11_d wl_X11_140 wi_X11_d ws_X11_d (by decide) (zk_223 hL) rfl rfl (by decide) rfl (Nat.le_of_ble_eq_true rfl) (Nat.le_of_ble_eq_true rfl) ⟨Or.inl (z_k0 (zk_223 hL)), trivial⟩ trivial (hp_X11_d hL ?_)
      refine zj_iconst (x := 1) dX11_kindOn_33 rfl ?_
      refine zj_isub dX11_kindOn_34 ?_
      refine zj_callS (M' := mX11_isIn) (avs := [.int x2, .int 1, .int ((v 224 0) - 1)]) (st := []) dX11_kindOn_35 wm_X11_isIn wl_X11_144 wt_X11_isIn rfl (by decide) rfl (Nat.le_of_ble_eq_true rfl) (Nat.le_of_ble_eq_true rfl) ⟨Or.inl (z_k0 (zk_223 hL)), trivial⟩ trivial (hp_X11_isIn (fun c => ?_) (fun c => ?_))
      · replace h := h.1 c
        refine zj_istore (ls2 := [.ref 223, .int x1, .int x2, .int 0, .int 0, .int 1]) dX11_kindOn_38 (by decide) rfl rfl ?_
        refine zj_iload dX11_kindOn_40 rfl ?_
        refine zj_if_eq (tgt := 60) dX11_kindOn_42 (by decide) (fun _ => ?_) (fun q => absurd (by decide) q)
        refine zj_iload dX11_kindOn_60 rfl ?_
        refine zj_if_eq (tgt := 75) dX11_kindOn_62 (by decide) (fun _ => ?_) (fun q => absurd (by decide) q)
        refine zj_iload dX11_kindOn_75 rfl ?_
        refine zj_if_eq (tgt := 88) dX11_kindOn_77 (by decide) (fun q => absurd q (by decide)) (fun _ => ?_)
        refine zj_iload_n dX11_kindOn_80 rfl rfl ?_
        refine zj_if_ne (tgt := 88) dX11_kindOn_81 (by decide) (fun q => absurd (by decide) q) (fun _ => ?_)
        refine zj_iconst (x := 1) dX11_kindOn_84 rfl ?_
        refine zj_goto (tgt := 89) dX11_kindOn_85 (by decide) ?_
        exact zj_iret dX11_kindOn_89 rfl rfl h
      · replace h := h.2 c
        refine zj_istore (ls2 := [.ref 223, .int x1, .int x2, .int 0, .int 0, .int 0]) dX11_kindOn_38 (by decide) rfl rfl ?_
        refine zj_iload dX11_kindOn_40 rfl ?_
        refine zj_if_eq (tgt := 60) dX11_kindOn_42 (by decide) (fun _ => ?_) (fun q => absurd (by decide) q)
        refine zj_iload dX11_kindOn_60 rfl ?_
        refine zj_if_eq (tgt := 75) dX11_kindOn_62 (by decide) (fun _ => ?_) (fun q => absurd (by decide) q)
        refine zj_iload dX11_kindOn_75 rfl ?_
        refine zj_if_eq (tgt := 88) dX11_kindOn_77 (by decide) (fun _ => ?_) (fun q => absurd (by decide) q)
        refine zj_iconst (x := (-1)) dX11_kindOn_88 rfl ?_
        exact zj_iret dX11_kindOn_89 rfl rfl h
  · replace h := h.2 c
    refine zj_iconst (x := 1) dX11_kindOn_8 rfl ?_
    refine zj_goto (tgt := 13) dX11_kindOn_9 (by decide) ?_
    refine zj_istore_n (ls2 := [.ref 223, .int x1, .int x2, .int 1, .null, .null]) dX11_kindOn_13 rfl (by decide) rfl rfl ?_
    refine zj_iload_n dX11_kindOn_14 rfl rfl ?_
    refine zj_iconst (x := 1) dX11_kindOn_15 rfl ?_
    refine zj_aload_n dX11_kindOn_16 rfl rfl ?_
    refine zj_callV (M' := mX11_d) (avs := []) (st := [.int 1, .int x1]) (ci := 11) dX11_kindOn_17 wm_X11_d wl_X11_140 wi_X11_d ws_X11_d (by decide) (zk_223 hL) rfl rfl (by decide) rfl (Nat.le_of_ble_eq_true rfl) (Nat.le_of_ble_eq_true rfl) ⟨Or.inl (z_k0 (zk_223 hL)), trivial⟩ trivial (hp_X11_d hL ?_)
    refine zj_iconst (x := 1) dX11_kindOn_20 rfl ?_
    refine zj_isub dX11_kindOn_21 ?_
    refine zj_callS (M' := mX11_isIn) (avs := [.int x1, .int 1, .int ((v 224 0) - 1)]) (st := []) dX11_kindOn_22 wm_X11_isIn wl_X11_144 wt_X11_isIn rfl (by decide) rfl (Nat.le_of_ble_eq_true rfl) (Nat.le_of_ble_eq_true rfl) ⟨Or.inl (z_k0 (zk_223 hL)), trivial⟩ trivial (hp_X11_isIn (fun c => ?_) (fun c => ?_))
    · replace h := h.1 c
      refine zj_istore (ls2 := [.ref 223, .int x1, .int x2, .int 1, .int 1, .null]) dX11_kindOn_25 (by decide) rfl rfl ?_
      refine zj_iload_n dX11_kindOn_27 rfl rfl ?_
      refine zj_iconst (x := 1) dX11_kindOn_28 rfl ?_
      refine zj_aload_n dX11_kindOn_29 rfl rfl ?_
      refine zj_callV (M' := mX11_d) (avs := []) (st := [.int 1, .int x2]) (ci := 11) dX11_kindOn_30 wm_X11_d wl_X11_140 wi_X11_d ws_X11_d (by decide) (zk_223 hL) rfl rfl (by decide) rfl (Nat.le_of_ble_eq_true rfl) (Nat.le_of_ble_eq_true rfl) ⟨Or.inl (z_k0 (zk_223 hL)), trivial⟩ trivial (hp_X11_d hL ?_)
      refine zj_iconst (x := 1) dX11_kindOn_33 rfl ?_
      refine zj_isub dX11_kindOn_34 ?_
      refine zj_callS (M' := mX11_isIn) (avs := [.int x2, .int 1, .int ((v 224 0) - 1)]) (st := []) dX11_kindOn_35 wm_X11_isIn wl_X11_144 wt_X11_isIn rfl (by decide) rfl (Nat.le_of_ble_eq_true rfl) (Nat.le_of_ble_eq_true rfl) ⟨Or.inl (z_k0 (zk_223 hL)), trivial⟩ trivial (hp_X11_isIn (fun c => ?_) (fun c => ?_))
      · replace h := h.1 c
        refine zj_istore (ls2 := [.ref 223, .int x1, .int x2, .int 1, .int 1, .int 1]) dX11_kindOn_38 (by decide) rfl rfl ?_
        refine zj_iload dX11_kindOn_40 rfl ?_
        refine zj_if_eq (tgt := 60) dX11_kindOn_42 (by decide) (fun q => absurd q (by decide)) (fun _ => ?_)
        refine zj_iload dX11_kindOn_45 rfl ?_
        refine zj_if_eq (tgt := 60) dX11_kindOn_47 (by decide) (fun q => absurd q (by decide)) (fun _ => ?_)
        refine zj_iload_n dX11_kindOn_50 rfl rfl ?_
        refine zj_if_eq (tgt := 58) dX11_kindOn_51 (by decide) (fun q => absurd q (by decide)) (fun _ => ?_)
        refine zj_iconst (x := 0) dX11_kindOn_54 rfl ?_
        refine zj_goto (tgt := 59) dX11_kindOn_55 (by decide) ?_
        exact zj_iret dX11_kindOn_59 rfl rfl h
      · replace h := h.2 c
        refine zj_istore (ls2 := [.ref 223, .int x1, .int x2, .int 1, .int 1, .int 0]) dX11_kindOn_38 (by decide) rfl rfl ?_
        refine zj_iload dX11_kindOn_40 rfl ?_
        refine zj_if_eq (tgt := 60) dX11_kindOn_42 (by decide) (fun q => absurd q (by decide)) (fun _ => ?_)
        refine zj_iload dX11_kindOn_45 rfl ?_
        refine zj_if_eq (tgt := 60) dX11_kindOn_47 (by decide) (fun _ => ?_) (fun q => absurd (by decide) q)
        refine zj_iload dX11_kindOn_60 rfl ?_
        refine zj_if_eq (tgt := 75) dX11_kindOn_62 (by decide) (fun q => absurd q (by decide)) (fun _ => ?_)
        refine zj_iload_n dX11_kindOn_65 rfl rfl ?_
        refine zj_if_eq (tgt := 73) dX11_kindOn_66 (by decide) (fun q => absurd q (by decide)) (fun _ => ?_)
        refine zj_iconst (x := 0) dX11_kindOn_69 rfl ?_
        refine zj_goto (tgt := 74) dX11_kindOn_70 (by decide) ?_
        exact zj_iret dX11_kindOn_74 rfl rfl h
    · replace h := h.2 c
      refine zj_istore (ls2 := [.ref 223, .int x1, .int x2, .int 1, .int 0, .null]) dX11_kindOn_25 (by decide) rfl rfl ?_
      refine zj_iload_n dX11_kindOn_27 rfl rfl ?_
      refine zj_iconst (x := 1) dX11_kindOn_28 rfl ?_
      refine zj_aload_n dX11_kindOn_29 rfl rfl ?_
      refine zj_callV (M' := mX11_d) (avs := []) (st := [.int 1, .int x2]) (ci := 11) dX11_kindOn_30 wm_X11_d wl_X11_140 wi_X11_d ws_X11_d (by decide) (zk_223 hL) rfl rfl (by decide) rfl (Nat.le_of_ble_eq_true rfl) (Nat.le_of_ble_eq_true rfl) ⟨Or.inl (z_k0 (zk_223 hL)), trivial⟩ trivial (hp_X11_d hL ?_)
      refine zj_iconst (x := 1) dX11_kindOn_33 rfl ?_
      refine zj_isub dX11_kindOn_34 ?_
      refine zj_callS (M' := mX11_isIn) (avs := [.int x2, .int 1, .int ((v 224 0) - 1)]) (st := []) dX11_kindOn_35 wm_X11_isIn wl_X11_144 wt_X11_isIn rfl (by decide) rfl (Nat.le_of_ble_eq_true rfl) (Nat.le_of_ble_eq_true rfl) ⟨Or.inl (z_k0 (zk_223 hL)), trivial⟩ trivial (hp_X11_isIn (fun c => ?_) (fun c => ?_))
      · replace h := h.1 c
        refine zj_istore (ls2 := [.ref 223, .int x1, .int x2, .int 1, .int 0, .int 1]) dX11_kindOn_38 (by decide) rfl rfl ?_
        refine zj_iload dX11_kindOn_40 rfl ?_
        refine zj_if_eq (tgt := 60) dX11_kindOn_42 (by decide) (fun _ => ?_) (fun q => absurd (by decide) q)
        refine zj_iload dX11_kindOn_60 rfl ?_
        refine zj_if_eq (tgt := 75) dX11_kindOn_62 (by decide) (fun _ => ?_) (fun q => absurd (by decide) q)
        refine zj_iload dX11_kindOn_75 rfl ?_
        refine zj_if_eq (tgt := 88) dX11_kindOn_77 (by decide) (fun q => absurd q (by decide)) (fun _ => ?_)
        refine zj_iload_n dX11_kindOn_80 rfl rfl ?_
        refine zj_if_ne (tgt := 88) dX11_kindOn_81 (by decide) (fun _ => ?_) (fun q => absurd q (by decide))
        refine zj_iconst (x := (-1)) dX11_kindOn_88 rfl ?_
        exact zj_iret dX11_kindOn_89 rfl rfl h
      · replace h := h.2 c
        refine zj_istore (ls2 := [.ref 223, .int x1, .int x2, .int 1, .int 0, .int 0]) dX11_kindOn_38 (by decide) rfl rfl ?_
        refine zj_iload dX11_kindOn_40 rfl ?_
        refine zj_if_eq (tgt := 60) dX11_kindOn_42 (by decide) (fun _ => ?_) (fun q => absurd (by decide) q)
        refine zj_iload dX11_kindOn_60 rfl ?_
        refine zj_if_eq (tgt := 75) dX11_kindOn_62 (by decide) (fun _ => ?_) (fun q => absurd (by decide) q)
        refine zj_iload dX11_kindOn_75 rfl ?_
        refine zj_if_eq (tgt := 88) dX11_kindOn_77 (by decide) (fun _ => ?_) (fun q => absurd (by decide) q)
        refine zj_iconst (x := (-1)) dX11_kindOn_88 rfl ?_
        exact zj_iret dX11_kindOn_89 rfl rfl h
theorem sg_X11_layer_0 {G : z_G} {d : Nat} {S : z_Shp} {v : z_Dat} {Q : Option Value → z_Shp → z_Dat → Prop} {x1 : Int32} {x2 : Int32} (hL : z_L S)
    (h : ((v 224 1) ≤ x2 → ((vp_in ((2 : Int32) + x1) 71) ∧ (z_J G d mX11_loud (0, [.ref 223, .int x1, .int (v 224 ((2 : Int32) + x1).toNatClampNeg), .null, .null], [], S, v) (fun r S1 v1 => ∃ y1 : Int32, r = some (.int y1) ∧ S1 = S ∧ (Q (some (.int y1)) S v1))))) ∧ (¬ (v 224 1) ≤ x2 → ((vp_in (((6 : Int32) + ((8 : Int32) * x1)) + x2) 71) ∧ (Q (some (.int (v 224 (((6 : Int32) + ((8 : Int32) * x1)) + x2).toNatClampNeg))) S v)))) :
    z_J G (d + 1) mX11_layer (0, [.ref 223, .int x1, .int x2], [], S, v) Q := by
  refine zj_iload_n dX11_layer_0 rfl rfl ?_
  refine zj_aload_n dX11_layer_1 rfl rfl ?_
  refine zj_getR (ci := 11) (j := 1) dX11_layer_2 wf_X11_13 (by decide) (by decide) (zk_223 hL) rfl (zr_223_1 hL) ?_
  refine zj_iconst (x := 1) dX11_layer_5 rfl ?_
  refine zj_iaload dX11_layer_6 (zk_224 hL) (by rw [(zl_224 hL)]; exact z_vin (by decide)) ?_
  refine zj_icmp_ge (tgt := 27) dX11_layer_7 (by decide) (fun c => ?_) (fun c => ?_)
  · replace h := h.1 c
    refine zj_aload_n dX11_layer_27 rfl rfl ?_
    refine zj_iload_n dX11_layer_28 rfl rfl ?_
    refine zj_aload_n dX11_layer_29 rfl rfl ?_
    refine zj_getR (ci := 11) (j := 1) dX11_layer_30 wf_X11_13 (by decide) (by decide) (zk_223 hL) rfl (zr_223_1 hL) ?_
    refine zj_iconst (x := 2) dX11_layer_33 rfl ?_
    refine zj_iload_n dX11_layer_34 rfl rfl ?_
    refine zj_iadd dX11_layer_35 ?_
    refine zj_iaload dX11_layer_36 (zk_224 hL) (by rw [(zl_224 hL)]; exact h.1) ?_
    replace h := h.2
    refine zj_callV (M' := mX11_loud) (avs := [.int x1, .int (v 224 ((2 : Int32) + x1).toNatClampNeg)]) (st := []) (ci := 11) dX11_layer_37 wm_X11_loud wl_X11_177 wi_X11_loud ws_X11_loud (by decide) (zk_223 hL) rfl rfl (by decide) rfl (Nat.le_of_ble_eq_true rfl) (Nat.le_of_ble_eq_true rfl) ⟨Or.inl (z_k0 (zk_223 hL)), trivial⟩ trivial (z_J.mono h (fun r S1 v1 hq => ?_))
    obtain ⟨y1, rfl, rfl, h⟩ := hq
    exact zj_iret dX11_layer_40 rfl rfl h
  · replace h := h.2 c
    refine zj_aload_n dX11_layer_10 rfl rfl ?_
    refine zj_getR (ci := 11) (j := 1) dX11_layer_11 wf_X11_13 (by decide) (by decide) (zk_223 hL) rfl (zr_223_1 hL) ?_
    refine zj_bipush (x := 6) dX11_layer_14 rfl ?_
    refine zj_bipush (x := 8) dX11_layer_16 rfl ?_
    refine zj_iload_n dX11_layer_18 rfl rfl ?_
    refine zj_imul dX11_layer_19 ?_
    refine zj_iadd dX11_layer_20 ?_
    refine zj_iload_n dX11_layer_21 rfl rfl ?_
    refine zj_iadd dX11_layer_22 ?_
    refine zj_iaload dX11_layer_23 (zk_224 hL) (by rw [(zl_224 hL)]; exact h.1) ?_
    replace h := h.2
    refine zj_goto (tgt := 40) dX11_layer_24 (by decide) ?_
    exact zj_iret dX11_layer_40 rfl rfl h
theorem sg_X11_lays_0 {G : z_G} {d : Nat} {S : z_Shp} {v : z_Dat} {Q : Option Value → z_Shp → z_Dat → Prop} (hL : z_L S)
    (h : ∀ v1, v1 = z_u v 223 14 ((((v 224 0) * (v 224 0)) - 1) / 2) → (z_J G (d + 1) mX11_lays (14, [.ref 223, .int 0, .null, .null, .null], [], S, v1) Q)) :
    z_J G (d + 1) mX11_lays (0, [.ref 223, .null, .null, .null, .null], [], S, v) Q := by
  refine zj_aload_n dX11_lays_0 rfl rfl ?_
  refine zj_aload_n dX11_lays_1 rfl rfl ?_
  refine zj_callV (M' := mX11_qubits) (avs := []) (st := [.ref 223]) (ci := 11) dX11_lays_2 wm_X11_qubits wl_X11_148 wi_X11_qubits ws_X11_qubits (by decide) (zk_223 hL) rfl rfl (by decide) rfl (Nat.le_of_ble_eq_true rfl) (Nat.le_of_ble_eq_true rfl) ⟨Or.inl (z_k0 (zk_223 hL)), trivial⟩ ⟨Or.inl (z_k0 (zk_223 hL)), trivial⟩ (hp_X11_qubits hL ?_)
  refine zj_iconst (x := 1) dX11_lays_5 rfl ?_
  refine zj_isub dX11_lays_6 ?_
  refine zj_iconst (x := 2) dX11_lays_7 rfl ?_
  refine zj_idiv dX11_lays_8 (by decide) ?_
  refine zj_putI (ci := 11) (j := 14) dX11_lays_9 wf_X11_151 (by decide) (by decide) (zk_223 hL) rfl rfl rfl rfl (fun v1 ev1 => ?_)
  replace h := h v1 ev1
  refine zj_iconst (x := 0) dX11_lays_12 rfl ?_
  refine zj_istore_n (ls2 := [.ref 223, .int 0, .null, .null, .null]) dX11_lays_13 rfl (by decide) rfl rfl ?_
  exact h
theorem sg_X11_lays_14 {G : z_G} {d : Nat} {S : z_Shp} {v : z_Dat} {Q : Option Value → z_Shp → z_Dat → Prop} {x1 : Int32}
    (h : (2 ≤ x1 → (Q none S v)) ∧ (¬ 2 ≤ x1 → (z_J G d mX11_lays (23, [.ref 223, .int x1, .int 0, .int 0, .null], [], S, v) Q))) :
    z_J G d mX11_lays (14, [.ref 223, .int x1, .null, .null, .null], [], S, v) Q := by
  refine zj_iload_n dX11_lays_14 rfl rfl ?_
  refine zj_iconst (x := 2) dX11_lays_15 rfl ?_
  refine zj_icmp_ge (tgt := 200) dX11_lays_16 (by decide) (fun c => ?_) (fun c => ?_)
  · replace h := h.1 c
    exact zj_vret dX11_lays_200 rfl h
  · replace h := h.2 c
    refine zj_iconst (x := 0) dX11_lays_19 rfl ?_
    refine zj_istore_n (ls2 := [.ref 223, .int x1, .int 0, .null, .null]) dX11_lays_20 rfl (by decide) rfl rfl ?_
    refine zj_iconst (x := 0) dX11_lays_21 rfl ?_
    refine zj_istore_n (ls2 := [.ref 223, .int x1, .int 0, .int 0, .null]) dX11_lays_22 rfl (by decide) rfl rfl ?_
    exact h
theorem sg_X11_lays_23 {G : z_G} {d : Nat} {S : z_Shp} {v : z_Dat} {Q : Option Value → z_Shp → z_Dat → Prop} {x1 : Int32} {x2 : Int32} {x3 : Int32} (hL : z_L S)
    (h : ((v 224 0) < x3 → (z_J G (d + 1) mX11_lays (117, [.ref 223, .int x1, .int x2, .int 0, .null], [], S, v) Q)) ∧ (¬ (v 224 0) < x3 → (z_J G (d + 1) mX11_lays (34, [.ref 223, .int x1, .int x2, .int x3, .int 0], [], S, v) Q))) :
    z_J G (d + 1) mX11_lays (23, [.ref 223, .int x1, .int x2, .int x3, .null], [], S, v) Q := by
  refine zj_iload_n dX11_lays_23 rfl rfl ?_
  refine zj_aload_n dX11_lays_24 rfl rfl ?_
  refine zj_callV (M' := mX11_d) (avs := []) (st := [.int x3]) (ci := 11) dX11_lays_25 wm_X11_d wl_X11_140 wi_X11_d ws_X11_d (by decide) (zk_223 hL) rfl rfl (by decide) rfl (Nat.le_of_ble_eq_true rfl) (Nat.le_of_ble_eq_true rfl) ⟨Or.inl (z_k0 (zk_223 hL)), trivial⟩ trivial (hp_X11_d hL ?_)
  refine zj_icmp_gt (tgt := 115) dX11_lays_28 (by decide) (fun c => ?_) (fun c => ?_)
  · replace h := h.1 c
    refine zj_iconst (x := 0) dX11_lays_115 rfl ?_
    refine zj_istore_n (ls2 := [.ref 223, .int x1, .int x2, .int 0, .null]) dX11_lays_116 rfl (by decide) rfl rfl ?_
    exact h
  · replace h := h.2 c
    refine zj_iconst (x := 0) dX11_lays_31 rfl ?_
    refine zj_istore (ls2 := [.ref 223, .int x1, .int x2, .int x3, .int 0]) dX11_lays_32 (by decide) rfl rfl ?_
    exact h
theorem sg_X11_lays_117 {G : z_G} {d : Nat} {S : z_Shp} {v : z_Dat} {Q : Option Value → z_Shp → z_Dat → Prop} {x1 : Int32} {x2 : Int32} {x3 : Int32} (hL : z_L S)
    (h : (((v 224 0) * (v 224 0)) ≤ x3 → (z_J G (d + 1) mX11_lays (14, [.ref 223, .int (x1 + 1), .null, .null, .null], [], S, v) Q)) ∧ (¬ ((v 224 0) * (v 224 0)) ≤ x3 → (vp_in (((25 : Int32) * x1) + x3) 50 ∧ (∀ v1, v1 = z_u v 233 (((25 : Int32) * x1) + x3).toNatClampNeg 0 → (z_J G (d + 1) mX11_lays (139, [.ref 223, .int x1, .int 0, .int x3, .null], [], S, v1) Q))))) :
    z_J G (d + 1) mX11_lays (117, [.ref 223, .int x1, .int x2, .int x3, .null], [], S, v) Q := by
  refine zj_iload_n dX11_lays_117 rfl rfl ?_
  refine zj_aload_n dX11_lays_118 rfl rfl ?_
  refine zj_callV (M' := mX11_qubits) (avs := []) (st := [.int x3]) (ci := 11) dX11_lays_119 wm_X11_qubits wl_X11_148 wi_X11_qubits ws_X11_qubits (by decide) (zk_223 hL) rfl rfl (by decide) rfl (Nat.le_of_ble_eq_true rfl) (Nat.le_of_ble_eq_true rfl) ⟨Or.inl (z_k0 (zk_223 hL)), trivial⟩ trivial (hp_X11_qubits hL ?_)
  refine zj_icmp_ge (tgt := 194) dX11_lays_122 (by decide) (fun c => ?_) (fun c => ?_)
  · replace h := h.1 c
    refine zj_iinc (y := x1 + 1) (ls2 := [.ref 223, .int (x1 + 1), .int x2, .int x3, .null]) dX11_lays_194 rfl rfl (by decide) rfl rfl ?_
    refine zj_goto (tgt := 14) dX11_lays_197 (by decide) ?_
    refine zj_forget (ls2 := [.ref 223, .int (x1 + 1), .null, .null, .null]) ⟨Or.inr rfl, Or.inr rfl, Or.inl rfl, Or.inl rfl, Or.inr rfl, trivial⟩ ?_
    exact h
  · replace h := h.2 c
    refine zj_aload_n dX11_lays_125 rfl rfl ?_
    refine zj_getR (ci := 11) (j := 13) dX11_lays_126 wf_X11_43 (by decide) (by decide) (zk_223 hL) rfl (zr_223_13 hL) ?_
    refine zj_bipush (x := 25) dX11_lays_129 rfl ?_
    refine zj_iload_n dX11_lays_131 rfl rfl ?_
    refine zj_imul dX11_lays_132 ?_
    refine zj_iload_n dX11_lays_133 rfl rfl ?_
    refine zj_iadd dX11_lays_134 ?_
    refine zj_iconst (x := 0) dX11_lays_135 rfl ?_
    refine zj_iastore dX11_lays_136 (zk_233 hL) (by rw [(zl_233 hL)]; exact h.1) (fun v1 ev1 => ?_)
    replace h := h.2 v1 ev1
    refine zj_iconst (x := 0) dX11_lays_137 rfl ?_
    refine zj_istore_n (ls2 := [.ref 223, .int x1, .int 0, .int x3, .null]) dX11_lays_138 rfl (by decide) rfl rfl ?_
    exact h
theorem sg_X11_lays_34 {G : z_G} {d : Nat} {S : z_Shp} {v : z_Dat} {Q : Option Value → z_Shp → z_Dat → Prop} {x1 : Int32} {x2 : Int32} {x3 : Int32} {x4 : Int32} (hL : z_L S)
    (h : ((v 224 0) < x4 → (z_J G (d + 1) mX11_lays (23, [.ref 223, .int x1, .int x2, .int (x3 + 1), .null], [], S, v) Q)) ∧ (¬ (v 224 0) < x4 → (z_J G d mX11_kindOn (0, [.ref 223, .int x3, .int x4, .null, .null, .null], [], S, v) (fun r S1 v1 => ∃ y1 : Int32, r = some (.int y1) ∧ S1 = S ∧ ((y1 = x1 → (vp_in (((12 : Int32) * x1) + x2) 24 ∧ (∀ v2, v2 = z_u v1 230 (((12 : Int32) * x1) + x2).toNatClampNeg x3 → (vp_in (((12 : Int32) * x1) + x2) 24 ∧ (∀ v3, v3 = z_u v2 231 (((12 : Int32) * x1) + x2).toNatClampNeg x4 → (z_J G d mX11_bitsOn (0, [.ref 223, .int x3, .int x4, .null, .null, .null], [], S, v3) (fun r S1 v4 => ∃ y2 : Int32, r = some (.int y2) ∧ S1 = S ∧ (vp_in (((12 : Int32) * x1) + x2) 24 ∧ (∀ v5, v5 = z_u v4 232 (((12 : Int32) * x1) + x2).toNatClampNeg y2 → (z_J G (d + 1) mX11_lays (34, [.ref 223, .int x1, .int (x2 + 1), .int x3, .int (x4 + 1)], [], S, v5) Q)))))))))) ∧ (¬ y1 = x1 → (z_J G (d + 1) mX11_lays (34, [.ref 223, .int x1, .int x2, .int x3, .int (x4 + 1)], [], S, v1) Q))))))) :
    z_J G (d + 1) mX11_lays (34, [.ref 223, .int x1, .int x2, .int x3, .int x4], [], S, v) Q := by
  refine zj_iload dX11_lays_34 rfl ?_
  refine zj_aload_n dX11_lays_36 rfl rfl ?_
  refine zj_callV (M' := mX11_d) (avs := []) (st := [.int x4]) (ci := 11) dX11_lays_37 wm_X11_d wl_X11_140 wi_X11_d ws_X11_d (by decide) (zk_223 hL) rfl rfl (by decide) rfl (Nat.le_of_ble_eq_true rfl) (Nat.le_of_ble_eq_true rfl) ⟨Or.inl (z_k0 (zk_223 hL)), trivial⟩ trivial (hp_X11_d hL ?_)
  refine zj_icmp_gt (tgt := 109) dX11_lays_40 (by decide) (fun c => ?_) (fun c => ?_)
  · replace h := h.1 c
    refine zj_iinc (y := x3 + 1) (ls2 := [.ref 223, .int x1, .int x2, .int (x3 + 1), .int x4]) dX11_lays_109 rfl rfl (by decide) rfl rfl ?_
    refine zj_goto (tgt := 23) dX11_lays_112 (by decide) ?_
    refine zj_forget (ls2 := [.ref 223, .int x1, .int x2, .int (x3 + 1), .null]) ⟨Or.inr rfl, Or.inr rfl, Or.inr rfl, Or.inr rfl, Or.inl rfl, trivial⟩ ?_
    exact h
  · replace h := h.2 c
    refine zj_aload_n dX11_lays_43 rfl rfl ?_
    refine zj_iload_n dX11_lays_44 rfl rfl ?_
    refine zj_iload dX11_lays_45 rfl ?_
    refine zj_callV (M' := mX11_kindOn) (avs := [.int x3, .int x4]) (st := []) (ci := 11) dX11_lays_47 wm_X11_kindOn wl_X11_154 wi_X11_kindOn ws_X11_kindOn (by decide) (zk_223 hL) rfl rfl (by decide) rfl (Nat.le_of_ble_eq_true rfl) (Nat.le_of_ble_eq_true rfl) ⟨Or.inl (z_k0 (zk_223 hL)), trivial⟩ trivial (z_J.mono h (fun r S1 v1 hq => ?_))
    obtain ⟨y1, rfl, rfl, h⟩ := hq
    refine zj_iload_n dX11_lays_50 rfl rfl ?_
    refine zj_icmp_eq (tgt := 57) dX11_lays_51 (by decide) (fun c => ?_) (fun c => ?_)
    · replace h := h.1 c
      refine zj_aload_n dX11_lays_57 rfl rfl ?_
      refine zj_getR (ci := 11) (j := 10) dX11_lays_58 wf_X11_34 (by decide) (by decide) (zk_223 hL) rfl (zr_223_10 hL) ?_
      refine zj_bipush (x := 12) dX11_lays_61 rfl ?_
      refine zj_iload_n dX11_lays_63 rfl rfl ?_
      refine zj_imul dX11_lays_64 ?_
      refine zj_iload_n dX11_lays_65 rfl rfl ?_
      refine zj_iadd dX11_lays_66 ?_
      refine zj_iload_n dX11_lays_67 rfl rfl ?_
      refine zj_iastore dX11_lays_68 (zk_230 hL) (by rw [(zl_230 hL)]; exact h.1) (fun v2 ev2 => ?_)
      replace h := h.2 v2 ev2
      refine zj_aload_n dX11_lays_69 rfl rfl ?_
      refine zj_getR (ci := 11) (j := 11) dX11_lays_70 wf_X11_37 (by decide) (by decide) (zk_223 hL) rfl (zr_223_11 hL) ?_
      refine zj_bipush (x := 12) dX11_lays_73 rfl ?_
      refine zj_iload_n dX11_lays_75 rfl rfl ?_
      refine zj_imul dX11_lays_76 ?_
      refine zj_iload_n dX11_lays_77 rfl rfl ?_
      refine zj_iadd dX11_lays_78 ?_
      refine zj_iload dX11_lays_79 rfl ?_
      refine zj_iastore dX11_lays_81 (zk_231 hL) (by rw [(zl_231 hL)]; exact h.1) (fun v3 ev3 => ?_)
      replace h := h.2 v3 ev3
      refine zj_aload_n dX11_lays_82 rfl rfl ?_
      refine zj_getR (ci := 11) (j := 12) dX11_lays_83 wf_X11_40 (by decide) (by decide) (zk_223 hL) rfl (zr_223_12 hL) ?_
      refine zj_bipush (x := 12) dX11_lays_86 rfl ?_
      refine zj_iload_n dX11_lays_88 rfl rfl ?_
      refine zj_imul dX11_lays_89 ?_
      refine zj_iload_n dX11_lays_90 rfl rfl ?_
      refine zj_iadd dX11_lays_91 ?_
      refine zj_aload_n dX11_lays_92 rfl rfl ?_
      refine zj_iload_n dX11_lays_93 rfl rfl ?_
      refine zj_iload dX11_lays_94 rfl ?_
      refine zj_callV (M' := mX11_bitsOn) (avs := [.int x3, .int x4]) (st := [.int (((12 : Int32) * x1) + x2), .ref 232]) (ci := 11) dX11_lays_96 wm_X11_bitsOn wl_X11_158 wi_X11_bitsOn ws_X11_bitsOn (by decide) (zk_223 hL) rfl rfl (by decide) rfl (Nat.le_of_ble_eq_true rfl) (Nat.le_of_ble_eq_true rfl) ⟨Or.inl (z_k0 (zk_223 hL)), trivial⟩ ⟨Or.inl (z_k0 (zk_232 hL)), trivial⟩ (z_J.mono h (fun r S1 v4 hq => ?_))
      obtain ⟨y2, rfl, rfl, h⟩ := hq
      refine zj_iastore dX11_lays_99 (zk_232 hL) (by rw [(zl_232 hL)]; exact h.1) (fun v5 ev5 => ?_)
      replace h := h.2 v5 ev5
      refine zj_iinc (y := x2 + 1) (ls2 := [.ref 223, .int x1, .int (x2 + 1), .int x3, .int x4]) dX11_lays_100 rfl rfl (by decide) rfl rfl ?_
      refine zj_iinc (y := x4 + 1) (ls2 := [.ref 223, .int x1, .int (x2 + 1), .int x3, .int (x4 + 1)]) dX11_lays_103 rfl rfl (by decide) rfl rfl ?_
      refine zj_goto (tgt := 34) dX11_lays_106 (by decide) ?_
      exact h
    · replace h := h.2 c
      refine zj_goto (tgt := 103) dX11_lays_54 (by decide) ?_
      refine zj_iinc (y := x4 + 1) (ls2 := [.ref 223, .int x1, .int x2, .int x3, .int (x4 + 1)]) dX11_lays_103 rfl rfl (by decide) rfl rfl ?_
      refine zj_goto (tgt := 34) dX11_lays_106 (by decide) ?_
      exact h
theorem sg_X11_lays_139 {G : z_G} {d : Nat} {S : z_Shp} {v : z_Dat} {Q : Option Value → z_Shp → z_Dat → Prop} {x1 : Int32} {x2 : Int32} {x3 : Int32} (hL : z_L S)
    (h : ((v 223 14) ≤ x2 → (z_J G (d + 1) mX11_lays (117, [.ref 223, .int x1, .int x2, .int (x3 + 1), .null], [], S, v) Q)) ∧ (¬ (v 223 14) ≤ x2 → ((vp_in (((12 : Int32) * x1) + x2) 24) ∧ ((((((v 232 (((12 : Int32) * x1) + x2).toNatClampNeg) >>> (x3 &&& 31)) &&& 1) = 1) → ((vp_in (((25 : Int32) * x1) + x3) 50) ∧ (vp_in (((25 : Int32) * x1) + x3) 50 ∧ (∀ v1, v1 = z_u v 233 (((25 : Int32) * x1) + x3).toNatClampNeg ((v 233 (((25 : Int32) * x1) + x3).toNatClampNeg) ||| ((1 : Int32) <<< (x2 &&& 31))) → (z_J G (d + 1) mX11_lays (139, [.ref 223, .int x1, .int (x2 + 1), .int x3, .null], [], S, v1) Q))))) ∧ (¬ ((((v 232 (((12 : Int32) * x1) + x2).toNatClampNeg) >>> (x3 &&& 31)) &&& 1) = 1) → (z_J G (d + 1) mX11_lays (139, [.ref 223, .int x1, .int (x2 + 1), .int x3, .null], [], S, v) Q)))))) :
    z_J G (d + 1) mX11_lays (139, [.ref 223, .int x1, .int x2, .int x3, .null], [], S, v) Q := by
  refine zj_iload_n dX11_lays_139 rfl rfl ?_
  refine zj_aload_n dX11_lays_140 rfl rfl ?_
  refine zj_getI (ci := 11) (j := 14) dX11_lays_141 wf_X11_151 (by decide) (by decide) (zk_223 hL) rfl ?_
  refine zj_icmp_ge (tgt := 188) dX11_lays_144 (by decide) (fun c => ?_) (fun c => ?_)
  · replace h := h.1 c
    refine zj_iinc (y := x3 + 1) (ls2 := [.ref 223, .int x1, .int x2, .int (x3 + 1), .null]) dX11_lays_188 rfl rfl (by decide) rfl rfl ?_
    refine zj_goto (tgt := 117) dX11_lays_191 (by decide) ?_
    exact h
  · replace h := h.2 c
    refine zj_aload_n dX11_lays_147 rfl rfl ?_
    refine zj_getR (ci := 11) (j := 12) dX11_lays_148 wf_X11_40 (by decide) (by decide) (zk_223 hL) rfl (zr_223_12 hL) ?_
    refine zj_bipush (x := 12) dX11_lays_151 rfl ?_
    refine zj_iload_n dX11_lays_153 rfl rfl ?_
    refine zj_imul dX11_lays_154 ?_
    refine zj_iload_n dX11_lays_155 rfl rfl ?_
    refine zj_iadd dX11_lays_156 ?_
    refine zj_iaload dX11_lays_157 (zk_232 hL) (by rw [(zl_232 hL)]; exact h.1) ?_
    replace h := h.2
    refine zj_iload_n dX11_lays_158 rfl rfl ?_
    refine zj_callS (M' := mX11_bitOf) (avs := [.int (v 232 (((12 : Int32) * x1) + x2).toNatClampNeg), .int x3]) (st := []) dX11_lays_159 wm_X11_bitOf wl_X11_161 wt_X11_bitOf rfl (by decide) rfl (Nat.le_of_ble_eq_true rfl) (Nat.le_of_ble_eq_true rfl) ⟨Or.inl (z_k0 (zk_223 hL)), trivial⟩ trivial (hp_X11_bitOf (fun c => ?_) (fun c => ?_))
    · replace h := h.1 c
      refine zj_if_eq (tgt := 182) dX11_lays_162 (by decide) (fun q => absurd q (by decide)) (fun _ => ?_)
      refine zj_aload_n dX11_lays_165 rfl rfl ?_
      refine zj_getR (ci := 11) (j := 13) dX11_lays_166 wf_X11_43 (by decide) (by decide) (zk_223 hL) rfl (zr_223_13 hL) ?_
      refine zj_bipush (x := 25) dX11_lays_169 rfl ?_
      refine zj_iload_n dX11_lays_171 rfl rfl ?_
      refine zj_imul dX11_lays_172 ?_
      refine zj_iload_n dX11_lays_173 rfl rfl ?_
      refine zj_iadd dX11_lays_174 ?_
      refine zj_dup2 dX11_lays_175 rfl rfl ?_
      refine zj_iaload dX11_lays_176 (zk_233 hL) (by rw [(zl_233 hL)]; exact h.1) ?_
      replace h := h.2
      refine zj_iconst (x := 1) dX11_lays_177 rfl ?_
      refine zj_iload_n dX11_lays_178 rfl rfl ?_
      refine zj_ishl dX11_lays_179 ?_
      refine zj_ior dX11_lays_180 ?_
      refine zj_iastore dX11_lays_181 (zk_233 hL) (by rw [(zl_233 hL)]; exact h.1) (fun v1 ev1 => ?_)
      replace h := h.2 v1 ev1
      refine zj_iinc (y := x2 + 1) (ls2 := [.ref 223, .int x1, .int (x2 + 1), .int x3, .null]) dX11_lays_182 rfl rfl (by decide) rfl rfl ?_
      refine zj_goto (tgt := 139) dX11_lays_185 (by decide) ?_
      exact h
    · replace h := h.2 c
      refine zj_if_eq (tgt := 182) dX11_lays_162 (by decide) (fun _ => ?_) (fun q => absurd (by decide) q)
      refine zj_iinc (y := x2 + 1) (ls2 := [.ref 223, .int x1, .int (x2 + 1), .int x3, .null]) dX11_lays_182 rfl rfl (by decide) rfl rfl ?_
      refine zj_goto (tgt := 139) dX11_lays_185 (by decide) ?_
      exact h
theorem sg_X11_laysLeft_0 {G : z_G} {d : Nat} {S : z_Shp} {v : z_Dat} {Q : Option Value → z_Shp → z_Dat → Prop} {x1 : Int32}
    (h : z_J G d mX11_laysLeft (2, [.ref 223, .int x1, .int 0, .null, .null, .null], [], S, v) Q) :
    z_J G d mX11_laysLeft (0, [.ref 223, .int x1, .null, .null, .null, .null], [], S, v) Q := by
  refine zj_iconst (x := 0) dX11_laysLeft_0 rfl ?_
  refine zj_istore_n (ls2 := [.ref 223, .int x1, .int 0, .null, .null, .null]) dX11_laysLeft_1 rfl (by decide) rfl rfl ?_
  exact h
theorem sg_X11_laysLeft_2 {G : z_G} {d : Nat} {S : z_Shp} {v : z_Dat} {Q : Option Value → z_Shp → z_Dat → Prop} {x1 : Int32} {x2 : Int32} (hL : z_L S)
    (h : ((v 223 32) < x2 → (z_J G d mX11_laysLeft (36, [.ref 223, .int x1, .int 1, .null, .null, .null], [], S, v) Q)) ∧ (¬ (v 223 32) < x2 → ((¬ x2 = x1 → (vp_in x2 109 ∧ (∀ v1, v1 = z_u v 241 x2.toNatClampNeg 1000000 → (z_J G d mX11_laysLeft (2, [.ref 223, .int x1, .int (x2 + 1), .null, .null, .null], [], S, v1) Q)))) ∧ (x2 = x1 → (vp_in x2 109 ∧ (∀ v2, v2 = z_u v 241 x2.toNatClampNeg 0 → (z_J G d mX11_laysLeft (2, [.ref 223, .int x1, .int (x2 + 1), .null, .null, .null], [], S, v2) Q))))))) :
    z_J G d mX11_laysLeft (2, [.ref 223, .int x1, .int x2, .null, .null, .null], [], S, v) Q := by
  refine zj_iload_n dX11_laysLeft_2 rfl rfl ?_
  refine zj_aload_n dX11_laysLeft_3 rfl rfl ?_
  refine zj_getI (ci := 11) (j := 32) dX11_laysLeft_4 wf_X11_254 (by decide) (by decide) (zk_223 hL) rfl ?_
  refine zj_icmp_gt (tgt := 34) dX11_laysLeft_7 (by decide) (fun c => ?_) (fun c => ?_)
  · replace h := h.1 c
    refine zj_iconst (x := 1) dX11_laysLeft_34 rfl ?_
    refine zj_istore_n (ls2 := [.ref 223, .int x1, .int 1, .null, .null, .null]) dX11_laysLeft_35 rfl (by decide) rfl rfl ?_
    exact h
  · replace h := h.2 c
    refine zj_aload_n dX11_laysLeft_10 rfl rfl ?_
    refine zj_getR (ci := 11) (j := 29) dX11_laysLeft_11 wf_X11_67 (by decide) (by decide) (zk_223 hL) rfl (zr_223_29 hL) ?_
    refine zj_iload_n dX11_laysLeft_14 rfl rfl ?_
    refine zj_iload_n dX11_laysLeft_15 rfl rfl ?_
    refine zj_iload_n dX11_laysLeft_16 rfl rfl ?_
    refine zj_icmp_ne (tgt := 24) dX11_laysLeft_17 (by decide) (fun c => ?_) (fun c => ?_)
    · replace h := h.1 c
      refine zj_ldcw (x := 1000000) dX11_laysLeft_24 wc_X11_263 ?_
      refine zj_iastore dX11_laysLeft_27 (zk_241 hL) (by rw [(zl_241 hL)]; exact h.1) (fun v1 ev1 => ?_)
      replace h := h.2 v1 ev1
      refine zj_iinc (y := x2 + 1) (ls2 := [.ref 223, .int x1, .int (x2 + 1), .null, .null, .null]) dX11_laysLeft_28 rfl rfl (by decide) rfl rfl ?_
      refine zj_goto (tgt := 2) dX11_laysLeft_31 (by decide) ?_
      exact h
    · replace h := h.2 c
      refine zj_iconst (x := 0) dX11_laysLeft_20 rfl ?_
      refine zj_goto (tgt := 27) dX11_laysLeft_21 (by decide) ?_
      refine zj_iastore dX11_laysLeft_27 (zk_241 hL) (by rw [(zl_241 hL)]; exact h.1) (fun v2 ev2 => ?_)
      replace h := h.2 v2 ev2
      refine zj_iinc (y := x2 + 1) (ls2 := [.ref 223, .int x1, .int (x2 + 1), .null, .null, .null]) dX11_laysLeft_28 rfl rfl (by decide) rfl rfl ?_
      refine zj_goto (tgt := 2) dX11_laysLeft_31 (by decide) ?_
      exact h
theorem sg_X11_laysLeft_36 {G : z_G} {d : Nat} {S : z_Shp} {v : z_Dat} {Q : Option Value → z_Shp → z_Dat → Prop} {x1 : Int32} {x2 : Int32}
    (h : (x2 = 0 → (Q none S v)) ∧ (¬ x2 = 0 → (z_J G d mX11_laysLeft (44, [.ref 223, .int x1, .int 0, .int 0, .null, .null], [], S, v) Q))) :
    z_J G d mX11_laysLeft (36, [.ref 223, .int x1, .int x2, .null, .null, .null], [], S, v) Q := by
  refine zj_iload_n dX11_laysLeft_36 rfl rfl ?_
  refine zj_if_eq (tgt := 199) dX11_laysLeft_37 (by decide) (fun c => ?_) (fun c => ?_)
  · replace h := h.1 c
    exact zj_vret dX11_laysLeft_199 rfl h
  · replace h := h.2 c
    refine zj_iconst (x := 0) dX11_laysLeft_40 rfl ?_
    refine zj_istore_n (ls2 := [.ref 223, .int x1, .int 0, .null, .null, .null]) dX11_laysLeft_41 rfl (by decide) rfl rfl ?_
    refine zj_iconst (x := 0) dX11_laysLeft_42 rfl ?_
    refine zj_istore_n (ls2 := [.ref 223, .int x1, .int 0, .int 0, .null, .null]) dX11_laysLeft_43 rfl (by decide) rfl rfl ?_
    exact h
theorem sg_X11_laysLeft_44 {G : z_G} {d : Nat} {S : z_Shp} {v : z_Dat} {Q : Option Value → z_Shp → z_Dat → Prop} {x1 : Int32} {x2 : Int32} {x3 : Int32} (hL : z_L S)
    (h : ((v 223 31) ≤ x3 → (z_J G d mX11_laysLeft (36, [.ref 223, .int x1, .int x2, .null, .null, .null], [], S, v) Q)) ∧ (¬ (v 223 31) ≤ x3 → ((vp_in x3 321) ∧ ((¬ (v 239 x3.toNatClampNeg) = (v 223 32) → ((vp_in x3 321) ∧ ((vp_in (v 238 x3.toNatClampNeg) 109) ∧ ((vp_in x3 321) ∧ ((vp_in (v 239 x3.toNatClampNeg) 109) ∧ ((vp_in x3 321) ∧ (((v 241 (v 238 x3.toNatClampNeg).toNatClampNeg) ≤ ((v 241 (v 239 x3.toNatClampNeg).toNatClampNeg) + (v 240 x3.toNatClampNeg)) → ((vp_in x3 321) ∧ (((v 241 (v 239 x3.toNatClampNeg).toNatClampNeg) ≤ ((v 241 (v 238 x3.toNatClampNeg).toNatClampNeg) + (v 240 x3.toNatClampNeg)) → (z_J G d mX11_laysLeft (44, [.ref 223, .int x1, .int x2, .int (x3 + 1), .null, .null], [], S, v) Q)) ∧ (¬ (v 241 (v 239 x3.toNatClampNeg).toNatClampNeg) ≤ ((v 241 (v 238 x3.toNatClampNeg).toNatClampNeg) + (v 240 x3.toNatClampNeg)) → ((vp_in x3 321) ∧ (((v 239 x3.toNatClampNeg) = (v 223 32) → (z_J G d mX11_laysLeft (44, [.ref 223, .int x1, .int x2, .int (x3 + 1), .null, .null], [], S, v) Q)) ∧ (¬ (v 239 x3.toNatClampNeg) = (v 223 32) → ((vp_in x3 321) ∧ ((vp_in x3 321) ∧ (vp_in (v 239 x3.toNatClampNeg) 109 ∧ (∀ v1, v1 = z_u v 241 (v 239 x3.toNatClampNeg).toNatClampNeg ((v 241 (v 238 x3.toNatClampNeg).toNatClampNeg) + (v 240 x3.toNatClampNeg)) → (z_J G d mX11_laysLeft (44, [.ref 223, .int x1, .int 1, .int (x3 + 1), .null, .null], [], S, v1) Q)))))))))))) ∧ (¬ (v 241 (v 238 x3.toNatClampNeg).toNatClampNeg) ≤ ((v 241 (v 239 x3.toNatClampNeg).toNatClampNeg) + (v 240 x3.toNatClampNeg)) → ((vp_in x3 321) ∧ ((vp_in x3 321) ∧ (vp_in (v 238 x3.toNatClampNeg) 109 ∧ (∀ v2, v2 = z_u v 241 (v 238 x3.toNatClampNeg).toNatClampNeg ((v 241 (v 239 x3.toNatClampNeg).toNatClampNeg) + (v 240 x3.toNatClampNeg)) → (z_J G d mX11_laysLeft (44, [.ref 223, .int x1, .int 1, .int (x3 + 1), .null, .null], [], S, v2) Q))))))))))))) ∧ ((v 239 x3.toNatClampNeg) = (v 223 32) → ((x1 = (v 223 32) → ((vp_in x3 321) ∧ ((vp_in (v 238 x3.toNatClampNeg) 109) ∧ ((vp_in x3 321) ∧ ((vp_in (v 239 x3.toNatClampNeg) 109) ∧ ((vp_in x3 321) ∧ (((v 241 (v 238 x3.toNatClampNeg).toNatClampNeg) ≤ ((v 241 (v 239 x3.toNatClampNeg).toNatClampNeg) + (v 240 x3.toNatClampNeg)) → ((vp_in x3 321) ∧ (((v 241 (v 239 x3.toNatClampNeg).toNatClampNeg) ≤ ((v 241 (v 238 x3.toNatClampNeg).toNatClampNeg) + (v 240 x3.toNatClampNeg)) → (z_J G d mX11_laysLeft (44, [.ref 223, .int x1, .int x2, .int (x3 + 1), .null, .null], [], S, v) Q)) ∧ (¬ (v 241 (v 239 x3.toNatClampNeg).toNatClampNeg) ≤ ((v 241 (v 238 x3.toNatClampNeg).toNatClampNeg) + (v 240 x3.toNatClampNeg)) → ((vp_in x3 321) ∧ (((v 239 x3.toNatClampNeg) = (v 223 32) → (z_J G d mX11_laysLeft (44, [.ref 223, .int x1, .int x2, .int (x3 + 1), .null, .null], [], S, v) Q)) ∧ (¬ (v 239 x3.toNatClampNeg) = (v 223 32) → ((vp_in x3 321) ∧ ((vp_in x3 321) ∧ (vp_in (v 239 x3.toNatClampNeg) 109 ∧ (∀ v3, v3 = z_u v 241 (v 239 x3.toNatClampNeg).toNatClampNeg ((v 241 (v 238 x3.toNatClampNeg).toNatClampNeg) + (v 240 x3.toNatClampNeg)) → (z_J G d mX11_laysLeft (44, [.ref 223, .int x1, .int 1, .int (x3 + 1), .null, .null], [], S, v3) Q)))))))))))) ∧ (¬ (v 241 (v 238 x3.toNatClampNeg).toNatClampNeg) ≤ ((v 241 (v 239 x3.toNatClampNeg).toNatClampNeg) + (v 240 x3.toNatClampNeg)) → ((vp_in x3 321) ∧ ((vp_in x3 321) ∧ (vp_in (v 238 x3.toNatClampNeg) 109 ∧ (∀ v4, v4 = z_u v 241 (v 238 x3.toNatClampNeg).toNatClampNeg ((v 241 (v 239 x3.toNatClampNeg).toNatClampNeg) + (v 240 x3.toNatClampNeg)) → (z_J G d mX11_laysLeft (44, [.ref 223, .int x1, .int 1, .int (x3 + 1), .null, .null], [], S, v4) Q))))))))))))) ∧ (¬ x1 = (v 223 32) → (z_J G d mX11_laysLeft (44, [.ref 223, .int x1, .int x2, .int (x3 + 1), .null, .null], [], S, v) Q)))))))) :
    z_J G d mX11_laysLeft (44, [.ref 223, .int x1, .int x2, .int x3, .null, .null], [], S, v) Q := by
  refine zj_iload_n dX11_laysLeft_44 rfl rfl ?_
  refine zj_aload_n dX11_laysLeft_45 rfl rfl ?_
  refine zj_getI (ci := 11) (j := 31) dX11_laysLeft_46 wf_X11_251 (by decide) (by decide) (zk_223 hL) rfl ?_
  refine zj_icmp_ge (tgt := 196) dX11_laysLeft_49 (by decide) (fun c => ?_) (fun c => ?_)
  · replace h := h.1 c
    refine zj_goto (tgt := 36) dX11_laysLeft_196 (by decide) ?_
    refine zj_forget (ls2 := [.ref 223, .int x1, .int x2, .null, .null, .null]) ⟨Or.inr rfl, Or.inr rfl, Or.inr rfl, Or.inl rfl, Or.inr rfl, Or.inr rfl, trivial⟩ ?_
    exact h
  · replace h := h.2 c
    refine zj_aload_n dX11_laysLeft_52 rfl rfl ?_
    refine zj_getR (ci := 11) (j := 27) dX11_laysLeft_53 wf_X11_61 (by decide) (by decide) (zk_223 hL) rfl (zr_223_27 hL) ?_
    refine zj_iload_n dX11_laysLeft_56 rfl rfl ?_
    refine zj_iaload dX11_laysLeft_57 (zk_239 hL) (by rw [(zl_239 hL)]; exact h.1) ?_
    replace h := h.2
    refine zj_aload_n dX11_laysLeft_58 rfl rfl ?_
    refine zj_getI (ci := 11) (j := 32) dX11_laysLeft_59 wf_X11_254 (by decide) (by decide) (zk_223 hL) rfl ?_
    refine zj_icmp_ne (tgt := 76) dX11_laysLeft_62 (by decide) (fun c => ?_) (fun c => ?_)
    · replace h := h.1 c
      refine zj_aload_n dX11_laysLeft_76 rfl rfl ?_
      refine zj_getR (ci := 11) (j := 29) dX11_laysLeft_77 wf_X11_67 (by decide) (by decide) (zk_223 hL) rfl (zr_223_29 hL) ?_
      refine zj_aload_n dX11_laysLeft_80 rfl rfl ?_
      refine zj_getR (ci := 11) (j := 26) dX11_laysLeft_81 wf_X11_58 (by decide) (by decide) (zk_223 hL) rfl (zr_223_26 hL) ?_
      refine zj_iload_n dX11_laysLeft_84 rfl rfl ?_
      refine zj_iaload dX11_laysLeft_85 (zk_238 hL) (by rw [(zl_238 hL)]; exact h.1) ?_
      replace h := h.2
      refine zj_iaload dX11_laysLeft_86 (zk_241 hL) (by rw [(zl_241 hL)]; exact h.1) ?_
      replace h := h.2
      refine zj_istore (ls2 := [.ref 223, .int x1, .int x2, .int x3, .int (v 241 (v 238 x3.toNatClampNeg).toNatClampNeg), .null]) dX11_laysLeft_87 (by decide) rfl rfl ?_
      refine zj_aload_n dX11_laysLeft_89 rfl rfl ?_
      refine zj_getR (ci := 11) (j := 29) dX11_laysLeft_90 wf_X11_67 (by decide) (by decide) (zk_223 hL) rfl (zr_223_29 hL) ?_
      refine zj_aload_n dX11_laysLeft_93 rfl rfl ?_
      refine zj_getR (ci := 11) (j := 27) dX11_laysLeft_94 wf_X11_61 (by decide) (by decide) (zk_223 hL) rfl (zr_223_27 hL) ?_
      refine zj_iload_n dX11_laysLeft_97 rfl rfl ?_
      refine zj_iaload dX11_laysLeft_98 (zk_239 hL) (by rw [(zl_239 hL)]; exact h.1) ?_
      replace h := h.2
      refine zj_iaload dX11_laysLeft_99 (zk_241 hL) (by rw [(zl_241 hL)]; exact h.1) ?_
      replace h := h.2
      refine zj_istore (ls2 := [.ref 223, .int x1, .int x2, .int x3, .int (v 241 (v 238 x3.toNatClampNeg).toNatClampNeg), .int (v 241 (v 239 x3.toNatClampNeg).toNatClampNeg)]) dX11_laysLeft_100 (by decide) rfl rfl ?_
      refine zj_iload dX11_laysLeft_102 rfl ?_
      refine zj_aload_n dX11_laysLeft_104 rfl rfl ?_
      refine zj_getR (ci := 11) (j := 28) dX11_laysLeft_105 wf_X11_64 (by decide) (by decide) (zk_223 hL) rfl (zr_223_28 hL) ?_
      refine zj_iload_n dX11_laysLeft_108 rfl rfl ?_
      refine zj_iaload dX11_laysLeft_109 (zk_240 hL) (by rw [(zl_240 hL)]; exact h.1) ?_
      replace h := h.2
      refine zj_iadd dX11_laysLeft_110 ?_
      refine zj_iload dX11_laysLeft_111 rfl ?_
      refine zj_icmp_ge (tgt := 141) dX11_laysLeft_113 (by decide) (fun c => ?_) (fun c => ?_)
      · replace h := h.1 c
        refine zj_iload dX11_laysLeft_141 rfl ?_
        refine zj_aload_n dX11_laysLeft_143 rfl rfl ?_
        refine zj_getR (ci := 11) (j := 28) dX11_laysLeft_144 wf_X11_64 (by decide) (by decide) (zk_223 hL) rfl (zr_223_28 hL) ?_
        refine zj_iload_n dX11_laysLeft_147 rfl rfl ?_
        refine zj_iaload dX11_laysLeft_148 (zk_240 hL) (by rw [(zl_240 hL)]; exact h.1) ?_
        replace h := h.2
        refine zj_iadd dX11_laysLeft_149 ?_
        refine zj_iload dX11_laysLeft_150 rfl ?_
        refine zj_icmp_ge (tgt := 190) dX11_laysLeft_152 (by decide) (fun c => ?_) (fun c => ?_)
        · replace h := h.1 c
          refine zj_iinc (y := x3 + 1) (ls2 := [.ref 223, .int x1, .int x2, .int (x3 + 1), .int (v 241 (v 238 x3.toNatClampNeg).toNatClampNeg), .int (v 241 (v 239 x3.toNatClampNeg).toNatClampNeg)]) dX11_laysLeft_190 rfl rfl (by decide) rfl rfl ?_
          refine zj_goto (tgt := 44) dX11_laysLeft_193 (by decide) ?_
          refine zj_forget (ls2 := [.ref 223, .int x1, .int x2, .int (x3 + 1), .null, .null]) ⟨Or.inr rfl, Or.inr rfl, Or.inr rfl, Or.inr rfl, Or.inl rfl, Or.inl rfl, trivial⟩ ?_
          exact h
        · replace h := h.2 c
          refine zj_aload_n dX11_laysLeft_155 rfl rfl ?_
          refine zj_getR (ci := 11) (j := 27) dX11_laysLeft_156 wf_X11_61 (by decide) (by decide) (zk_223 hL) rfl (zr_223_27 hL) ?_
          refine zj_iload_n dX11_laysLeft_159 rfl rfl ?_
          refine zj_iaload dX11_laysLeft_160 (zk_239 hL) (by rw [(zl_239 hL)]; exact h.1) ?_
          replace h := h.2
          refine zj_aload_n dX11_laysLeft_161 rfl rfl ?_
          refine zj_getI (ci := 11) (j := 32) dX11_laysLeft_162 wf_X11_254 (by decide) (by decide) (zk_223 hL) rfl ?_
          refine zj_icmp_eq (tgt := 190) dX11_laysLeft_165 (by decide) (fun c => ?_) (fun c => ?_)
          · replace h := h.1 c
            refine zj_iinc (y := x3 + 1) (ls2 := [.ref 223, .int x1, .int x2, .int (x3 + 1), .int (v 241 (v 238 x3.toNatClampNeg).toNatClampNeg), .int (v 241 (v 239 x3.toNatClampNeg).toNatClampNeg)]) dX11_laysLeft_190 rfl rfl (by decide) rfl rfl ?_
            refine zj_goto (tgt := 44) dX11_laysLeft_193 (by decide) ?_
            refine zj_forget (ls2 := [.ref 223, .int x1, .int x2, .int (x3 + 1), .null, .null]) ⟨Or.inr rfl, Or.inr rfl, Or.inr rfl, Or.inr rfl, Or.inl rfl, Or.inl rfl, trivial⟩ ?_
            exact h
          · replace h := h.2 c
            refine zj_aload_n dX11_laysLeft_168 rfl rfl ?_
            refine zj_getR (ci := 11) (j := 29) dX11_laysLeft_169 wf_X11_67 (by decide) (by decide) (zk_223 hL) rfl (zr_223_29 hL) ?_
            refine zj_aload_n dX11_laysLeft_172 rfl rfl ?_
            refine zj_getR (ci := 11) (j := 27) dX11_laysLeft_173 wf_X11_61 (by decide) (by decide) (zk_223 hL) rfl (zr_223_27 hL) ?_
            refine zj_iload_n dX11_laysLeft_176 rfl rfl ?_
            refine zj_iaload dX11_laysLeft_177 (zk_239 hL) (by rw [(zl_239 hL)]; exact h.1) ?_
            replace h := h.2
            refine zj_iload dX11_laysLeft_178 rfl ?_
            refine zj_aload_n dX11_laysLeft_180 rfl rfl ?_
            refine zj_getR (ci := 11) (j := 28) dX11_laysLeft_181 wf_X11_64 (by decide) (by decide) (zk_223 hL) rfl (zr_223_28 hL) ?_
            refine zj_iload_n dX11_laysLeft_184 rfl rfl ?_
            refine zj_iaload dX11_laysLeft_185 (zk_240 hL) (by rw [(zl_240 hL)]; exact h.1) ?_
            replace h := h.2
            refine zj_iadd dX11_laysLeft_186 ?_
            refine zj_iastore dX11_laysLeft_187 (zk_241 hL) (by rw [(zl_241 hL)]; exact h.1) (fun v1 ev1 => ?_)
            replace h := h.2 v1 ev1
            refine zj_iconst (x := 1) dX11_laysLeft_188 rfl ?_
            refine zj_istore_n (ls2 := [.ref 223, .int x1, .int 1, .int x3, .int (v 241 (v 238 x3.toNatClampNeg).toNatClampNeg), .int (v 241 (v 239 x3.toNatClampNeg).toNatClampNeg)]) dX11_laysLeft_189 rfl (by decide) rfl rfl ?_
            refine zj_iinc (y := x3 + 1) (ls2 := [.ref 223, .int x1, .int 1, .int (x3 + 1), .int (v 241 (v 238 x3.toNatClampNeg).toNatClampNeg), .int (v 241 (v 239 x3.toNatClampNeg).toNatClampNeg)]) dX11_laysLeft_190 rfl rfl (by decide) rfl rfl ?_
            refine zj_goto (tgt := 44) dX11_laysLeft_193 (by decide) ?_
            refine zj_forget (ls2 := [.ref 223, .int x1, .int 1, .int (x3 + 1), .null, .null]) ⟨Or.inr rfl, Or.inr rfl, Or.inr rfl, Or.inr rfl, Or.inl rfl, Or.inl rfl, trivial⟩ ?_
            exact h
      · replace h := h.2 c
        refine zj_aload_n dX11_laysLeft_116 rfl rfl ?_
        refine zj_getR (ci := 11) (j := 29) dX11_laysLeft_117 wf_X11_67 (by decide) (by decide) (zk_223 hL) rfl (zr_223_29 hL) ?_
        refine zj_aload_n dX11_laysLeft_120 rfl rfl ?_
        refine zj_getR (ci := 11) (j := 26) dX11_laysLeft_121 wf_X11_58 (by decide) (by decide) (zk_223 hL) rfl (zr_223_26 hL) ?_
        refine zj_iload_n dX11_laysLeft_124 rfl rfl ?_
        refine zj_iaload dX11_laysLeft_125 (zk_238 hL) (by rw [(zl_238 hL)]; exact h.1) ?_
        replace h := h.2
        refine zj_iload dX11_laysLeft_126 rfl ?_
        refine zj_aload_n dX11_laysLeft_128 rfl rfl ?_
        refine zj_getR (ci := 11) (j := 28) dX11_laysLeft_129 wf_X11_64 (by decide) (by decide) (zk_223 hL) rfl (zr_223_28 hL) ?_
        refine zj_iload_n dX11_laysLeft_132 rfl rfl ?_
        refine zj_iaload dX11_laysLeft_133 (zk_240 hL) (by rw [(zl_240 hL)]; exact h.1) ?_
        replace h := h.2
        refine zj_iadd dX11_laysLeft_134 ?_
        refine zj_iastore dX11_laysLeft_135 (zk_241 hL) (by rw [(zl_241 hL)]; exact h.1) (fun v2 ev2 => ?_)
        replace h := h.2 v2 ev2
        refine zj_iconst (x := 1) dX11_laysLeft_136 rfl ?_
        refine zj_istore_n (ls2 := [.ref 223, .int x1, .int 1, .int x3, .int (v 241 (v 238 x3.toNatClampNeg).toNatClampNeg), .int (v 241 (v 239 x3.toNatClampNeg).toNatClampNeg)]) dX11_laysLeft_137 rfl (by decide) rfl rfl ?_
        refine zj_goto (tgt := 190) dX11_laysLeft_138 (by decide) ?_
        refine zj_iinc (y := x3 + 1) (ls2 := [.ref 223, .int x1, .int 1, .int (x3 + 1), .int (v 241 (v 238 x3.toNatClampNeg).toNatClampNeg), .int (v 241 (v 239 x3.toNatClampNeg).toNatClampNeg)]) dX11_laysLeft_190 rfl rfl (by decide) rfl rfl ?_
        refine zj_goto (tgt := 44) dX11_laysLeft_193 (by decide) ?_
        refine zj_forget (ls2 := [.ref 223, .int x1, .int 1, .int (x3 + 1), .null, .null]) ⟨Or.inr rfl, Or.inr rfl, Or.inr rfl, Or.inr rfl, Or.inl rfl, Or.inl rfl, trivial⟩ ?_
        exact h
    · replace h := h.2 c
      refine zj_iload_n dX11_laysLeft_65 rfl rfl ?_
      refine zj_aload_n dX11_laysLeft_66 rfl rfl ?_
      refine zj_getI (ci := 11) (j := 32) dX11_laysLeft_67 wf_X11_254 (by decide) (by decide) (zk_223 hL) rfl ?_
      refine zj_icmp_eq (tgt := 76) dX11_laysLeft_70 (by decide) (fun c => ?_) (fun c => ?_)
      · replace h := h.1 c
        refine zj_aload_n dX11_laysLeft_76 rfl rfl ?_
        refine zj_getR (ci := 11) (j := 29) dX11_laysLeft_77 wf_X11_67 (by decide) (by decide) (zk_223 hL) rfl (zr_223_29 hL) ?_
        refine zj_aload_n dX11_laysLeft_80 rfl rfl ?_
        refine zj_getR (ci := 11) (j := 26) dX11_laysLeft_81 wf_X11_58 (by decide) (by decide) (zk_223 hL) rfl (zr_223_26 hL) ?_
        refine zj_iload_n dX11_laysLeft_84 rfl rfl ?_
        refine zj_iaload dX11_laysLeft_85 (zk_238 hL) (by rw [(zl_238 hL)]; exact h.1) ?_
        replace h := h.2
        refine zj_iaload dX11_laysLeft_86 (zk_241 hL) (by rw [(zl_241 hL)]; exact h.1) ?_
        replace h := h.2
        refine zj_istore (ls2 := [.ref 223, .int x1, .int x2, .int x3, .int (v 241 (v 238 x3.toNatClampNeg).toNatClampNeg), .null]) dX11_laysLeft_87 (by decide) rfl rfl ?_
        refine zj_aload_n dX11_laysLeft_89 rfl rfl ?_
        refine zj_getR (ci := 11) (j := 29) dX11_laysLeft_90 wf_X11_67 (by decide) (by decide) (zk_223 hL) rfl (zr_223_29 hL) ?_
        refine zj_aload_n dX11_laysLeft_93 rfl rfl ?_
        refine zj_getR (ci := 11) (j := 27) dX11_laysLeft_94 wf_X11_61 (by decide) (by decide) (zk_223 hL) rfl (zr_223_27 hL) ?_
        refine zj_iload_n dX11_laysLeft_97 rfl rfl ?_
        refine zj_iaload dX11_laysLeft_98 (zk_239 hL) (by rw [(zl_239 hL)]; exact h.1) ?_
        replace h := h.2
        refine zj_iaload dX11_laysLeft_99 (zk_241 hL) (by rw [(zl_241 hL)]; exact h.1) ?_
        replace h := h.2
        refine zj_istore (ls2 := [.ref 223, .int x1, .int x2, .int x3, .int (v 241 (v 238 x3.toNatClampNeg).toNatClampNeg), .int (v 241 (v 239 x3.toNatClampNeg).toNatClampNeg)]) dX11_laysLeft_100 (by decide) rfl rfl ?_
        refine zj_iload dX11_laysLeft_102 rfl ?_
        refine zj_aload_n dX11_laysLeft_104 rfl rfl ?_
        refine zj_getR (ci := 11) (j := 28) dX11_laysLeft_105 wf_X11_64 (by decide) (by decide) (zk_223 hL) rfl (zr_223_28 hL) ?_
        refine zj_iload_n dX11_laysLeft_108 rfl rfl ?_
        refine zj_iaload dX11_laysLeft_109 (zk_240 hL) (by rw [(zl_240 hL)]; exact h.1) ?_
        replace h := h.2
        refine zj_iadd dX11_laysLeft_110 ?_
        refine zj_iload dX11_laysLeft_111 rfl ?_
        refine zj_icmp_ge (tgt := 141) dX11_laysLeft_113 (by decide) (fun c => ?_) (fun c => ?_)
        · replace h := h.1 c
          refine zj_iload dX11_laysLeft_141 rfl ?_
          refine zj_aload_n dX11_laysLeft_143 rfl rfl ?_
          refine zj_getR (ci := 11) (j := 28) dX11_laysLeft_144 wf_X11_64 (by decide) (by decide) (zk_223 hL) rfl (zr_223_28 hL) ?_
          refine zj_iload_n dX11_laysLeft_147 rfl rfl ?_
          refine zj_iaload dX11_laysLeft_148 (zk_240 hL) (by rw [(zl_240 hL)]; exact h.1) ?_
          replace h := h.2
          refine zj_iadd dX11_laysLeft_149 ?_
          refine zj_iload dX11_laysLeft_150 rfl ?_
          refine zj_icmp_ge (tgt := 190) dX11_laysLeft_152 (by decide) (fun c => ?_) (fun c => ?_)
          · replace h := h.1 c
            refine zj_iinc (y := x3 + 1) (ls2 := [.ref 223, .int x1, .int x2, .int (x3 + 1), .int (v 241 (v 238 x3.toNatClampNeg).toNatClampNeg), .int (v 241 (v 239 x3.toNatClampNeg).toNatClampNeg)]) dX11_laysLeft_190 rfl rfl (by decide) rfl rfl ?_
            refine zj_goto (tgt := 44) dX11_laysLeft_193 (by decide) ?_
            refine zj_forget (ls2 := [.ref 223, .int x1, .int x2, .int (x3 + 1), .null, .null]) ⟨Or.inr rfl, Or.inr rfl, Or.inr rfl, Or.inr rfl, Or.inl rfl, Or.inl rfl, trivial⟩ ?_
            exact h
          · replace h := h.2 c
            refine zj_aload_n dX11_laysLeft_155 rfl rfl ?_
            refine zj_getR (ci := 11) (j := 27) dX11_laysLeft_156 wf_X11_61 (by decide) (by decide) (zk_223 hL) rfl (zr_223_27 hL) ?_
            refine zj_iload_n dX11_laysLeft_159 rfl rfl ?_
            refine zj_iaload dX11_laysLeft_160 (zk_239 hL) (by rw [(zl_239 hL)]; exact h.1) ?_
            replace h := h.2
            refine zj_aload_n dX11_laysLeft_161 rfl rfl ?_
            refine zj_getI (ci := 11) (j := 32) dX11_laysLeft_162 wf_X11_254 (by decide) (by decide) (zk_223 hL) rfl ?_
            refine zj_icmp_eq (tgt := 190) dX11_laysLeft_165 (by decide) (fun c => ?_) (fun c => ?_)
            · replace h := h.1 c
              refine zj_iinc (y := x3 + 1) (ls2 := [.ref 223, .int x1, .int x2, .int (x3 + 1), .int (v 241 (v 238 x3.toNatClampNeg).toNatClampNeg), .int (v 241 (v 239 x3.toNatClampNeg).toNatClampNeg)]) dX11_laysLeft_190 rfl rfl (by decide) rfl rfl ?_
              refine zj_goto (tgt := 44) dX11_laysLeft_193 (by decide) ?_
              refine zj_forget (ls2 := [.ref 223, .int x1, .int x2, .int (x3 + 1), .null, .null]) ⟨Or.inr rfl, Or.inr rfl, Or.inr rfl, Or.inr rfl, Or.inl rfl, Or.inl rfl, trivial⟩ ?_
              exact h
            · replace h := h.2 c
              refine zj_aload_n dX11_laysLeft_168 rfl rfl ?_
              refine zj_getR (ci := 11) (j := 29) dX11_laysLeft_169 wf_X11_67 (by decide) (by decide) (zk_223 hL) rfl (zr_223_29 hL) ?_
              refine zj_aload_n dX11_laysLeft_172 rfl rfl ?_
              refine zj_getR (ci := 11) (j := 27) dX11_laysLeft_173 wf_X11_61 (by decide) (by decide) (zk_223 hL) rfl (zr_223_27 hL) ?_
              refine zj_iload_n dX11_laysLeft_176 rfl rfl ?_
              refine zj_iaload dX11_laysLeft_177 (zk_239 hL) (by rw [(zl_239 hL)]; exact h.1) ?_
              replace h := h.2
              refine zj_iload dX11_laysLeft_178 rfl ?_
              refine zj_aload_n dX11_laysLeft_180 rfl rfl ?_
              refine zj_getR (ci := 11) (j := 28) dX11_laysLeft_181 wf_X11_64 (by decide) (by decide) (zk_223 hL) rfl (zr_223_28 hL) ?_
              refine zj_iload_n dX11_laysLeft_184 rfl rfl ?_
              refine zj_iaload dX11_laysLeft_185 (zk_240 hL) (by rw [(zl_240 hL)]; exact h.1) ?_
              replace h := h.2
              refine zj_iadd dX11_laysLeft_186 ?_
              refine zj_iastore dX11_laysLeft_187 (zk_241 hL) (by rw [(zl_241 hL)]; exact h.1) (fun v3 ev3 => ?_)
              replace h := h.2 v3 ev3
              refine zj_iconst (x := 1) dX11_laysLeft_188 rfl ?_
              refine zj_istore_n (ls2 := [.ref 223, .int x1, .int 1, .int x3, .int (v 241 (v 238 x3.toNatClampNeg).toNatClampNeg), .int (v 241 (v 239 x3.toNatClampNeg).toNatClampNeg)]) dX11_laysLeft_189 rfl (by decide) rfl rfl ?_
              refine zj_iinc (y := x3 + 1) (ls2 := [.ref 223, .int x1, .int 1, .int (x3 + 1), .int (v 241 (v 238 x3.toNatClampNeg).toNatClampNeg), .int (v 241 (v 239 x3.toNatClampNeg).toNatClampNeg)]) dX11_laysLeft_190 rfl rfl (by decide) rfl rfl ?_
              refine zj_goto (tgt := 44) dX11_laysLeft_193 (by decide) ?_
              refine zj_forget (ls2 := [.ref 223, .int x1, .int 1, .int (x3 + 1), .null, .null]) ⟨Or.inr rfl, Or.inr rfl, Or.inr rfl, Or.inr rfl, Or.inl rfl, Or.inl rfl, trivial⟩ ?_
              exact h
        · replace h := h.2 c
          refine zj_aload_n dX11_laysLeft_116 rfl rfl ?_
          refine zj_getR (ci := 11) (j := 29) dX11_laysLeft_117 wf_X11_67 (by decide) (by decide) (zk_223 hL) rfl (zr_223_29 hL) ?_
          refine zj_aload_n dX11_laysLeft_120 rfl rfl ?_
          refine zj_getR (ci := 11) (j := 26) dX11_laysLeft_121 wf_X11_58 (by decide) (by decide) (zk_223 hL) rfl (zr_223_26 hL) ?_
          refine zj_iload_n dX11_laysLeft_124 rfl rfl ?_
          refine zj_iaload dX11_laysLeft_125 (zk_238 hL) (by rw [(zl_238 hL)]; exact h.1) ?_
          replace h := h.2
          refine zj_iload dX11_laysLeft_126 rfl ?_
          refine zj_aload_n dX11_laysLeft_128 rfl rfl ?_
          refine zj_getR (ci := 11) (j := 28) dX11_laysLeft_129 wf_X11_64 (by decide) (by decide) (zk_223 hL) rfl (zr_223_28 hL) ?_
          refine zj_iload_n dX11_laysLeft_132 rfl rfl ?_
          refine zj_iaload dX11_laysLeft_133 (zk_240 hL) (by rw [(zl_240 hL)]; exact h.1) ?_
          replace h := h.2
          refine zj_iadd dX11_laysLeft_134 ?_
          refine zj_iastore dX11_laysLeft_135 (zk_241 hL) (by rw [(zl_241 hL)]; exact h.1) (fun v4 ev4 => ?_)
          replace h := h.2 v4 ev4
          refine zj_iconst (x := 1) dX11_laysLeft_136 rfl ?_
          refine zj_istore_n (ls2 := [.ref 223, .int x1, .int 1, .int x3, .int (v 241 (v 238 x3.toNatClampNeg).toNatClampNeg), .int (v 241 (v 239 x3.toNatClampNeg).toNatClampNeg)]) dX11_laysLeft_137 rfl (by decide) rfl rfl ?_
          refine zj_goto (tgt := 190) dX11_laysLeft_138 (by decide) ?_
          refine zj_iinc (y := x3 + 1) (ls2 := [.ref 223, .int x1, .int 1, .int (x3 + 1), .int (v 241 (v 238 x3.toNatClampNeg).toNatClampNeg), .int (v 241 (v 239 x3.toNatClampNeg).toNatClampNeg)]) dX11_laysLeft_190 rfl rfl (by decide) rfl rfl ?_
          refine zj_goto (tgt := 44) dX11_laysLeft_193 (by decide) ?_
          refine zj_forget (ls2 := [.ref 223, .int x1, .int 1, .int (x3 + 1), .null, .null]) ⟨Or.inr rfl, Or.inr rfl, Or.inr rfl, Or.inr rfl, Or.inl rfl, Or.inl rfl, trivial⟩ ?_
          exact h
      · replace h := h.2 c
        refine zj_goto (tgt := 190) dX11_laysLeft_73 (by decide) ?_
        refine zj_iinc (y := x3 + 1) (ls2 := [.ref 223, .int x1, .int x2, .int (x3 + 1), .null, .null]) dX11_laysLeft_190 rfl rfl (by decide) rfl rfl ?_
        refine zj_goto (tgt := 44) dX11_laysLeft_193 (by decide) ?_
        exact h
