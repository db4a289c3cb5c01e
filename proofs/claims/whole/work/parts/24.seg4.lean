theorem sg_X11_laysNet_0 {G : z_G} {d : Nat} {S : z_Shp} {v : z_Dat} {Q : Option Value → z_Shp → z_Dat → Prop} {x1 : Int32} (hL : z_L S)
    (h : ∀ v1, v1 = z_u v 223 34 x1 → (∀ v2, v2 = z_u v1 223 31 (((v1 224 1) * (((v1 224 0) * (v1 224 0)) + (v1 223 14))) + ((v1 224 0) * (v1 224 0))) → (∀ v3, v3 = z_u v2 223 32 (((v2 224 1) + 1) * (v2 223 14)) → (z_J G (d + 1) mX11_laysNet (51, [.ref 223, .int x1, .int (((v1 224 0) * (v1 224 0)) + (v1 223 14)), .int 0, .null, .null, .null, .null], [], S, v3) Q)))) :
    z_J G (d + 1) mX11_laysNet (0, [.ref 223, .int x1, .null, .null, .null, .null, .null, .null], [], S, v) Q := by
  refine zj_aload_n dX11_laysNet_0 rfl rfl ?_
  refine zj_iload_n dX11_laysNet_1 rfl rfl ?_
  refine zj_putI (ci := 11) (j := 34) dX11_laysNet_2 wf_X11_248 (by decide) (by decide) (zk_223 hL) rfl rfl rfl rfl (fun v1 ev1 => ?_)
  replace h := h v1 ev1
  refine zj_aload_n dX11_laysNet_5 rfl rfl ?_
  refine zj_callV (M' := mX11_qubits) (avs := []) (st := []) (ci := 11) dX11_laysNet_6 wm_X11_qubits wl_X11_148 wi_X11_qubits ws_X11_qubits (by decide) (zk_223 hL) rfl rfl (by decide) rfl (Nat.le_of_ble_eq_true rfl) (Nat.le_of_ble_eq_true rfl) ⟨Or.inl (z_k0 (zk_223 hL)), trivial⟩ trivial (hp_X11_qubits hL ?_)
  refine zj_aload_n dX11_laysNet_9 rfl rfl ?_
  refine zj_getI (ci := 11) (j := 14) dX11_laysNet_10 wf_X11_151 (by decide) (by decide) (zk_223 hL) rfl ?_
  refine zj_iadd dX11_laysNet_13 ?_
  refine zj_istore_n (ls2 := [.ref 223, .int x1, .int (((v1 224 0) * (v1 224 0)) + (v1 223 14)), .null, .null, .null, .null, .null]) dX11_laysNet_14 rfl (by decide) rfl rfl ?_
  refine zj_aload_n dX11_laysNet_15 rfl rfl ?_
  refine zj_aload_n dX11_laysNet_16 rfl rfl ?_
  refine zj_getR (ci := 11) (j := 1) dX11_laysNet_17 wf_X11_13 (by decide) (by decide) (zk_223 hL) rfl (zr_223_1 hL) ?_
  refine zj_iconst (x := 1) dX11_laysNet_20 rfl ?_
  refine zj_iaload dX11_laysNet_21 (zk_224 hL) (by rw [(zl_224 hL)]; exact z_vin (by decide)) ?_
  refine zj_iload_n dX11_laysNet_22 rfl rfl ?_
  refine zj_imul dX11_laysNet_23 ?_
  refine zj_aload_n dX11_laysNet_24 rfl rfl ?_
  refine zj_callV (M' := mX11_qubits) (avs := []) (st := [.int ((v1 224 1) * (((v1 224 0) * (v1 224 0)) + (v1 223 14))), .ref 223]) (ci := 11) dX11_laysNet_25 wm_X11_qubits wl_X11_148 wi_X11_qubits ws_X11_qubits (by decide) (zk_223 hL) rfl rfl (by decide) rfl (Nat.le_of_ble_eq_true rfl) (Nat.le_of_ble_eq_true rfl) ⟨Or.inl (z_k0 (zk_223 hL)), trivial⟩ ⟨Or.inl (z_k0 (zk_223 hL)), trivial⟩ (hp_X11_qubits hL ?_)
  refine zj_iadd dX11_laysNet_28 ?_
  refine zj_putI (ci := 11) (j := 31) dX11_laysNet_29 wf_X11_251 (by decide) (by decide) (zk_223 hL) rfl rfl rfl rfl (fun v2 ev2 => ?_)
  replace h := h v2 ev2
  refine zj_aload_n dX11_laysNet_32 rfl rfl ?_
  refine zj_aload_n dX11_laysNet_33 rfl rfl ?_
  refine zj_getR (ci := 11) (j := 1) dX11_laysNet_34 wf_X11_13 (by decide) (by decide) (zk_223 hL) rfl (zr_223_1 hL) ?_
  refine zj_iconst (x := 1) dX11_laysNet_37 rfl ?_
  refine zj_iaload dX11_laysNet_38 (zk_224 hL) (by rw [(zl_224 hL)]; exact z_vin (by decide)) ?_
  refine zj_iconst (x := 1) dX11_laysNet_39 rfl ?_
  refine zj_iadd dX11_laysNet_40 ?_
  refine zj_aload_n dX11_laysNet_41 rfl rfl ?_
  refine zj_getI (ci := 11) (j := 14) dX11_laysNet_42 wf_X11_151 (by decide) (by decide) (zk_223 hL) rfl ?_
  refine zj_imul dX11_laysNet_45 ?_
  refine zj_putI (ci := 11) (j := 32) dX11_laysNet_46 wf_X11_254 (by decide) (by decide) (zk_223 hL) rfl rfl rfl rfl (fun v3 ev3 => ?_)
  replace h := h v3 ev3
  refine zj_iconst (x := 0) dX11_laysNet_49 rfl ?_
  refine zj_istore_n (ls2 := [.ref 223, .int x1, .int (((v1 224 0) * (v1 224 0)) + (v1 223 14)), .int 0, .null, .null, .null, .null]) dX11_laysNet_50 rfl (by decide) rfl rfl ?_
  exact h
theorem sg_X11_laysNet_51 {G : z_G} {d : Nat} {S : z_Shp} {v : z_Dat} {Q : Option Value → z_Shp → z_Dat → Prop} {x1 : Int32} {x2 : Int32} {x3 : Int32} (hL : z_L S)
    (h : ((v 223 31) ≤ x3 → (∀ v1, v1 = z_u v 223 33 0 → (z_J G (d + 1) mX11_laysNet (271, [.ref 223, .int x1, .int x2, .int 0, .int 0, .null, .null, .null], [], S, v1) Q))) ∧ (¬ (v 223 31) ≤ x3 → ((¬ x2 = 0) ∧ ((¬ x2 = 0) ∧ (((x3 - x3 / x2 * x2) < ((v 224 0) * (v 224 0)) → ((vp_in (((25 : Int32) * x1) + (x3 - x3 / x2 * x2)) 50) ∧ (vp_in x3 321 ∧ (∀ v2, v2 = z_u v 238 x3.toNatClampNeg (v 223 32) → (vp_in x3 321 ∧ (∀ v3, v3 = z_u v2 239 x3.toNatClampNeg (v2 223 32) → (z_J G (d + 1) mX11_laysNet (187, [.ref 223, .int x1, .int x2, .int x3, .int (x3 / x2), .int (x3 - x3 / x2 * x2), .int (v 233 (((25 : Int32) * x1) + (x3 - x3 / x2 * x2)).toNatClampNeg), .int ((v3 223 14) - 1)], [], S, v3) Q))))))) ∧ (¬ (x3 - x3 / x2 * x2) < ((v 224 0) * (v 224 0)) → (vp_in x3 321 ∧ (∀ v4, v4 = z_u v 238 x3.toNatClampNeg ((((x3 / x2) * (v 223 14)) + (x3 - x3 / x2 * x2)) - ((v 224 0) * (v 224 0))) → ((vp_in x3 321) ∧ (vp_in x3 321 ∧ (∀ v5, v5 = z_u v4 239 x3.toNatClampNeg ((v4 238 x3.toNatClampNeg) + (v4 223 14)) → ((vp_in ((((47 : Int32) + ((12 : Int32) * x1)) + (x3 - x3 / x2 * x2)) - ((v5 224 0) * (v5 224 0))) 71) ∧ (vp_in x3 321 ∧ (∀ v6, v6 = z_u v5 240 x3.toNatClampNeg (v5 224 ((((47 : Int32) + ((12 : Int32) * x1)) + (x3 - x3 / x2 * x2)) - ((v5 224 0) * (v5 224 0))).toNatClampNeg) → (z_J G (d + 1) mX11_laysNet (51, [.ref 223, .int x1, .int x2, .int (x3 + 1), .null, .null, .null, .null], [], S, v6) Q))))))))))))))) :
    z_J G (d + 1) mX11_laysNet (51, [.ref 223, .int x1, .int x2, .int x3, .null, .null, .null, .null], [], S, v) Q := by
  refine zj_iload_n dX11_laysNet_51 rfl rfl ?_
  refine zj_aload_n dX11_laysNet_52 rfl rfl ?_
  refine zj_getI (ci := 11) (j := 31) dX11_laysNet_53 wf_X11_251 (by decide) (by decide) (zk_223 hL) rfl ?_
  refine zj_icmp_ge (tgt := 261) dX11_laysNet_56 (by decide) (fun c => ?_) (fun c => ?_)
  · replace h := h.1 c
    refine zj_aload_n dX11_laysNet_261 rfl rfl ?_
    refine zj_iconst (x := 0) dX11_laysNet_262 rfl ?_
    refine zj_putI (ci := 11) (j := 33) dX11_laysNet_263 wf_X11_257 (by decide) (by decide) (zk_223 hL) rfl rfl rfl rfl (fun v1 ev1 => ?_)
    replace h := h v1 ev1
    refine zj_iconst (x := 0) dX11_laysNet_266 rfl ?_
    refine zj_istore_n (ls2 := [.ref 223, .int x1, .int x2, .int 0, .null, .null, .null, .null]) dX11_laysNet_267 rfl (by decide) rfl rfl ?_
    refine zj_iconst (x := 0) dX11_laysNet_268 rfl ?_
    refine zj_istore (ls2 := [.ref 223, .int x1, .int x2, .int 0, .int 0, .null, .null, .null]) dX11_laysNet_269 (by decide) rfl rfl ?_
    exact h
  · replace h := h.2 c
    refine zj_iload_n dX11_laysNet_59 rfl rfl ?_
    refine zj_iload_n dX11_laysNet_60 rfl rfl ?_
    refine zj_idiv dX11_laysNet_61 h.1 ?_
    replace h := h.2
    refine zj_istore (ls2 := [.ref 223, .int x1, .int x2, .int x3, .int (x3 / x2), .null, .null, .null]) dX11_laysNet_62 (by decide) rfl rfl ?_
    refine zj_iload_n dX11_laysNet_64 rfl rfl ?_
    refine zj_iload_n dX11_laysNet_65 rfl rfl ?_
    refine zj_irem dX11_laysNet_66 h.1 ?_
    replace h := h.2
    refine zj_istore (ls2 := [.ref 223, .int x1, .int x2, .int x3, .int (x3 / x2), .int (x3 - x3 / x2 * x2), .null, .null]) dX11_laysNet_67 (by decide) rfl rfl ?_
    refine zj_iload dX11_laysNet_69 rfl ?_
    refine zj_aload_n dX11_laysNet_71 rfl rfl ?_
    refine zj_callV (M' := mX11_qubits) (avs := []) (st := [.int (x3 - x3 / x2 * x2)]) (ci := 11) dX11_laysNet_72 wm_X11_qubits wl_X11_148 wi_X11_qubits ws_X11_qubits (by decide) (zk_223 hL) rfl rfl (by decide) rfl (Nat.le_of_ble_eq_true rfl) (Nat.le_of_ble_eq_true rfl) ⟨Or.inl (z_k0 (zk_223 hL)), trivial⟩ trivial (hp_X11_qubits hL ?_)
    refine zj_icmp_lt (tgt := 145) dX11_laysNet_75 (by decide) (fun c => ?_) (fun c => ?_)
    · replace h := h.1 c
      refine zj_aload_n dX11_laysNet_145 rfl rfl ?_
      refine zj_getR (ci := 11) (j := 13) dX11_laysNet_146 wf_X11_43 (by decide) (by decide) (zk_223 hL) rfl (zr_223_13 hL) ?_
      refine zj_bipush (x := 25) dX11_laysNet_149 rfl ?_
      refine zj_iload_n dX11_laysNet_151 rfl rfl ?_
      refine zj_imul dX11_laysNet_152 ?_
      refine zj_iload dX11_laysNet_153 rfl ?_
      refine zj_iadd dX11_laysNet_155 ?_
      refine zj_iaload dX11_laysNet_156 (zk_233 hL) (by rw [(zl_233 hL)]; exact h.1) ?_
      replace h := h.2
      refine zj_istore (ls2 := [.ref 223, .int x1, .int x2, .int x3, .int (x3 / x2), .int (x3 - x3 / x2 * x2), .int (v 233 (((25 : Int32) * x1) + (x3 - x3 / x2 * x2)).toNatClampNeg), .null]) dX11_laysNet_157 (by decide) rfl rfl ?_
      refine zj_aload_n dX11_laysNet_159 rfl rfl ?_
      refine zj_getR (ci := 11) (j := 26) dX11_laysNet_160 wf_X11_58 (by decide) (by decide) (zk_223 hL) rfl (zr_223_26 hL) ?_
      refine zj_iload_n dX11_laysNet_163 rfl rfl ?_
      refine zj_aload_n dX11_laysNet_164 rfl rfl ?_
      refine zj_getI (ci := 11) (j := 32) dX11_laysNet_165 wf_X11_254 (by decide) (by decide) (zk_223 hL) rfl ?_
      refine zj_iastore dX11_laysNet_168 (zk_238 hL) (by rw [(zl_238 hL)]; exact h.1) (fun v2 ev2 => ?_)
      replace h := h.2 v2 ev2
      refine zj_aload_n dX11_laysNet_169 rfl rfl ?_
      refine zj_getR (ci := 11) (j := 27) dX11_laysNet_170 wf_X11_61 (by decide) (by decide) (zk_223 hL) rfl (zr_223_27 hL) ?_
      refine zj_iload_n dX11_laysNet_173 rfl rfl ?_
      refine zj_aload_n dX11_laysNet_174 rfl rfl ?_
      refine zj_getI (ci := 11) (j := 32) dX11_laysNet_175 wf_X11_254 (by decide) (by decide) (zk_223 hL) rfl ?_
      refine zj_iastore dX11_laysNet_178 (zk_239 hL) (by rw [(zl_239 hL)]; exact h.1) (fun v3 ev3 => ?_)
      replace h := h.2 v3 ev3
      refine zj_aload_n dX11_laysNet_179 rfl rfl ?_
      refine zj_getI (ci := 11) (j := 14) dX11_laysNet_180 wf_X11_151 (by decide) (by decide) (zk_223 hL) rfl ?_
      refine zj_iconst (x := 1) dX11_laysNet_183 rfl ?_
      refine zj_isub dX11_laysNet_184 ?_
      refine zj_istore (ls2 := [.ref 223, .int x1, .int x2, .int x3, .int (x3 / x2), .int (x3 - x3 / x2 * x2), .int (v 233 (((25 : Int32) * x1) + (x3 - x3 / x2 * x2)).toNatClampNeg), .int ((v3 223 14) - 1)]) dX11_laysNet_185 (by decide) rfl rfl ?_
      exact h
    · replace h := h.2 c
      refine zj_aload_n dX11_laysNet_78 rfl rfl ?_
      refine zj_getR (ci := 11) (j := 26) dX11_laysNet_79 wf_X11_58 (by decide) (by decide) (zk_223 hL) rfl (zr_223_26 hL) ?_
      refine zj_iload_n dX11_laysNet_82 rfl rfl ?_
      refine zj_iload dX11_laysNet_83 rfl ?_
      refine zj_aload_n dX11_laysNet_85 rfl rfl ?_
      refine zj_getI (ci := 11) (j := 14) dX11_laysNet_86 wf_X11_151 (by decide) (by decide) (zk_223 hL) rfl ?_
      refine zj_imul dX11_laysNet_89 ?_
      refine zj_iload dX11_laysNet_90 rfl ?_
      refine zj_iadd dX11_laysNet_92 ?_
      refine zj_aload_n dX11_laysNet_93 rfl rfl ?_
      refine zj_callV (M' := mX11_qubits) (avs := []) (st := [.int (((x3 / x2) * (v 223 14)) + (x3 - x3 / x2 * x2)), .int x3, .ref 238]) (ci := 11) dX11_laysNet_94 wm_X11_qubits wl_X11_148 wi_X11_qubits ws_X11_qubits (by decide) (zk_223 hL) rfl rfl (by decide) rfl (Nat.le_of_ble_eq_true rfl) (Nat.le_of_ble_eq_true rfl) ⟨Or.inl (z_k0 (zk_223 hL)), trivial⟩ ⟨Or.inl (z_k0 (zk_238 hL)), trivial⟩ (hp_X11_qubits hL ?_)
      refine zj_isub dX11_laysNet_97 ?_
      refine zj_iastore dX11_laysNet_98 (zk_238 hL) (by rw [(zl_238 hL)]; exact h.1) (fun v4 ev4 => ?_)
      replace h := h.2 v4 ev4
      refine zj_aload_n dX11_laysNet_99 rfl rfl ?_
      refine zj_getR (ci := 11) (j := 27) dX11_laysNet_100 wf_X11_61 (by decide) (by decide) (zk_223 hL) rfl (zr_223_27 hL) ?_
      refine zj_iload_n dX11_laysNet_103 rfl rfl ?_
      refine zj_aload_n dX11_laysNet_104 rfl rfl ?_
      refine zj_getR (ci := 11) (j := 26) dX11_laysNet_105 wf_X11_58 (by decide) (by decide) (zk_223 hL) rfl (zr_223_26 hL) ?_
      refine zj_iload_n dX11_laysNet_108 rfl rfl ?_
      refine zj_iaload dX11_laysNet_109 (zk_238 hL) (by rw [(zl_238 hL)]; exact h.1) ?_
      replace h := h.2
      refine zj_aload_n dX11_laysNet_110 rfl rfl ?_
      refine zj_getI (ci := 11) (j := 14) dX11_laysNet_111 wf_X11_151 (by decide) (by decide) (zk_223 hL) rfl ?_
      refine zj_iadd dX11_laysNet_114 ?_
      refine zj_iastore dX11_laysNet_115 (zk_239 hL) (by rw [(zl_239 hL)]; exact h.1) (fun v5 ev5 => ?_)
      replace h := h.2 v5 ev5
      refine zj_aload_n dX11_laysNet_116 rfl rfl ?_
      refine zj_getR (ci := 11) (j := 28) dX11_laysNet_117 wf_X11_64 (by decide) (by decide) (zk_223 hL) rfl (zr_223_28 hL) ?_
      refine zj_iload_n dX11_laysNet_120 rfl rfl ?_
      refine zj_aload_n dX11_laysNet_121 rfl rfl ?_
      refine zj_getR (ci := 11) (j := 1) dX11_laysNet_122 wf_X11_13 (by decide) (by decide) (zk_223 hL) rfl (zr_223_1 hL) ?_
      refine zj_bipush (x := 47) dX11_laysNet_125 rfl ?_
      refine zj_bipush (x := 12) dX11_laysNet_127 rfl ?_
      refine zj_iload_n dX11_laysNet_129 rfl rfl ?_
      refine zj_imul dX11_laysNet_130 ?_
      refine zj_iadd dX11_laysNet_131 ?_
      refine zj_iload dX11_laysNet_132 rfl ?_
      refine zj_iadd dX11_laysNet_134 ?_
      refine zj_aload_n dX11_laysNet_135 rfl rfl ?_
      refine zj_callV (M' := mX11_qubits) (avs := []) (st := [.int (((47 : Int32) + ((12 : Int32) * x1)) + (x3 - x3 / x2 * x2)), .ref 224, .int x3, .ref 240]) (ci := 11) dX11_laysNet_136 wm_X11_qubits wl_X11_148 wi_X11_qubits ws_X11_qubits (by decide) (zk_223 hL) rfl rfl (by decide) rfl (Nat.le_of_ble_eq_true rfl) (Nat.le_of_ble_eq_true rfl) ⟨Or.inl (z_k0 (zk_223 hL)), trivial⟩ ⟨Or.inl (z_k0 (zk_224 hL)), Or.inl (z_k0 (zk_240 hL)), trivial⟩ (hp_X11_qubits hL ?_)
      refine zj_isub dX11_laysNet_139 ?_
      refine zj_iaload dX11_laysNet_140 (zk_224 hL) (by rw [(zl_224 hL)]; exact h.1) ?_
      replace h := h.2
      refine zj_iastore dX11_laysNet_141 (zk_240 hL) (by rw [(zl_240 hL)]; exact h.1) (fun v6 ev6 => ?_)
      replace h := h.2 v6 ev6
      refine zj_goto (tgt := 255) dX11_laysNet_142 (by decide) ?_
      refine zj_iinc (y := x3 + 1) (ls2 := [.ref 223, .int x1, .int x2, .int (x3 + 1), .int (x3 / x2), .int (x3 - x3 / x2 * x2), .null, .null]) dX11_laysNet_255 rfl rfl (by decide) rfl rfl ?_
      refine zj_goto (tgt := 51) dX11_laysNet_258 (by decide) ?_
      refine zj_forget (ls2 := [.ref 223, .int x1, .int x2, .int (x3 + 1), .null, .null, .null, .null]) ⟨Or.inr rfl, Or.inr rfl, Or.inr rfl, Or.inr rfl, Or.inl rfl, Or.inl rfl, Or.inr rfl, Or.inr rfl, trivial⟩ ?_
      exact h
theorem sg_X11_laysNet_271 {G : z_G} {d : Nat} {S : z_Shp} {v : z_Dat} {Q : Option Value → z_Shp → z_Dat → Prop} {x1 : Int32} {x2 : Int32} {x3 : Int32} {x4 : Int32} (hL : z_L S)
    (h : ((v 224 1) < x4 → (Q none S v)) ∧ (¬ (v 224 1) < x4 → (z_J G d mX11_layer (0, [.ref 223, .int x1, .int x4], [], S, v) (fun r S1 v1 => ∃ y1 : Int32, r = some (.int y1) ∧ S1 = S ∧ (z_J G (d + 1) mX11_laysNet (294, [.ref 223, .int x1, .int x2, .int x3, .int x4, .int y1, .int 0, .null], [], S, v1) Q))))) :
    z_J G (d + 1) mX11_laysNet (271, [.ref 223, .int x1, .int x2, .int x3, .int x4, .null, .null, .null], [], S, v) Q := by
  refine zj_iload dX11_laysNet_271 rfl ?_
  refine zj_aload_n dX11_laysNet_273 rfl rfl ?_
  refine zj_getR (ci := 11) (j := 1) dX11_laysNet_274 wf_X11_13 (by decide) (by decide) (zk_223 hL) rfl (zr_223_1 hL) ?_
  refine zj_iconst (x := 1) dX11_laysNet_277 rfl ?_
  refine zj_iaload dX11_laysNet_278 (zk_224 hL) (by rw [(zl_224 hL)]; exact z_vin (by decide)) ?_
  refine zj_icmp_gt (tgt := 362) dX11_laysNet_279 (by decide) (fun c => ?_) (fun c => ?_)
  · replace h := h.1 c
    exact zj_vret dX11_laysNet_362 rfl h
  · replace h := h.2 c
    refine zj_aload_n dX11_laysNet_282 rfl rfl ?_
    refine zj_iload_n dX11_laysNet_283 rfl rfl ?_
    refine zj_iload dX11_laysNet_284 rfl ?_
    refine zj_callV (M' := mX11_layer) (avs := [.int x1, .int x4]) (st := []) (ci := 11) dX11_laysNet_286 wm_X11_layer wl_X11_260 wi_X11_layer ws_X11_layer (by decide) (zk_223 hL) rfl rfl (by decide) rfl (Nat.le_of_ble_eq_true rfl) (Nat.le_of_ble_eq_true rfl) ⟨Or.inl (z_k0 (zk_223 hL)), trivial⟩ trivial (z_J.mono h (fun r S1 v1 hq => ?_))
    obtain ⟨y1, rfl, rfl, h⟩ := hq
    refine zj_istore (ls2 := [.ref 223, .int x1, .int x2, .int x3, .int x4, .int y1, .null, .null]) dX11_laysNet_289 (by decide) rfl rfl ?_
    refine zj_iconst (x := 0) dX11_laysNet_291 rfl ?_
    refine zj_istore (ls2 := [.ref 223, .int x1, .int x2, .int x3, .int x4, .int y1, .int 0, .null]) dX11_laysNet_292 (by decide) rfl rfl ?_
    exact h
theorem sg_X11_laysNet_187 {G : z_G} {d : Nat} {S : z_Shp} {v : z_Dat} {Q : Option Value → z_Shp → z_Dat → Prop} {x1 : Int32} {x2 : Int32} {x3 : Int32} {x4 : Int32} {x5 : Int32} {x6 : Int32} {x7 : Int32} (hL : z_L S)
    (h : (x7 < 0 → ((vp_in ((22 : Int32) + x5) 71) ∧ (vp_in x3 321 ∧ (∀ v1, v1 = z_u v 240 x3.toNatClampNeg (v 224 ((22 : Int32) + x5).toNatClampNeg) → (z_J G (d + 1) mX11_laysNet (51, [.ref 223, .int x1, .int x2, .int (x3 + 1), .null, .null, .null, .null], [], S, v1) Q))))) ∧ (¬ x7 < 0 → (((((x6 >>> (x7 &&& 31)) &&& 1) = 1) → ((vp_in x3 321) ∧ (vp_in x3 321 ∧ (∀ v2, v2 = z_u v 239 x3.toNatClampNeg (v 238 x3.toNatClampNeg) → (vp_in x3 321 ∧ (∀ v3, v3 = z_u v2 238 x3.toNatClampNeg ((x4 * (v2 223 14)) + x7) → (z_J G (d + 1) mX11_laysNet (187, [.ref 223, .int x1, .int x2, .int x3, .int x4, .int x5, .int x6, .int (x7 + (-1))], [], S, v3) Q))))))) ∧ (¬ (((x6 >>> (x7 &&& 31)) &&& 1) = 1) → (z_J G (d + 1) mX11_laysNet (187, [.ref 223, .int x1, .int x2, .int x3, .int x4, .int x5, .int x6, .int (x7 + (-1))], [], S, v) Q))))) :
    z_J G (d + 1) mX11_laysNet (187, [.ref 223, .int x1, .int x2, .int x3, .int x4, .int x5, .int x6, .int x7], [], S, v) Q := by
  refine zj_iload dX11_laysNet_187 rfl ?_
  refine zj_if_lt (tgt := 239) dX11_laysNet_189 (by decide) (fun c => ?_) (fun c => ?_)
  · replace h := h.1 c
    refine zj_aload_n dX11_laysNet_239 rfl rfl ?_
    refine zj_getR (ci := 11) (j := 28) dX11_laysNet_240 wf_X11_64 (by decide) (by decide) (zk_223 hL) rfl (zr_223_28 hL) ?_
    refine zj_iload_n dX11_laysNet_243 rfl rfl ?_
    refine zj_aload_n dX11_laysNet_244 rfl rfl ?_
    refine zj_getR (ci := 11) (j := 1) dX11_laysNet_245 wf_X11_13 (by decide) (by decide) (zk_223 hL) rfl (zr_223_1 hL) ?_
    refine zj_bipush (x := 22) dX11_laysNet_248 rfl ?_
    refine zj_iload dX11_laysNet_250 rfl ?_
    refine zj_iadd dX11_laysNet_252 ?_
    refine zj_iaload dX11_laysNet_253 (zk_224 hL) (by rw [(zl_224 hL)]; exact h.1) ?_
    replace h := h.2
    refine zj_iastore dX11_laysNet_254 (zk_240 hL) (by rw [(zl_240 hL)]; exact h.1) (fun v1 ev1 => ?_)
    replace h := h.2 v1 ev1
    refine zj_iinc (y := x3 + 1) (ls2 := [.ref 223, .int x1, .int x2, .int (x3 + 1), .int x4, .int x5, .int x6, .int x7]) dX11_laysNet_255 rfl rfl (by decide) rfl rfl ?_
    refine zj_goto (tgt := 51) dX11_laysNet_258 (by decide) ?_
    refine zj_forget (ls2 := [.ref 223, .int x1, .int x2, .int (x3 + 1), .null, .null, .null, .null]) ⟨Or.inr rfl, Or.inr rfl, Or.inr rfl, Or.inr rfl, Or.inl rfl, Or.inl rfl, Or.inl rfl, Or.inl rfl, trivial⟩ ?_
    exact h
  · replace h := h.2 c
    refine zj_iload dX11_laysNet_192 rfl ?_
    refine zj_iload dX11_laysNet_194 rfl ?_
    refine zj_callS (M' := mX11_bitOf) (avs := [.int x6, .int x7]) (st := []) dX11_laysNet_196 wm_X11_bitOf wl_X11_161 wt_X11_bitOf rfl (by decide) rfl (Nat.le_of_ble_eq_true rfl) (Nat.le_of_ble_eq_true rfl) ⟨Or.inl (z_k0 (zk_223 hL)), trivial⟩ trivial (hp_X11_bitOf (fun c => ?_) (fun c => ?_))
    · replace h := h.1 c
      refine zj_if_ne (tgt := 205) dX11_laysNet_199 (by decide) (fun _ => ?_) (fun q => absurd q (by decide))
      refine zj_aload_n dX11_laysNet_205 rfl rfl ?_
      refine zj_getR (ci := 11) (j := 27) dX11_laysNet_206 wf_X11_61 (by decide) (by decide) (zk_223 hL) rfl (zr_223_27 hL) ?_
      refine zj_iload_n dX11_laysNet_209 rfl rfl ?_
      refine zj_aload_n dX11_laysNet_210 rfl rfl ?_
      refine zj_getR (ci := 11) (j := 26) dX11_laysNet_211 wf_X11_58 (by decide) (by decide) (zk_223 hL) rfl (zr_223_26 hL) ?_
      refine zj_iload_n dX11_laysNet_214 rfl rfl ?_
      refine zj_iaload dX11_laysNet_215 (zk_238 hL) (by rw [(zl_238 hL)]; exact h.1) ?_
      replace h := h.2
      refine zj_iastore dX11_laysNet_216 (zk_239 hL) (by rw [(zl_239 hL)]; exact h.1) (fun v2 ev2 => ?_)
      replace h := h.2 v2 ev2
      refine zj_aload_n dX11_laysNet_217 rfl rfl ?_
      refine zj_getR (ci := 11) (j := 26) dX11_laysNet_218 wf_X11_58 (by decide) (by decide) (zk_223 hL) rfl (zr_223_26 hL) ?_
      refine zj_iload_n dX11_laysNet_221 rfl rfl ?_
      refine zj_iload dX11_laysNet_222 rfl ?_
      refine zj_aload_n dX11_laysNet_224 rfl rfl ?_
      refine zj_getI (ci := 11) (j := 14) dX11_laysNet_225 wf_X11_151 (by decide) (by decide) (zk_223 hL) rfl ?_
      refine zj_imul dX11_laysNet_228 ?_
      refine zj_iload dX11_laysNet_229 rfl ?_
      refine zj_iadd dX11_laysNet_231 ?_
      refine zj_iastore dX11_laysNet_232 (zk_238 hL) (by rw [(zl_238 hL)]; exact h.1) (fun v3 ev3 => ?_)
      replace h := h.2 v3 ev3
      refine zj_iinc (y := x7 + (-1)) (ls2 := [.ref 223, .int x1, .int x2, .int x3, .int x4, .int x5, .int x6, .int (x7 + (-1))]) dX11_laysNet_233 rfl rfl (by decide) rfl rfl ?_
      refine zj_goto (tgt := 187) dX11_laysNet_236 (by decide) ?_
      exact h
    · replace h := h.2 c
      refine zj_if_ne (tgt := 205) dX11_laysNet_199 (by decide) (fun q => absurd (by decide) q) (fun _ => ?_)
      refine zj_goto (tgt := 233) dX11_laysNet_202 (by decide) ?_
      refine zj_iinc (y := x7 + (-1)) (ls2 := [.ref 223, .int x1, .int x2, .int x3, .int x4, .int x5, .int x6, .int (x7 + (-1))]) dX11_laysNet_233 rfl rfl (by decide) rfl rfl ?_
      refine zj_goto (tgt := 187) dX11_laysNet_236 (by decide) ?_
      exact h
theorem sg_X11_laysNet_294 {G : z_G} {d : Nat} {S : z_Shp} {v : z_Dat} {Q : Option Value → z_Shp → z_Dat → Prop} {x1 : Int32} {x2 : Int32} {x3 : Int32} {x4 : Int32} {x5 : Int32} {x6 : Int32} (hL : z_L S)
    (h : ((v 223 14) ≤ x6 → (z_J G (d + 1) mX11_laysNet (271, [.ref 223, .int x1, .int x2, .int x5, .int (x4 + 1), .null, .null, .null], [], S, v) Q)) ∧ (¬ (v 223 14) ≤ x6 → ((((((x5 ^^^ x3) >>> (x6 &&& 31)) &&& 1) = 1) → (vp_in (v 223 33) 108 ∧ (∀ v1, v1 = z_u v 242 (v 223 33).toNatClampNeg ((x4 * (v 223 14)) + x6) → (∀ v2, v2 = z_u v1 223 33 ((v1 223 33) + 1) → (z_J G (d + 1) mX11_laysNet (294, [.ref 223, .int x1, .int x2, .int x3, .int x4, .int x5, .int (x6 + 1), .null], [], S, v2) Q))))) ∧ (¬ ((((x5 ^^^ x3) >>> (x6 &&& 31)) &&& 1) = 1) → (z_J G (d + 1) mX11_laysNet (294, [.ref 223, .int x1, .int x2, .int x3, .int x4, .int x5, .int (x6 + 1), .null], [], S, v) Q))))) :
    z_J G (d + 1) mX11_laysNet (294, [.ref 223, .int x1, .int x2, .int x3, .int x4, .int x5, .int x6, .null], [], S, v) Q := by
  refine zj_iload dX11_laysNet_294 rfl ?_
  refine zj_aload_n dX11_laysNet_296 rfl rfl ?_
  refine zj_getI (ci := 11) (j := 14) dX11_laysNet_297 wf_X11_151 (by decide) (by decide) (zk_223 hL) rfl ?_
  refine zj_icmp_ge (tgt := 353) dX11_laysNet_300 (by decide) (fun c => ?_) (fun c => ?_)
  · replace h := h.1 c
    refine zj_iload dX11_laysNet_353 rfl ?_
    refine zj_istore_n (ls2 := [.ref 223, .int x1, .int x2, .int x5, .int x4, .int x5, .int x6, .null]) dX11_laysNet_355 rfl (by decide) rfl rfl ?_
    refine zj_iinc (y := x4 + 1) (ls2 := [.ref 223, .int x1, .int x2, .int x5, .int (x4 + 1), .int x5, .int x6, .null]) dX11_laysNet_356 rfl rfl (by decide) rfl rfl ?_
    refine zj_goto (tgt := 271) dX11_laysNet_359 (by decide) ?_
    refine zj_forget (ls2 := [.ref 223, .int x1, .int x2, .int x5, .int (x4 + 1), .null, .null, .null]) ⟨Or.inr rfl, Or.inr rfl, Or.inr rfl, Or.inr rfl, Or.inr rfl, Or.inl rfl, Or.inl rfl, Or.inr rfl, trivial⟩ ?_
    exact h
  · replace h := h.2 c
    refine zj_iload dX11_laysNet_303 rfl ?_
    refine zj_iload_n dX11_laysNet_305 rfl rfl ?_
    refine zj_ixor dX11_laysNet_306 ?_
    refine zj_iload dX11_laysNet_307 rfl ?_
    refine zj_callS (M' := mX11_bitOf) (avs := [.int (x5 ^^^ x3), .int x6]) (st := []) dX11_laysNet_309 wm_X11_bitOf wl_X11_161 wt_X11_bitOf rfl (by decide) rfl (Nat.le_of_ble_eq_true rfl) (Nat.le_of_ble_eq_true rfl) ⟨Or.inl (z_k0 (zk_223 hL)), trivial⟩ trivial (hp_X11_bitOf (fun c => ?_) (fun c => ?_))
    · replace h := h.1 c
      refine zj_if_ne (tgt := 318) dX11_laysNet_312 (by decide) (fun _ => ?_) (fun q => absurd q (by decide))
      refine zj_aload_n dX11_laysNet_318 rfl rfl ?_
      refine zj_getR (ci := 11) (j := 30) dX11_laysNet_319 wf_X11_70 (by decide) (by decide) (zk_223 hL) rfl (zr_223_30 hL) ?_
      refine zj_aload_n dX11_laysNet_322 rfl rfl ?_
      refine zj_getI (ci := 11) (j := 33) dX11_laysNet_323 wf_X11_257 (by decide) (by decide) (zk_223 hL) rfl ?_
      refine zj_iload dX11_laysNet_326 rfl ?_
      refine zj_aload_n dX11_laysNet_328 rfl rfl ?_
      refine zj_getI (ci := 11) (j := 14) dX11_laysNet_329 wf_X11_151 (by decide) (by decide) (zk_223 hL) rfl ?_
      refine zj_imul dX11_laysNet_332 ?_
      refine zj_iload dX11_laysNet_333 rfl ?_
      refine zj_iadd dX11_laysNet_335 ?_
      refine zj_iastore dX11_laysNet_336 (zk_242 hL) (by rw [(zl_242 hL)]; exact h.1) (fun v1 ev1 => ?_)
      replace h := h.2 v1 ev1
      refine zj_aload_n dX11_laysNet_337 rfl rfl ?_
      refine zj_dup dX11_laysNet_338 rfl ?_
      refine zj_getI (ci := 11) (j := 33) dX11_laysNet_339 wf_X11_257 (by decide) (by decide) (zk_223 hL) rfl ?_
      refine zj_iconst (x := 1) dX11_laysNet_342 rfl ?_
      refine zj_iadd dX11_laysNet_343 ?_
      refine zj_putI (ci := 11) (j := 33) dX11_laysNet_344 wf_X11_257 (by decide) (by decide) (zk_223 hL) rfl rfl rfl rfl (fun v2 ev2 => ?_)
      replace h := h v2 ev2
      refine zj_iinc (y := x6 + 1) (ls2 := [.ref 223, .int x1, .int x2, .int x3, .int x4, .int x5, .int (x6 + 1), .null]) dX11_laysNet_347 rfl rfl (by decide) rfl rfl ?_
      refine zj_goto (tgt := 294) dX11_laysNet_350 (by decide) ?_
      exact h
    · replace h := h.2 c
      refine zj_if_ne (tgt := 318) dX11_laysNet_312 (by decide) (fun q => absurd (by decide) q) (fun _ => ?_)
      refine zj_goto (tgt := 347) dX11_laysNet_315 (by decide) ?_
      refine zj_iinc (y := x6 + 1) (ls2 := [.ref 223, .int x1, .int x2, .int x3, .int x4, .int x5, .int (x6 + 1), .null]) dX11_laysNet_347 rfl rfl (by decide) rfl rfl ?_
      refine zj_goto (tgt := 294) dX11_laysNet_350 (by decide) ?_
      exact h
theorem sg_X11_laysWay_0 {G : z_G} {d : Nat} {S : z_Shp} {v : z_Dat} {Q : Option Value → z_Shp → z_Dat → Prop} {x1 : Int32} (hL : z_L S)
    (h : ∀ v1, v1 = z_u v 223 36 0 → (z_J G d mX11_laysWay (7, [.ref 223, .int x1, .int x1, .null], [], S, v1) Q)) :
    z_J G d mX11_laysWay (0, [.ref 223, .int x1, .null, .null], [], S, v) Q := by
  refine zj_aload_n dX11_laysWay_0 rfl rfl ?_
  refine zj_iconst (x := 0) dX11_laysWay_1 rfl ?_
  refine zj_putI (ci := 11) (j := 36) dX11_laysWay_2 wf_X11_264 (by decide) (by decide) (zk_223 hL) rfl rfl rfl rfl (fun v1 ev1 => ?_)
  replace h := h v1 ev1
  refine zj_iload_n dX11_laysWay_5 rfl rfl ?_
  refine zj_istore_n (ls2 := [.ref 223, .int x1, .int x1, .null]) dX11_laysWay_6 rfl (by decide) rfl rfl ?_
  exact h
theorem sg_X11_laysWay_7 {G : z_G} {d : Nat} {S : z_Shp} {v : z_Dat} {Q : Option Value → z_Shp → z_Dat → Prop} {x1 : Int32} {x2 : Int32} (hL : z_L S)
    (h : (vp_in x2 109) ∧ (((v 241 x2.toNatClampNeg) ≤ 0 → (Q none S v)) ∧ (¬ (v 241 x2.toNatClampNeg) ≤ 0 → (z_J G d mX11_laysWay (18, [.ref 223, .int x1, .int x2, .int 0], [], S, v) Q)))) :
    z_J G d mX11_laysWay (7, [.ref 223, .int x1, .int x2, .null], [], S, v) Q := by
  refine zj_aload_n dX11_laysWay_7 rfl rfl ?_
  refine zj_getR (ci := 11) (j := 29) dX11_laysWay_8 wf_X11_67 (by decide) (by decide) (zk_223 hL) rfl (zr_223_29 hL) ?_
  refine zj_iload_n dX11_laysWay_11 rfl rfl ?_
  refine zj_iaload dX11_laysWay_12 (zk_241 hL) (by rw [(zl_241 hL)]; exact h.1) ?_
  replace h := h.2
  refine zj_if_le (tgt := 82) dX11_laysWay_13 (by decide) (fun c => ?_) (fun c => ?_)
  · replace h := h.1 c
    exact zj_vret dX11_laysWay_82 rfl h
  · replace h := h.2 c
    refine zj_iconst (x := 0) dX11_laysWay_16 rfl ?_
    refine zj_istore_n (ls2 := [.ref 223, .int x1, .int x2, .int 0]) dX11_laysWay_17 rfl (by decide) rfl rfl ?_
    exact h
theorem sg_X11_laysWay_18 {G : z_G} {d : Nat} {S : z_Shp} {v : z_Dat} {Q : Option Value → z_Shp → z_Dat → Prop} {x1 : Int32} {x2 : Int32} {x3 : Int32} (hL : z_L S)
    (h : z_J G d mX11_leads (0, [.ref 223, .int x3, .int x2, .null], [], S, v) (fun r S1 v1 => ∃ y1 : Int32, r = some (.int y1) ∧ S1 = S ∧ ((¬ y1 = 0 → (vp_in (v1 223 36) 321 ∧ (∀ v2, v2 = z_u v1 243 (v1 223 36).toNatClampNeg x3 → (∀ v3, v3 = z_u v2 223 36 ((v2 223 36) + 1) → ((vp_in x3 321) ∧ ((¬ (v3 238 x3.toNatClampNeg) = x2 → ((vp_in x3 321) ∧ (z_J G (d + 1) mX11_laysWay (7, [.ref 223, .int x1, .int (v3 238 x3.toNatClampNeg), .null], [], S, v3) Q))) ∧ ((v3 238 x3.toNatClampNeg) = x2 → ((vp_in x3 321) ∧ (z_J G (d + 1) mX11_laysWay (7, [.ref 223, .int x1, .int (v3 239 x3.toNatClampNeg), .null], [], S, v3) Q))))))))) ∧ (y1 = 0 → (z_J G (d + 1) mX11_laysWay (18, [.ref 223, .int x1, .int x2, .int (x3 + 1)], [], S, v1) Q))))) :
    z_J G (d + 1) mX11_laysWay (18, [.ref 223, .int x1, .int x2, .int x3], [], S, v) Q := by
  refine zj_aload_n dX11_laysWay_18 rfl rfl ?_
  refine zj_iload_n dX11_laysWay_19 rfl rfl ?_
  refine zj_iload_n dX11_laysWay_20 rfl rfl ?_
  refine zj_callV (M' := mX11_leads) (avs := [.int x3, .int x2]) (st := []) (ci := 11) dX11_laysWay_21 wm_X11_leads wl_X11_267 wi_X11_leads ws_X11_leads (by decide) (zk_223 hL) rfl rfl (by decide) rfl (Nat.le_of_ble_eq_true rfl) (Nat.le_of_ble_eq_true rfl) ⟨Or.inl (z_k0 (zk_223 hL)), trivial⟩ trivial (z_J.mono h (fun r S1 v1 hq => ?_))
  obtain ⟨y1, rfl, rfl, h⟩ := hq
  refine zj_if_ne (tgt := 33) dX11_laysWay_24 (by decide) (fun c => ?_) (fun c => ?_)
  · replace h := h.1 c
    refine zj_aload_n dX11_laysWay_33 rfl rfl ?_
    refine zj_getR (ci := 11) (j := 35) dX11_laysWay_34 wf_X11_73 (by decide) (by decide) (zk_223 hL) rfl (zr_223_35 hL) ?_
    refine zj_aload_n dX11_laysWay_37 rfl rfl ?_
    refine zj_getI (ci := 11) (j := 36) dX11_laysWay_38 wf_X11_264 (by decide) (by decide) (zk_223 hL) rfl ?_
    refine zj_iload_n dX11_laysWay_41 rfl rfl ?_
    refine zj_iastore dX11_laysWay_42 (zk_243 hL) (by rw [(zl_243 hL)]; exact h.1) (fun v2 ev2 => ?_)
    replace h := h.2 v2 ev2
    refine zj_aload_n dX11_laysWay_43 rfl rfl ?_
    refine zj_dup dX11_laysWay_44 rfl ?_
    refine zj_getI (ci := 11) (j := 36) dX11_laysWay_45 wf_X11_264 (by decide) (by decide) (zk_223 hL) rfl ?_
    refine zj_iconst (x := 1) dX11_laysWay_48 rfl ?_
    refine zj_iadd dX11_laysWay_49 ?_
    refine zj_putI (ci := 11) (j := 36) dX11_laysWay_50 wf_X11_264 (by decide) (by decide) (zk_223 hL) rfl rfl rfl rfl (fun v3 ev3 => ?_)
    replace h := h v3 ev3
    refine zj_aload_n dX11_laysWay_53 rfl rfl ?_
    refine zj_getR (ci := 11) (j := 26) dX11_laysWay_54 wf_X11_58 (by decide) (by decide) (zk_223 hL) rfl (zr_223_26 hL) ?_
    refine zj_iload_n dX11_laysWay_57 rfl rfl ?_
    refine zj_iaload dX11_laysWay_58 (zk_238 hL) (by rw [(zl_238 hL)]; exact h.1) ?_
    replace h := h.2
    refine zj_iload_n dX11_laysWay_59 rfl rfl ?_
    refine zj_icmp_ne (tgt := 72) dX11_laysWay_60 (by decide) (fun c => ?_) (fun c => ?_)
    · replace h := h.1 c
      refine zj_aload_n dX11_laysWay_72 rfl rfl ?_
      refine zj_getR (ci := 11) (j := 26) dX11_laysWay_73 wf_X11_58 (by decide) (by decide) (zk_223 hL) rfl (zr_223_26 hL) ?_
      refine zj_iload_n dX11_laysWay_76 rfl rfl ?_
      refine zj_iaload dX11_laysWay_77 (zk_238 hL) (by rw [(zl_238 hL)]; exact h.1) ?_
      replace h := h.2
      refine zj_istore_n (ls2 := [.ref 223, .int x1, .int (v3 238 x3.toNatClampNeg), .int x3]) dX11_laysWay_78 rfl (by decide) rfl rfl ?_
      refine zj_goto (tgt := 7) dX11_laysWay_79 (by decide) ?_
      refine zj_forget (ls2 := [.ref 223, .int x1, .int (v3 238 x3.toNatClampNeg), .null]) ⟨Or.inr rfl, Or.inr rfl, Or.inr rfl, Or.inl rfl, trivial⟩ ?_
      exact h
    · replace h := h.2 c
      refine zj_aload_n dX11_laysWay_63 rfl rfl ?_
      refine zj_getR (ci := 11) (j := 27) dX11_laysWay_64 wf_X11_61 (by decide) (by decide) (zk_223 hL) rfl (zr_223_27 hL) ?_
      refine zj_iload_n dX11_laysWay_67 rfl rfl ?_
      refine zj_iaload dX11_laysWay_68 (zk_239 hL) (by rw [(zl_239 hL)]; exact h.1) ?_
      replace h := h.2
      refine zj_goto (tgt := 78) dX11_laysWay_69 (by decide) ?_
      refine zj_istore_n (ls2 := [.ref 223, .int x1, .int (v3 239 x3.toNatClampNeg), .int x3]) dX11_laysWay_78 rfl (by decide) rfl rfl ?_
      refine zj_goto (tgt := 7) dX11_laysWay_79 (by decide) ?_
      refine zj_forget (ls2 := [.ref 223, .int x1, .int (v3 239 x3.toNatClampNeg), .null]) ⟨Or.inr rfl, Or.inr rfl, Or.inr rfl, Or.inl rfl, trivial⟩ ?_
      exact h
  · replace h := h.2 c
    refine zj_iinc (y := x3 + 1) (ls2 := [.ref 223, .int x1, .int x2, .int (x3 + 1)]) dX11_laysWay_27 rfl rfl (by decide) rfl rfl ?_
    refine zj_goto (tgt := 18) dX11_laysWay_30 (by decide) ?_
    exact h
theorem sg_X11_lays__0 {G : z_G} {d : Nat} {S : z_Shp} {v : z_Dat} {Q : Option Value → z_Shp → z_Dat → Prop} {x1 : Int32} {x2 : Int32} (hL : z_L S)
    (h : (¬ x2 = 0 → ((¬ x2 = 1 → (z_J G (d + 1) mX11_lays_ (26, [.ref 223, .int x1, .int x2, .int 0], [], S, v) Q)) ∧ (x2 = 1 → (z_J G d mX11_grows (0, [.ref 223, .int x1, .null], [], S, v) (fun r S1 v1 => r = none ∧ S1 = S ∧ (z_J G (d + 1) mX11_lays_ (26, [.ref 223, .int x1, .int x2, .int 0], [], S, v1) Q)))))) ∧ (x2 = 0 → (z_J G d mX11_pairs (0, [.ref 223, .int x1, .null, .null], [], S, v) (fun r S1 v2 => ∃ y1 : Int32, r = some (.int y1) ∧ S1 = S ∧ ((¬ y1 = 0 → ((¬ x2 = 1 → (z_J G (d + 1) mX11_lays_ (26, [.ref 223, .int x1, .int x2, .int 0], [], S, v2) Q)) ∧ (x2 = 1 → (z_J G d mX11_grows (0, [.ref 223, .int x1, .null], [], S, v2) (fun r S1 v3 => r = none ∧ S1 = S ∧ (z_J G (d + 1) mX11_lays_ (26, [.ref 223, .int x1, .int x2, .int 0], [], S, v3) Q)))))) ∧ (y1 = 0 → (Q (some (.int 0)) S v2))))))) :
    z_J G (d + 1) mX11_lays_ (0, [.ref 223, .int x1, .int x2, .null], [], S, v) Q := by
  refine zj_iload_n dX11_lays__0 rfl rfl ?_
  refine zj_if_ne (tgt := 14) dX11_lays__1 (by decide) (fun c => ?_) (fun c => ?_)
  · replace h := h.1 c
    refine zj_iload_n dX11_lays__14 rfl rfl ?_
    refine zj_iconst (x := 1) dX11_lays__15 rfl ?_
    refine zj_icmp_ne (tgt := 24) dX11_lays__16 (by decide) (fun c => ?_) (fun c => ?_)
    · replace h := h.1 c
      refine zj_iconst (x := 0) dX11_lays__24 rfl ?_
      refine zj_istore_n (ls2 := [.ref 223, .int x1, .int x2, .int 0]) dX11_lays__25 rfl (by decide) rfl rfl ?_
      exact h
    · replace h := h.2 c
      refine zj_aload_n dX11_lays__19 rfl rfl ?_
      refine zj_iload_n dX11_lays__20 rfl rfl ?_
      refine zj_callV (M' := mX11_grows) (avs := [.int x1]) (st := []) (ci := 11) dX11_lays__21 wm_X11_grows wl_X11_339 wi_X11_grows ws_X11_grows (by decide) (zk_223 hL) rfl rfl (by decide) rfl (Nat.le_of_ble_eq_true rfl) (Nat.le_of_ble_eq_true rfl) ⟨Or.inl (z_k0 (zk_223 hL)), trivial⟩ trivial (z_J.mono h (fun r S1 v1 hq => ?_))
      obtain ⟨rfl, rfl, h⟩ := hq
      refine zj_iconst (x := 0) dX11_lays__24 rfl ?_
      refine zj_istore_n (ls2 := [.ref 223, .int x1, .int x2, .int 0]) dX11_lays__25 rfl (by decide) rfl rfl ?_
      exact h
  · replace h := h.2 c
    refine zj_aload_n dX11_lays__4 rfl rfl ?_
    refine zj_iload_n dX11_lays__5 rfl rfl ?_
    refine zj_callV (M' := mX11_pairs) (avs := [.int x1]) (st := []) (ci := 11) dX11_lays__6 wm_X11_pairs wl_X11_299 wi_X11_pairs ws_X11_pairs (by decide) (zk_223 hL) rfl rfl (by decide) rfl (Nat.le_of_ble_eq_true rfl) (Nat.le_of_ble_eq_true rfl) ⟨Or.inl (z_k0 (zk_223 hL)), trivial⟩ trivial (z_J.mono h (fun r S1 v2 hq => ?_))
    obtain ⟨y1, rfl, rfl, h⟩ := hq
    refine zj_if_ne (tgt := 14) dX11_lays__9 (by decide) (fun c => ?_) (fun c => ?_)
    · replace h := h.1 c
      refine zj_iload_n dX11_lays__14 rfl rfl ?_
      refine zj_iconst (x := 1) dX11_lays__15 rfl ?_
      refine zj_icmp_ne (tgt := 24) dX11_lays__16 (by decide) (fun c => ?_) (fun c => ?_)
      · replace h := h.1 c
        refine zj_iconst (x := 0) dX11_lays__24 rfl ?_
        refine zj_istore_n (ls2 := [.ref 223, .int x1, .int x2, .int 0]) dX11_lays__25 rfl (by decide) rfl rfl ?_
        exact h
      · replace h := h.2 c
        refine zj_aload_n dX11_lays__19 rfl rfl ?_
        refine zj_iload_n dX11_lays__20 rfl rfl ?_
        refine zj_callV (M' := mX11_grows) (avs := [.int x1]) (st := []) (ci := 11) dX11_lays__21 wm_X11_grows wl_X11_339 wi_X11_grows ws_X11_grows (by decide) (zk_223 hL) rfl rfl (by decide) rfl (Nat.le_of_ble_eq_true rfl) (Nat.le_of_ble_eq_true rfl) ⟨Or.inl (z_k0 (zk_223 hL)), trivial⟩ trivial (z_J.mono h (fun r S1 v3 hq => ?_))
        obtain ⟨rfl, rfl, h⟩ := hq
        refine zj_iconst (x := 0) dX11_lays__24 rfl ?_
        refine zj_istore_n (ls2 := [.ref 223, .int x1, .int x2, .int 0]) dX11_lays__25 rfl (by decide) rfl rfl ?_
        exact h
    · replace h := h.2 c
      refine zj_iconst (x := 0) dX11_lays__12 rfl ?_
      exact zj_iret dX11_lays__13 rfl (by decide) h
theorem sg_X11_lays__26 {G : z_G} {d : Nat} {S : z_Shp} {v : z_Dat} {Q : Option Value → z_Shp → z_Dat → Prop} {x1 : Int32} {x2 : Int32} {x3 : Int32} (hL : z_L S)
    (h : ((v 223 31) ≤ x3 → (z_J G d mX11_lays_ (49, [.ref 223, .int x1, .int x2, .int 0], [], S, v) Q)) ∧ (¬ (v 223 31) ≤ x3 → (vp_in x3 321 ∧ (∀ v1, v1 = z_u v 258 x3.toNatClampNeg (vp_nar .boolean 0) → (z_J G d mX11_lays_ (26, [.ref 223, .int x1, .int x2, .int (x3 + 1)], [], S, v1) Q))))) :
    z_J G d mX11_lays_ (26, [.ref 223, .int x1, .int x2, .int x3], [], S, v) Q := by
  refine zj_iload_n dX11_lays__26 rfl rfl ?_
  refine zj_aload_n dX11_lays__27 rfl rfl ?_
  refine zj_getI (ci := 11) (j := 31) dX11_lays__28 wf_X11_251 (by decide) (by decide) (zk_223 hL) rfl ?_
  refine zj_icmp_ge (tgt := 47) dX11_lays__31 (by decide) (fun c => ?_) (fun c => ?_)
  · replace h := h.1 c
    refine zj_iconst (x := 0) dX11_lays__47 rfl ?_
    refine zj_istore_n (ls2 := [.ref 223, .int x1, .int x2, .int 0]) dX11_lays__48 rfl (by decide) rfl rfl ?_
    exact h
  · replace h := h.2 c
    refine zj_aload_n dX11_lays__34 rfl rfl ?_
    refine zj_getR (ci := 11) (j := 57) dX11_lays__35 wf_X11_118 (by decide) (by decide) (zk_223 hL) rfl (zr_223_57 hL) ?_
    refine zj_iload_n dX11_lays__38 rfl rfl ?_
    refine zj_iconst (x := 0) dX11_lays__39 rfl ?_
    refine zj_zastore dX11_lays__40 (zk_258 hL) (by rw [(zl_258 hL)]; exact h.1) (fun v1 ev1 => ?_)
    replace h := h.2 v1 ev1
    refine zj_iinc (y := x3 + 1) (ls2 := [.ref 223, .int x1, .int x2, .int (x3 + 1)]) dX11_lays__41 rfl rfl (by decide) rfl rfl ?_
    refine zj_goto (tgt := 26) dX11_lays__44 (by decide) ?_
    exact h
theorem sg_X11_lays__49 {G : z_G} {d : Nat} {S : z_Shp} {v : z_Dat} {Q : Option Value → z_Shp → z_Dat → Prop} {x1 : Int32} {x2 : Int32} {x3 : Int32} (hL : z_L S)
    (h : ((v 223 53) ≤ x3 → ((¬ x2 = 1 → (z_J G d mX11_chooses (0, [.ref 223, .null, .null, .null], [], S, v) (fun r S1 v1 => r = none ∧ S1 = S ∧ (z_J G (d + 1) mX11_lays_ (93, [.ref 223, .int x1, .int x2, .int 0], [], S, v1) Q)))) ∧ (x2 = 1 → (Q (some (.int 1)) S v)))) ∧ (¬ (v 223 53) ≤ x3 → ((¬ x2 = 1 → ((¬ x2 = 1 → (z_J G d mX11_chooses (0, [.ref 223, .null, .null, .null], [], S, v) (fun r S1 v2 => r = none ∧ S1 = S ∧ (z_J G (d + 1) mX11_lays_ (93, [.ref 223, .int x1, .int x2, .int 0], [], S, v2) Q)))) ∧ (x2 = 1 → (Q (some (.int 1)) S v)))) ∧ (x2 = 1 → ((vp_in x3 109) ∧ (vp_in (v 253 x3.toNatClampNeg) 321 ∧ (∀ v3, v3 = z_u v 258 (v 253 x3.toNatClampNeg).toNatClampNeg (vp_nar .boolean 1) → (z_J G (d + 1) mX11_lays_ (49, [.ref 223, .int x1, .int x2, .int (x3 + 1)], [], S, v3) Q)))))))) :
    z_J G (d + 1) mX11_lays_ (49, [.ref 223, .int x1, .int x2, .int x3], [], S, v) Q := by
  refine zj_iload_n dX11_lays__49 rfl rfl ?_
  refine zj_aload_n dX11_lays__50 rfl rfl ?_
  refine zj_getI (ci := 11) (j := 53) dX11_lays__51 wf_X11_333 (by decide) (by decide) (zk_223 hL) rfl ?_
  refine zj_icmp_ge (tgt := 80) dX11_lays__54 (by decide) (fun c => ?_) (fun c => ?_)
  · replace h := h.1 c
    refine zj_iload_n dX11_lays__80 rfl rfl ?_
    refine zj_iconst (x := 1) dX11_lays__81 rfl ?_
    refine zj_icmp_ne (tgt := 87) dX11_lays__82 (by decide) (fun c => ?_) (fun c => ?_)
    · replace h := h.1 c
      refine zj_aload_n dX11_lays__87 rfl rfl ?_
      refine zj_callV (M' := mX11_chooses) (avs := []) (st := []) (ci := 11) dX11_lays__88 wm_X11_chooses wl_X11_302 wi_X11_chooses ws_X11_chooses (by decide) (zk_223 hL) rfl rfl (by decide) rfl (Nat.le_of_ble_eq_true rfl) (Nat.le_of_ble_eq_true rfl) ⟨Or.inl (z_k0 (zk_223 hL)), trivial⟩ trivial (z_J.mono h (fun r S1 v1 hq => ?_))
      obtain ⟨rfl, rfl, h⟩ := hq
      refine zj_iconst (x := 0) dX11_lays__91 rfl ?_
      refine zj_istore_n (ls2 := [.ref 223, .int x1, .int x2, .int 0]) dX11_lays__92 rfl (by decide) rfl rfl ?_
      exact h
    · replace h := h.2 c
      refine zj_iconst (x := 1) dX11_lays__85 rfl ?_
      exact zj_iret dX11_lays__86 rfl (by decide) h
  · replace h := h.2 c
    refine zj_iload_n dX11_lays__57 rfl rfl ?_
    refine zj_iconst (x := 1) dX11_lays__58 rfl ?_
    refine zj_icmp_ne (tgt := 80) dX11_lays__59 (by decide) (fun c => ?_) (fun c => ?_)
    · replace h := h.1 c
      refine zj_iload_n dX11_lays__80 rfl rfl ?_
      refine zj_iconst (x := 1) dX11_lays__81 rfl ?_
      refine zj_icmp_ne (tgt := 87) dX11_lays__82 (by decide) (fun c => ?_) (fun c => ?_)
      · replace h := h.1 c
        refine zj_aload_n dX11_lays__87 rfl rfl ?_
        refine zj_callV (M' := mX11_chooses) (avs := []) (st := []) (ci := 11) dX11_lays__88 wm_X11_chooses wl_X11_302 wi_X11_chooses ws_X11_chooses (by decide) (zk_223 hL) rfl rfl (by decide) rfl (Nat.le_of_ble_eq_true rfl) (Nat.le_of_ble_eq_true rfl) ⟨Or.inl (z_k0 (zk_223 hL)), trivial⟩ trivial (z_J.mono h (fun r S1 v2 hq => ?_))
        obtain ⟨rfl, rfl, h⟩ := hq
        refine zj_iconst (x := 0) dX11_lays__91 rfl ?_
        refine zj_istore_n (ls2 := [.ref 223, .int x1, .int x2, .int 0]) dX11_lays__92 rfl (by decide) rfl rfl ?_
        exact h
      · replace h := h.2 c
        refine zj_iconst (x := 1) dX11_lays__85 rfl ?_
        exact zj_iret dX11_lays__86 rfl (by decide) h
    · replace h := h.2 c
      refine zj_aload_n dX11_lays__62 rfl rfl ?_
      refine zj_getR (ci := 11) (j := 57) dX11_lays__63 wf_X11_118 (by decide) (by decide) (zk_223 hL) rfl (zr_223_57 hL) ?_
      refine zj_aload_n dX11_lays__66 rfl rfl ?_
      refine zj_getR (ci := 11) (j := 47) dX11_lays__67 wf_X11_103 (by decide) (by decide) (zk_223 hL) rfl (zr_223_47 hL) ?_
      refine zj_iload_n dX11_lays__70 rfl rfl ?_
      refine zj_iaload dX11_lays__71 (zk_253 hL) (by rw [(zl_253 hL)]; exact h.1) ?_
      replace h := h.2
      refine zj_iconst (x := 1) dX11_lays__72 rfl ?_
      refine zj_zastore dX11_lays__73 (zk_258 hL) (by rw [(zl_258 hL)]; exact h.1) (fun v3 ev3 => ?_)
      replace h := h.2 v3 ev3
      refine zj_iinc (y := x3 + 1) (ls2 := [.ref 223, .int x1, .int x2, .int (x3 + 1)]) dX11_lays__74 rfl rfl (by decide) rfl rfl ?_
      refine zj_goto (tgt := 49) dX11_lays__77 (by decide) ?_
      exact h
theorem sg_X11_lays__93 {G : z_G} {d : Nat} {S : z_Shp} {v : z_Dat} {Q : Option Value → z_Shp → z_Dat → Prop} {x1 : Int32} {x2 : Int32} {x3 : Int32} (hL : z_L S)
    (h : ((v 223 33) ≤ x3 → (Q (some (.int 1)) S v)) ∧ (¬ (v 223 33) ≤ x3 → ((vp_in x3 14) ∧ (((v 247 x3.toNatClampNeg) < 0 → ((vp_in x3 14) ∧ ((0 ≤ (v 247 x3.toNatClampNeg) → ((vp_in x3 14) ∧ (z_J G d mX11_aims (0, [.ref 223, .int (v 247 x3.toNatClampNeg)], [], S, v) (fun r S1 v1 => r = none ∧ S1 = S ∧ ((vp_in x3 108) ∧ (z_J G d mX11_laysWay (0, [.ref 223, .int (v1 242 x3.toNatClampNeg), .null, .null], [], S, v1) (fun r S1 v2 => r = none ∧ S1 = S ∧ (z_J G d mX11_goesWay (0, [.ref 223, .null], [], S, v2) (fun r S1 v3 => r = none ∧ S1 = S ∧ (z_J G (d + 1) mX11_lays_ (93, [.ref 223, .int x1, .int x2, .int (x3 + 1)], [], S, v3) Q)))))))))) ∧ (¬ 0 ≤ (v 247 x3.toNatClampNeg) → (z_J G d mX11_aims (0, [.ref 223, .int (-1)], [], S, v) (fun r S1 v4 => r = none ∧ S1 = S ∧ ((vp_in x3 108) ∧ (z_J G d mX11_laysWay (0, [.ref 223, .int (v4 242 x3.toNatClampNeg), .null, .null], [], S, v4) (fun r S1 v5 => r = none ∧ S1 = S ∧ (z_J G d mX11_goesWay (0, [.ref 223, .null], [], S, v5) (fun r S1 v6 => r = none ∧ S1 = S ∧ (z_J G (d + 1) mX11_lays_ (93, [.ref 223, .int x1, .int x2, .int (x3 + 1)], [], S, v6) Q)))))))))))) ∧ (¬ (v 247 x3.toNatClampNeg) < 0 → ((vp_in x3 14) ∧ ((x3 ≤ (v 247 x3.toNatClampNeg) → ((vp_in x3 14) ∧ ((0 ≤ (v 247 x3.toNatClampNeg) → ((vp_in x3 14) ∧ (z_J G d mX11_aims (0, [.ref 223, .int (v 247 x3.toNatClampNeg)], [], S, v) (fun r S1 v7 => r = none ∧ S1 = S ∧ ((vp_in x3 108) ∧ (z_J G d mX11_laysWay (0, [.ref 223, .int (v7 242 x3.toNatClampNeg), .null, .null], [], S, v7) (fun r S1 v8 => r = none ∧ S1 = S ∧ (z_J G d mX11_goesWay (0, [.ref 223, .null], [], S, v8) (fun r S1 v9 => r = none ∧ S1 = S ∧ (z_J G (d + 1) mX11_lays_ (93, [.ref 223, .int x1, .int x2, .int (x3 + 1)], [], S, v9) Q)))))))))) ∧ (¬ 0 ≤ (v 247 x3.toNatClampNeg) → (z_J G d mX11_aims (0, [.ref 223, .int (-1)], [], S, v) (fun r S1 v10 => r = none ∧ S1 = S ∧ ((vp_in x3 108) ∧ (z_J G d mX11_laysWay (0, [.ref 223, .int (v10 242 x3.toNatClampNeg), .null, .null], [], S, v10) (fun r S1 v11 => r = none ∧ S1 = S ∧ (z_J G d mX11_goesWay (0, [.ref 223, .null], [], S, v11) (fun r S1 v12 => r = none ∧ S1 = S ∧ (z_J G (d + 1) mX11_lays_ (93, [.ref 223, .int x1, .int x2, .int (x3 + 1)], [], S, v12) Q)))))))))))) ∧ (¬ x3 ≤ (v 247 x3.toNatClampNeg) → (z_J G (d + 1) mX11_lays_ (93, [.ref 223, .int x1, .int x2, .int (x3 + 1)], [], S, v) Q))))))))) :
    z_J G (d + 1) mX11_lays_ (93, [.ref 223, .int x1, .int x2, .int x3], [], S, v) Q := by
  refine zj_iload_n dX11_lays__93 rfl rfl ?_
  refine zj_aload_n dX11_lays__94 rfl rfl ?_
  refine zj_getI (ci := 11) (j := 33) dX11_lays__95 wf_X11_257 (by decide) (by decide) (zk_223 hL) rfl ?_
  refine zj_icmp_ge (tgt := 166) dX11_lays__98 (by decide) (fun c => ?_) (fun c => ?_)
  · replace h := h.1 c
    refine zj_iconst (x := 1) dX11_lays__166 rfl ?_
    exact zj_iret dX11_lays__167 rfl (by decide) h
  · replace h := h.2 c
    refine zj_aload_n dX11_lays__101 rfl rfl ?_
    refine zj_getR (ci := 11) (j := 40) dX11_lays__102 wf_X11_85 (by decide) (by decide) (zk_223 hL) rfl (zr_223_40 hL) ?_
    refine zj_iload_n dX11_lays__105 rfl rfl ?_
    refine zj_iaload dX11_lays__106 (zk_247 hL) (by rw [(zl_247 hL)]; exact h.1) ?_
    replace h := h.2
    refine zj_if_lt (tgt := 123) dX11_lays__107 (by decide) (fun c => ?_) (fun c => ?_)
    · replace h := h.1 c
      refine zj_aload_n dX11_lays__123 rfl rfl ?_
      refine zj_aload_n dX11_lays__124 rfl rfl ?_
      refine zj_getR (ci := 11) (j := 40) dX11_lays__125 wf_X11_85 (by decide) (by decide) (zk_223 hL) rfl (zr_223_40 hL) ?_
      refine zj_iload_n dX11_lays__128 rfl rfl ?_
      refine zj_iaload dX11_lays__129 (zk_247 hL) (by rw [(zl_247 hL)]; exact h.1) ?_
      replace h := h.2
      refine zj_if_ge (tgt := 137) dX11_lays__130 (by decide) (fun c => ?_) (fun c => ?_)
      · replace h := h.1 c
        refine zj_aload_n dX11_lays__137 rfl rfl ?_
        refine zj_getR (ci := 11) (j := 40) dX11_lays__138 wf_X11_85 (by decide) (by decide) (zk_223 hL) rfl (zr_223_40 hL) ?_
        refine zj_iload_n dX11_lays__141 rfl rfl ?_
        refine zj_iaload dX11_lays__142 (zk_247 hL) (by rw [(zl_247 hL)]; exact h.1) ?_
        replace h := h.2
        refine zj_callV (M' := mX11_aims) (avs := [.int (v 247 x3.toNatClampNeg)]) (st := []) (ci := 11) dX11_lays__143 wm_X11_aims wl_X11_279 wi_X11_aims ws_X11_aims (by decide) (zk_223 hL) rfl rfl (by decide) rfl (Nat.le_of_ble_eq_true rfl) (Nat.le_of_ble_eq_true rfl) ⟨Or.inl (z_k0 (zk_223 hL)), trivial⟩ trivial (z_J.mono h (fun r S1 v1 hq => ?_))
        obtain ⟨rfl, rfl, h⟩ := hq
        refine zj_aload_n dX11_lays__146 rfl rfl ?_
        refine zj_aload_n dX11_lays__147 rfl rfl ?_
        refine zj_getR (ci := 11) (j := 30) dX11_lays__148 wf_X11_70 (by decide) (by decide) (zk_223 hL) rfl (zr_223_30 hL) ?_
        refine zj_iload_n dX11_lays__151 rfl rfl ?_
        refine zj_iaload dX11_lays__152 (zk_242 hL) (by rw [(zl_242 hL)]; exact h.1) ?_
        replace h := h.2
        refine zj_callV (M' := mX11_laysWay) (avs := [.int (v1 242 x3.toNatClampNeg)]) (st := []) (ci := 11) dX11_lays__153 wm_X11_laysWay wl_X11_282 wi_X11_laysWay ws_X11_laysWay (by decide) (zk_223 hL) rfl rfl (by decide) rfl (Nat.le_of_ble_eq_true rfl) (Nat.le_of_ble_eq_true rfl) ⟨Or.inl (z_k0 (zk_223 hL)), trivial⟩ trivial (z_J.mono h (fun r S1 v2 hq => ?_))
        obtain ⟨rfl, rfl, h⟩ := hq
        refine zj_aload_n dX11_lays__156 rfl rfl ?_
        refine zj_callV (M' := mX11_goesWay) (avs := []) (st := []) (ci := 11) dX11_lays__157 wm_X11_goesWay wl_X11_346 wi_X11_goesWay ws_X11_goesWay (by decide) (zk_223 hL) rfl rfl (by decide) rfl (Nat.le_of_ble_eq_true rfl) (Nat.le_of_ble_eq_true rfl) ⟨Or.inl (z_k0 (zk_223 hL)), trivial⟩ trivial (z_J.mono h (fun r S1 v3 hq => ?_))
        obtain ⟨rfl, rfl, h⟩ := hq
        refine zj_iinc (y := x3 + 1) (ls2 := [.ref 223, .int x1, .int x2, .int (x3 + 1)]) dX11_lays__160 rfl rfl (by decide) rfl rfl ?_
        refine zj_goto (tgt := 93) dX11_lays__163 (by decide) ?_
        exact h
      · replace h := h.2 c
        refine zj_iconst (x := (-1)) dX11_lays__133 rfl ?_
        refine zj_goto (tgt := 143) dX11_lays__134 (by decide) ?_
        refine zj_callV (M' := mX11_aims) (avs := [.int (-1)]) (st := []) (ci := 11) dX11_lays__143 wm_X11_aims wl_X11_279 wi_X11_aims ws_X11_aims (by decide) (zk_223 hL) rfl rfl (by decide) rfl (Nat.le_of_ble_eq_true rfl) (Nat.le_of_ble_eq_true rfl) ⟨Or.inl (z_k0 (zk_223 hL)), trivial⟩ trivial (z_J.mono h (fun r S1 v4 hq => ?_))
        obtain ⟨rfl, rfl, h⟩ := hq
        refine zj_aload_n dX11_lays__146 rfl rfl ?_
        refine zj_aload_n dX11_lays__147 rfl rfl ?_
        refine zj_getR (ci := 11) (j := 30) dX11_lays__148 wf_X11_70 (by decide) (by decide) (zk_223 hL) rfl (zr_223_30 hL) ?_
        refine zj_iload_n dX11_lays__151 rfl rfl ?_
        refine zj_iaload dX11_lays__152 (zk_242 hL) (by rw [(zl_242 hL)]; exact h.1) ?_
        replace h := h.2
        refine zj_callV (M' := mX11_laysWay) (avs := [.int (v4 242 x3.toNatClampNeg)]) (st := []) (ci := 11) dX11_lays__153 wm_X11_laysWay wl_X11_282 wi_X11_laysWay ws_X11_laysWay (by decide) (zk_223 hL) rfl rfl (by decide) rfl (Nat.le_of_ble_eq_true rfl) (Nat.le_of_ble_eq_true rfl) ⟨Or.inl (z_k0 (zk_223 hL)), trivial⟩ trivial (z_J.mono h (fun r S1 v5 hq => ?_))
        obtain ⟨rfl, rfl, h⟩ := hq
        refine zj_aload_n dX11_lays__156 rfl rfl ?_
        refine zj_callV (M' := mX11_goesWay) (avs := []) (st := []) (ci := 11) dX11_lays__157 wm_X11_goesWay wl_X11_346 wi_X11_goesWay ws_X11_goesWay (by decide) (zk_223 hL) rfl rfl (by decide) rfl (Nat.le_of_ble_eq_true rfl) (Nat.le_of_ble_eq_true rfl) ⟨Or.inl (z_k0 (zk_223 hL)), trivial⟩ trivial (z_J.mono h (fun r S1 v6 hq => ?_))
        obtain ⟨rfl, rfl, h⟩ := hq
        refine zj_iinc (y := x3 + 1) (ls2 := [.ref 223, .int x1, .int x2, .int (x3 + 1)]) dX11_lays__160 rfl rfl (by decide) rfl rfl ?_
        refine zj_goto (tgt := 93) dX11_lays__163 (by decide) ?_
        exact h
    · replace h := h.2 c
      refine zj_aload_n dX11_lays__110 rfl rfl ?_
      refine zj_getR (ci := 11) (j := 40) dX11_lays__111 wf_X11_85 (by decide) (by decide) (zk_223 hL) rfl (zr_223_40 hL) ?_
      refine zj_iload_n dX11_lays__114 rfl rfl ?_
      refine zj_iaload dX11_lays__115 (zk_247 hL) (by rw [(zl_247 hL)]; exact h.1) ?_
      replace h := h.2
      refine zj_iload_n dX11_lays__116 rfl rfl ?_
      refine zj_icmp_ge (tgt := 123) dX11_lays__117 (by decide) (fun c => ?_) (fun c => ?_)
      · replace h := h.1 c
        refine zj_aload_n dX11_lays__123 rfl rfl ?_
        refine zj_aload_n dX11_lays__124 rfl rfl ?_
        refine zj_getR (ci := 11) (j := 40) dX11_lays__125 wf_X11_85 (by decide) (by decide) (zk_223 hL) rfl (zr_223_40 hL) ?_
        refine zj_iload_n dX11_lays__128 rfl rfl ?_
        refine zj_iaload dX11_lays__129 (zk_247 hL) (by rw [(zl_247 hL)]; exact h.1) ?_
        replace h := h.2
        refine zj_if_ge (tgt := 137) dX11_lays__130 (by decide) (fun c => ?_) (fun c => ?_)
        · replace h := h.1 c
          refine zj_aload_n dX11_lays__137 rfl rfl ?_
          refine zj_getR (ci := 11) (j := 40) dX11_lays__138 wf_X11_85 (by decide) (by decide) (zk_223 hL) rfl (zr_223_40 hL) ?_
          refine zj_iload_n dX11_lays__141 rfl rfl ?_
          refine zj_iaload dX11_lays__142 (zk_247 hL) (by rw [(zl_247 hL)]; exact h.1) ?_
          replace h := h.2
          refine zj_callV (M' := mX11_aims) (avs := [.int (v 247 x3.toNatClampNeg)]) (st := []) (ci := 11) dX11_lays__143 wm_X11_aims wl_X11_279 wi_X11_aims ws_X11_aims (by decide) (zk_223 hL) rfl rfl (by decide) rfl (Nat.le_of_ble_eq_true rfl) (Nat.le_of_ble_eq_true rfl) ⟨Or.inl (z_k0 (zk_223 hL)), trivial⟩ trivial (z_J.mono h (fun r S1 v7 hq => ?_))
          obtain ⟨rfl, rfl, h⟩ := hq
          refine zj_aload_n dX11_lays__146 rfl rfl ?_
          refine zj_aload_n dX11_lays__147 rfl rfl ?_
          refine zj_getR (ci := 11) (j := 30) dX11_lays__148 wf_X11_70 (by decide) (by decide) (zk_223 hL) rfl (zr_223_30 hL) ?_
          refine zj_iload_n dX11_lays__151 rfl rfl ?_
          refine zj_iaload dX11_lays__152 (zk_242 hL) (by rw [(zl_242 hL)]; exact h.1) ?_
          replace h := h.2
          refine zj_callV (M' := mX11_laysWay) (avs := [.int (v7 242 x3.toNatClampNeg)]) (st := []) (ci := 11) dX11_lays__153 wm_X11_laysWay wl_X11_282 wi_X11_laysWay ws_X11_laysWay (by decide) (zk_223 hL) rfl rfl (by decide) rfl (Nat.le_of_ble_eq_true rfl) (Nat.le_of_ble_eq_true rfl) ⟨Or.inl (z_k0 (zk_223 hL)), trivial⟩ trivial (z_J.mono h (fun r S1 v8 hq => ?_))
          obtain ⟨rfl, rfl, h⟩ := hq
          refine zj_aload_n dX11_lays__156 rfl rfl ?_
          refine zj_callV (M' := mX11_goesWay) (avs := []) (st := []) (ci := 11) dX11_lays__157 wm_X11_goesWay wl_X11_346 wi_X11_goesWay ws_X11_goesWay (by decide) (zk_223 hL) rfl rfl (by decide) rfl (Nat.le_of_ble_eq_true rfl) (Nat.le_of_ble_eq_true rfl) ⟨Or.inl (z_k0 (zk_223 hL)), trivial⟩ trivial (z_J.mono h (fun r S1 v9 hq => ?_))
          obtain ⟨rfl, rfl, h⟩ := hq
          refine zj_iinc (y := x3 + 1) (ls2 := [.ref 223, .int x1, .int x2, .int (x3 + 1)]) dX11_lays__160 rfl rfl (by decide) rfl rfl ?_
          refine zj_goto (tgt := 93) dX11_lays__163 (by decide) ?_
          exact h
        · replace h := h.2 c
          refine zj_iconst (x := (-1)) dX11_lays__133 rfl ?_
          refine zj_goto (tgt := 143) dX11_lays__134 (by decide) ?_
          refine zj_callV (M' := mX11_aims) (avs := [.int (-1)]) (st := []) (ci := 11) dX11_lays__143 wm_X11_aims wl_X11_279 wi_X11_aims ws_X11_aims (by decide) (zk_223 hL) rfl rfl (by decide) rfl (Nat.le_of_ble_eq_true rfl) (Nat.le_of_ble_eq_true rfl) ⟨Or.inl (z_k0 (zk_223 hL)), trivial⟩ trivial (z_J.mono h (fun r S1 v10 hq => ?_))
          obtain ⟨rfl, rfl, h⟩ := hq
          refine zj_aload_n dX11_lays__146 rfl rfl ?_
          refine zj_aload_n dX11_lays__147 rfl rfl ?_
          refine zj_getR (ci := 11) (j := 30) dX11_lays__148 wf_X11_70 (by decide) (by decide) (zk_223 hL) rfl (zr_223_30 hL) ?_
          refine zj_iload_n dX11_lays__151 rfl rfl ?_
          refine zj_iaload dX11_lays__152 (zk_242 hL) (by rw [(zl_242 hL)]; exact h.1) ?_
          replace h := h.2
          refine zj_callV (M' := mX11_laysWay) (avs := [.int (v10 242 x3.toNatClampNeg)]) (st := []) (ci := 11) dX11_lays__153 wm_X11_laysWay wl_X11_282 wi_X11_laysWay ws_X11_laysWay (by decide) (zk_223 hL) rfl rfl (by decide) rfl (Nat.le_of_ble_eq_true rfl) (Nat.le_of_ble_eq_true rfl) ⟨Or.inl (z_k0 (zk_223 hL)), trivial⟩ trivial (z_J.mono h (fun r S1 v11 hq => ?_))
          obtain ⟨rfl, rfl, h⟩ := hq
          refine zj_aload_n dX11_lays__156 rfl rfl ?_
          refine zj_callV (M' := mX11_goesWay) (avs := []) (st := []) (ci := 11) dX11_lays__157 wm_X11_goesWay wl_X11_346 wi_X11_goesWay ws_X11_goesWay (by decide) (zk_223 hL) rfl rfl (by decide) rfl (Nat.le_of_ble_eq_true rfl) (Nat.le_of_ble_eq_true rfl) ⟨Or.inl (z_k0 (zk_223 hL)), trivial⟩ trivial (z_J.mono h (fun r S1 v12 hq => ?_))
          obtain ⟨rfl, rfl, h⟩ := hq
          refine zj_iinc (y := x3 + 1) (ls2 := [.ref 223, .int x1, .int x2, .int (x3 + 1)]) dX11_lays__160 rfl rfl (by decide) rfl rfl ?_
          refine zj_goto (tgt := 93) dX11_lays__163 (by decide) ?_
          exact h
      · replace h := h.2 c
        refine zj_goto (tgt := 160) dX11_lays__120 (by decide) ?_
        refine zj_iinc (y := x3 + 1) (ls2 := [.ref 223, .int x1, .int x2, .int (x3 + 1)]) dX11_lays__160 rfl rfl (by decide) rfl rfl ?_
        refine zj_goto (tgt := 93) dX11_lays__163 (by decide) ?_
        exact h
theorem sg_X11_leaderOf_0 {G : z_G} {d : Nat} {S : z_Shp} {v : z_Dat} {Q : Option Value → z_Shp → z_Dat → Prop} {x1 : Int32}
    (h : z_J G d mX11_leaderOf (2, [.ref 223, .int x1, .int x1], [], S, v) Q) :
    z_J G d mX11_leaderOf (0, [.ref 223, .int x1, .null], [], S, v) Q := by
  refine zj_iload_n dX11_leaderOf_0 rfl rfl ?_
  refine zj_istore_n (ls2 := [.ref 223, .int x1, .int x1]) dX11_leaderOf_1 rfl (by decide) rfl rfl ?_
  exact h
theorem sg_X11_leaderOf_2 {G : z_G} {d : Nat} {S : z_Shp} {v : z_Dat} {Q : Option Value → z_Shp → z_Dat → Prop} {x1 : Int32} {x2 : Int32} (hL : z_L S)
    (h : (vp_in x2 109) ∧ (((v 250 x2.toNatClampNeg) = x2 → (Q (some (.int x2)) S v)) ∧ (¬ (v 250 x2.toNatClampNeg) = x2 → ((vp_in x2 109) ∧ (z_J G d mX11_leaderOf (2, [.ref 223, .int x1, .int (v 250 x2.toNatClampNeg)], [], S, v) Q))))) :
    z_J G d mX11_leaderOf (2, [.ref 223, .int x1, .int x2], [], S, v) Q := by
  refine zj_aload_n dX11_leaderOf_2 rfl rfl ?_
  refine zj_getR (ci := 11) (j := 44) dX11_leaderOf_3 wf_X11_94 (by decide) (by decide) (zk_223 hL) rfl (zr_223_44 hL) ?_
  refine zj_iload_n dX11_leaderOf_6 rfl rfl ?_
  refine zj_iaload dX11_leaderOf_7 (zk_250 hL) (by rw [(zl_250 hL)]; exact h.1) ?_
  replace h := h.2
  refine zj_iload_n dX11_leaderOf_8 rfl rfl ?_
  refine zj_icmp_eq (tgt := 22) dX11_leaderOf_9 (by decide) (fun c => ?_) (fun c => ?_)
  · replace h := h.1 c
    refine zj_iload_n dX11_leaderOf_22 rfl rfl ?_
    exact zj_iret dX11_leaderOf_23 rfl rfl h
  · replace h := h.2 c
    refine zj_aload_n dX11_leaderOf_12 rfl rfl ?_
    refine zj_getR (ci := 11) (j := 44) dX11_leaderOf_13 wf_X11_94 (by decide) (by decide) (zk_223 hL) rfl (zr_223_44 hL) ?_
    refine zj_iload_n dX11_leaderOf_16 rfl rfl ?_
    refine zj_iaload dX11_leaderOf_17 (zk_250 hL) (by rw [(zl_250 hL)]; exact h.1) ?_
    replace h := h.2
    refine zj_istore_n (ls2 := [.ref 223, .int x1, .int (v 250 x2.toNatClampNeg)]) dX11_leaderOf_18 rfl (by decide) rfl rfl ?_
    refine zj_goto (tgt := 2) dX11_leaderOf_19 (by decide) ?_
    exact h
theorem sg_X11_leads_0 {G : z_G} {d : Nat} {S : z_Shp} {v : z_Dat} {Q : Option Value → z_Shp → z_Dat → Prop} {x1 : Int32} {x2 : Int32} (hL : z_L S)
    (h : (vp_in x1 321) ∧ (((v 238 x1.toNatClampNeg) = x2 → ((vp_in x1 321) ∧ ((¬ (v 238 x1.toNatClampNeg) = x2 → ((vp_in x1 321) ∧ ((vp_in (v 238 x1.toNatClampNeg) 109) ∧ ((vp_in x1 321) ∧ ((vp_in x2 109) ∧ ((¬ ((v 241 (v 238 x1.toNatClampNeg).toNatClampNeg) + (v 240 x1.toNatClampNeg)) = (v 241 x2.toNatClampNeg) → (Q (some (.int 0)) S v)) ∧ (((v 241 (v 238 x1.toNatClampNeg).toNatClampNeg) + (v 240 x1.toNatClampNeg)) = (v 241 x2.toNatClampNeg) → (Q (some (.int 1)) S v)))))))) ∧ ((v 238 x1.toNatClampNeg) = x2 → ((vp_in x1 321) ∧ ((vp_in (v 239 x1.toNatClampNeg) 109) ∧ ((vp_in x1 321) ∧ ((vp_in x2 109) ∧ ((¬ ((v 241 (v 239 x1.toNatClampNeg).toNatClampNeg) + (v 240 x1.toNatClampNeg)) = (v 241 x2.toNatClampNeg) → (Q (some (.int 0)) S v)) ∧ (((v 241 (v 239 x1.toNatClampNeg).toNatClampNeg) + (v 240 x1.toNatClampNeg)) = (v 241 x2.toNatClampNeg) → (Q (some (.int 1)) S v))))))))))) ∧ (¬ (v 238 x1.toNatClampNeg) = x2 → ((vp_in x1 321) ∧ (((v 239 x1.toNatClampNeg) = x2 → ((vp_in x1 321) ∧ ((¬ (v 238 x1.toNatClampNeg) = x2 → ((vp_in x1 321) ∧ ((vp_in (v 238 x1.toNatClampNeg) 109) ∧ ((vp_in x1 321) ∧ ((vp_in x2 109) ∧ ((¬ ((v 241 (v 238 x1.toNatClampNeg).toNatClampNeg) + (v 240 x1.toNatClampNeg)) = (v 241 x2.toNatClampNeg) → (Q (some (.int 0)) S v)) ∧ (((v 241 (v 238 x1.toNatClampNeg).toNatClampNeg) + (v 240 x1.toNatClampNeg)) = (v 241 x2.toNatClampNeg) → (Q (some (.int 1)) S v)))))))) ∧ ((v 238 x1.toNatClampNeg) = x2 → ((vp_in x1 321) ∧ ((vp_in (v 239 x1.toNatClampNeg) 109) ∧ ((vp_in x1 321) ∧ ((vp_in x2 109) ∧ ((¬ ((v 241 (v 239 x1.toNatClampNeg).toNatClampNeg) + (v 240 x1.toNatClampNeg)) = (v 241 x2.toNatClampNeg) → (Q (some (.int 0)) S v)) ∧ (((v 241 (v 239 x1.toNatClampNeg).toNatClampNeg) + (v 240 x1.toNatClampNeg)) = (v 241 x2.toNatClampNeg) → (Q (some (.int 1)) S v))))))))))) ∧ (¬ (v 239 x1.toNatClampNeg) = x2 → (Q (some (.int 0)) S v))))))) :
    z_J G d mX11_leads (0, [.ref 223, .int x1, .int x2, .null], [], S, v) Q := by
  refine zj_aload_n dX11_leads_0 rfl rfl ?_
  refine zj_getR (ci := 11) (j := 26) dX11_leads_1 wf_X11_58 (by decide) (by decide) (zk_223 hL) rfl (zr_223_26 hL) ?_
  refine zj_iload_n dX11_leads_4 rfl rfl ?_
  refine zj_iaload dX11_leads_5 (zk_238 hL) (by rw [(zl_238 hL)]; exact h.1) ?_
  replace h := h.2
  refine zj_iload_n dX11_leads_6 rfl rfl ?_
  refine zj_icmp_eq (tgt := 22) dX11_leads_7 (by decide) (fun c => ?_) (fun c => ?_)
  · replace h := h.1 c
    refine zj_aload_n dX11_leads_22 rfl rfl ?_
    refine zj_getR (ci := 11) (j := 26) dX11_leads_23 wf_X11_58 (by decide) (by decide) (zk_223 hL) rfl (zr_223_26 hL) ?_
    refine zj_iload_n dX11_leads_26 rfl rfl ?_
    refine zj_iaload dX11_leads_27 (zk_238 hL) (by rw [(zl_238 hL)]; exact h.1) ?_
    replace h := h.2
    refine zj_iload_n dX11_leads_28 rfl rfl ?_
    refine zj_icmp_ne (tgt := 41) dX11_leads_29 (by decide) (fun c => ?_) (fun c => ?_)
    · replace h := h.1 c
      refine zj_aload_n dX11_leads_41 rfl rfl ?_
      refine zj_getR (ci := 11) (j := 26) dX11_leads_42 wf_X11_58 (by decide) (by decide) (zk_223 hL) rfl (zr_223_26 hL) ?_
      refine zj_iload_n dX11_leads_45 rfl rfl ?_
      refine zj_iaload dX11_leads_46 (zk_238 hL) (by rw [(zl_238 hL)]; exact h.1) ?_
      replace h := h.2
      refine zj_istore_n (ls2 := [.ref 223, .int x1, .int x2, .int (v 238 x1.toNatClampNeg)]) dX11_leads_47 rfl (by decide) rfl rfl ?_
      refine zj_aload_n dX11_leads_48 rfl rfl ?_
      refine zj_getR (ci := 11) (j := 29) dX11_leads_49 wf_X11_67 (by decide) (by decide) (zk_223 hL) rfl (zr_223_29 hL) ?_
      refine zj_iload_n dX11_leads_52 rfl rfl ?_
      refine zj_iaload dX11_leads_53 (zk_241 hL) (by rw [(zl_241 hL)]; exact h.1) ?_
      replace h := h.2
      refine zj_aload_n dX11_leads_54 rfl rfl ?_
      refine zj_getR (ci := 11) (j := 28) dX11_leads_55 wf_X11_64 (by decide) (by decide) (zk_223 hL) rfl (zr_223_28 hL) ?_
      refine zj_iload_n dX11_leads_58 rfl rfl ?_
      refine zj_iaload dX11_leads_59 (zk_240 hL) (by rw [(zl_240 hL)]; exact h.1) ?_
      replace h := h.2
      refine zj_iadd dX11_leads_60 ?_
      refine zj_aload_n dX11_leads_61 rfl rfl ?_
      refine zj_getR (ci := 11) (j := 29) dX11_leads_62 wf_X11_67 (by decide) (by decide) (zk_223 hL) rfl (zr_223_29 hL) ?_
      refine zj_iload_n dX11_leads_65 rfl rfl ?_
      refine zj_iaload dX11_leads_66 (zk_241 hL) (by rw [(zl_241 hL)]; exact h.1) ?_
      replace h := h.2
      refine zj_icmp_ne (tgt := 74) dX11_leads_67 (by decide) (fun c => ?_) (fun c => ?_)
      · replace h := h.1 c
        refine zj_iconst (x := 0) dX11_leads_74 rfl ?_
        exact zj_iret dX11_leads_75 rfl (by decide) h
      · replace h := h.2 c
        refine zj_iconst (x := 1) dX11_leads_70 rfl ?_
        refine zj_goto (tgt := 75) dX11_leads_71 (by decide) ?_
        exact zj_iret dX11_leads_75 rfl (by decide) h
    · replace h := h.2 c
      refine zj_aload_n dX11_leads_32 rfl rfl ?_
      refine zj_getR (ci := 11) (j := 27) dX11_leads_33 wf_X11_61 (by decide) (by decide) (zk_223 hL) rfl (zr_223_27 hL) ?_
      refine zj_iload_n dX11_leads_36 rfl rfl ?_
      refine zj_iaload dX11_leads_37 (zk_239 hL) (by rw [(zl_239 hL)]; exact h.1) ?_
      replace h := h.2
      refine zj_goto (tgt := 47) dX11_leads_38 (by decide) ?_
      refine zj_istore_n (ls2 := [.ref 223, .int x1, .int x2, .int (v 239 x1.toNatClampNeg)]) dX11_leads_47 rfl (by decide) rfl rfl ?_
      refine zj_aload_n dX11_leads_48 rfl rfl ?_
      refine zj_getR (ci := 11) (j := 29) dX11_leads_49 wf_X11_67 (by decide) (by decide) (zk_223 hL) rfl (zr_223_29 hL) ?_
      refine zj_iload_n dX11_leads_52 rfl rfl ?_
      refine zj_iaload dX11_leads_53 (zk_241 hL) (by rw [(zl_241 hL)]; exact h.1) ?_
      replace h := h.2
      refine zj_aload_n dX11_leads_54 rfl rfl ?_
      refine zj_getR (ci := 11) (j := 28) dX11_leads_55 wf_X11_64 (by decide) (by decide) (zk_223 hL) rfl (zr_223_28 hL) ?_
      refine zj_iload_n dX11_leads_58 rfl rfl ?_
      refine zj_iaload dX11_leads_59 (zk_240 hL) (by rw [(zl_240 hL)]; exact h.1) ?_
      replace h := h.2
      refine zj_iadd dX11_leads_60 ?_
      refine zj_aload_n dX11_leads_61 rfl rfl ?_
      refine zj_getR (ci := 11) (j := 29) dX11_leads_62 wf_X11_67 (by decide) (by decide) (zk_223 hL) rfl (zr_223_29 hL) ?_
      refine zj_iload_n dX11_leads_65 rfl rfl ?_
      refine zj_iaload dX11_leads_66 (zk_241 hL) (by rw [(zl_241 hL)]; exact h.1) ?_
      replace h := h.2
      refine zj_icmp_ne (tgt := 74) dX11_leads_67 (by decide) (fun c => ?_) (fun c => ?_)
      · replace h := h.1 c
        refine zj_iconst (x := 0) dX11_leads_74 rfl ?_
        exact zj_iret dX11_leads_75 rfl (by decide) h
      · replace h := h.2 c
        refine zj_iconst (x := 1) dX11_leads_70 rfl ?_
        refine zj_goto (tgt := 75) dX11_leads_71 (by decide) ?_
        exact zj_iret dX11_leads_75 rfl (by decide) h
  · replace h := h.2 c
    refine zj_aload_n dX11_leads_10 rfl rfl ?_
    refine zj_getR (ci := 11) (j := 27) dX11_leads_11 wf_X11_61 (by decide) (by decide) (zk_223 hL) rfl (zr_223_27 hL) ?_
    refine zj_iload_n dX11_leads_14 rfl rfl ?_
    refine zj_iaload dX11_leads_15 (zk_239 hL) (by rw [(zl_239 hL)]; exact h.1) ?_
    replace h := h.2
    refine zj_iload_n dX11_leads_16 rfl rfl ?_
    refine zj_icmp_eq (tgt := 22) dX11_leads_17 (by decide) (fun c => ?_) (fun c => ?_)
    · replace h := h.1 c
      refine zj_aload_n dX11_leads_22 rfl rfl ?_
      refine zj_getR (ci := 11) (j := 26) dX11_leads_23 wf_X11_58 (by decide) (by decide) (zk_223 hL) rfl (zr_223_26 hL) ?_
      refine zj_iload_n dX11_leads_26 rfl rfl ?_
      refine zj_iaload dX11_leads_27 (zk_238 hL) (by rw [(zl_238 hL)]; exact h.1) ?_
      replace h := h.2
      refine zj_iload_n dX11_leads_28 rfl rfl ?_
      refine zj_icmp_ne (tgt := 41) dX11_leads_29 (by decide) (fun c => ?_) (fun c => ?_)
      · replace h := h.1 c
        refine zj_aload_n dX11_leads_41 rfl rfl ?_
        refine zj_getR (ci := 11) (j := 26) dX11_leads_42 wf_X11_58 (by decide) (by decide) (zk_223 hL) rfl (zr_223_26 hL) ?_
        refine zj_iload_n dX11_leads_45 rfl rfl ?_
        refine zj_iaload dX11_leads_46 (zk_238 hL) (by rw [(zl_238 hL)]; exact h.1) ?_
        replace h := h.2
        refine zj_istore_n (ls2 := [.ref 223, .int x1, .int x2, .int (v 238 x1.toNatClampNeg)]) dX11_leads_47 rfl (by decide) rfl rfl ?_
        refine zj_aload_n dX11_leads_48 rfl rfl ?_
        refine zj_getR (ci := 11) (j := 29) dX11_leads_49 wf_X11_67 (by decide) (by decide) (zk_223 hL) rfl (zr_223_29 hL) ?_
        refine zj_iload_n dX11_leads_52 rfl rfl ?_
        refine zj_iaload dX11_leads_53 (zk_241 hL) (by rw [(zl_241 hL)]; exact h.1) ?_
        replace h := h.2
        refine zj_aload_n dX11_leads_54 rfl rfl ?_
        refine zj_getR (ci := 11) (j := 28) dX11_leads_55 wf_X11_64 (by decide) (by decide) (zk_223 hL) rfl (zr_223_28 hL) ?_
        refine zj_iload_n dX11_leads_58 rfl rfl ?_
        refine zj_iaload dX11_leads_59 (zk_240 hL) (by rw [(zl_240 hL)]; exact h.1) ?_
        replace h := h.2
        refine zj_iadd dX11_leads_60 ?_
        refine zj_aload_n dX11_leads_61 rfl rfl ?_
        refine zj_getR (ci := 11) (j := 29) dX11_leads_62 wf_X11_67 (by decide) (by decide) (zk_223 hL) rfl (zr_223_29 hL) ?_
        refine zj_iload_n dX11_leads_65 rfl rfl ?_
        refine zj_iaload dX11_leads_66 (zk_241 hL) (by rw [(zl_241 hL)]; exact h.1) ?_
        replace h := h.2
        refine zj_icmp_ne (tgt := 74) dX11_leads_67 (by decide) (fun c => ?_) (fun c => ?_)
        · replace h := h.1 c
          refine zj_iconst (x := 0) dX11_leads_74 rfl ?_
          exact zj_iret dX11_leads_75 rfl (by decide) h
        · replace h := h.2 c
          refine zj_iconst (x := 1) dX11_leads_70 rfl ?_
          refine zj_goto (tgt := 75) dX11_leads_71 (by decide) ?_
          exact zj_iret dX11_leads_75 rfl (by decide) h
      · replace h := h.2 c
        refine zj_aload_n dX11_leads_32 rfl rfl ?_
        refine zj_getR (ci := 11) (j := 27) dX11_leads_33 wf_X11_61 (by decide) (by decide) (zk_223 hL) rfl (zr_223_27 hL) ?_
        refine zj_iload_n dX11_leads_36 rfl rfl ?_
        refine zj_iaload dX11_leads_37 (zk_239 hL) (by rw [(zl_239 hL)]; exact h.1) ?_
        replace h := h.2
        refine zj_goto (tgt := 47) dX11_leads_38 (by decide) ?_
        refine zj_istore_n (ls2 := [.ref 223, .int x1, .int x2, .int (v 239 x1.toNatClampNeg)]) dX11_leads_47 rfl (by decide) rfl rfl ?_
        refine zj_aload_n dX11_leads_48 rfl rfl ?_
        refine zj_getR (ci := 11) (j := 29) dX11_leads_49 wf_X11_67 (by decide) (by decide) (zk_223 hL) rfl (zr_223_29 hL) ?_
        refine zj_iload_n dX11_leads_52 rfl rfl ?_
        refine zj_iaload dX11_leads_53 (zk_241 hL) (by rw [(zl_241 hL)]; exact h.1) ?_
        replace h := h.2
        refine zj_aload_n dX11_leads_54 rfl rfl ?_
        refine zj_getR (ci := 11) (j := 28) dX11_leads_55 wf_X11_64 (by decide) (by decide) (zk_223 hL) rfl (zr_223_28 hL) ?_
        refine zj_iload_n dX11_leads_58 rfl rfl ?_
        refine zj_iaload dX11_leads_59 (zk_240 hL) (by rw [(zl_240 hL)]; exact h.1) ?_
        replace h := h.2
        refine zj_iadd dX11_leads_60 ?_
        refine zj_aload_n dX11_leads_61 rfl rfl ?_
        refine zj_getR (ci := 11) (j := 29) dX11_leads_62 wf_X11_67 (by decide) (by decide) (zk_223 hL) rfl (zr_223_29 hL) ?_
        refine zj_iload_n dX11_leads_65 rfl rfl ?_
        refine zj_iaload dX11_leads_66 (zk_241 hL) (by rw [(zl_241 hL)]; exact h.1) ?_
        replace h := h.2
        refine zj_icmp_ne (tgt := 74) dX11_leads_67 (by decide) (fun c => ?_) (fun c => ?_)
        · replace h := h.1 c
          refine zj_iconst (x := 0) dX11_leads_74 rfl ?_
          exact zj_iret dX11_leads_75 rfl (by decide) h
        · replace h := h.2 c
          refine zj_iconst (x := 1) dX11_leads_70 rfl ?_
          refine zj_goto (tgt := 75) dX11_leads_71 (by decide) ?_
          exact zj_iret dX11_leads_75 rfl (by decide) h
    · replace h := h.2 c
      refine zj_iconst (x := 0) dX11_leads_20 rfl ?_
      exact zj_iret dX11_leads_21 rfl (by decide) h
theorem sg_X11_like_0 {G : z_G} {d : Nat} {S : z_Shp} {v : z_Dat} {Q : Option Value → z_Shp → z_Dat → Prop} {x1 : Int32} {x2 : Int32} {x3 : Int32} (hL : z_L S)
    (h : ∀ v1, v1 = z_u v 223 0 0 → (z_J G d mX11_isLike (0, [.ref 223, .int x1, .int x2], [], S, v1) (fun r S1 v2 => ∃ y1 : Int32, r = some (.int y1) ∧ S1 = S ∧ ((y1 = 0 → (Q (some (.int (-1))) S v2)) ∧ (¬ y1 = 0 → (((0 ≤ x3 ∧ x3 ≤ ((v2 224 0) * (v2 224 0))) → ((vp_in ((2 : Int32) + x1) 71) ∧ (z_J G d mX11_likes (0, [.ref 223, .int x1, .int (v2 224 ((2 : Int32) + x1).toNatClampNeg), .int 1, .null, .null, .null], [], S, v2) (fun r S1 v3 => r = none ∧ S1 = S ∧ ((vp_in (((26 : Int32) * x2) + x3) 52) ∧ (Q (some (.int (v3 259 (((26 : Int32) * x2) + x3).toNatClampNeg))) S v3)))))) ∧ (¬ (0 ≤ x3 ∧ x3 ≤ ((v2 224 0) * (v2 224 0))) → (Q (some (.int (-1))) S v2)))))))) :
    z_J G (d + 1) mX11_like (0, [.ref 223, .int x1, .int x2, .int x3], [], S, v) Q := by
  refine zj_aload_n dX11_like_0 rfl rfl ?_
  refine zj_iconst (x := 0) dX11_like_1 rfl ?_
  refine zj_putI (ci := 11) (j := 0) dX11_like_2 wf_X11_1 (by decide) (by decide) (zk_223 hL) rfl rfl rfl rfl (fun v1 ev1 => ?_)
  replace h := h v1 ev1
  refine zj_aload_n dX11_like_5 rfl rfl ?_
  refine zj_iload_n dX11_like_6 rfl rfl ?_
  refine zj_iload_n dX11_like_7 rfl rfl ?_
  refine zj_callV (M' := mX11_isLike) (avs := [.int x1, .int x2]) (st := []) (ci := 11) dX11_like_8 wm_X11_isLike wl_X11_373 wi_X11_isLike ws_X11_isLike (by decide) (zk_223 hL) rfl rfl (by decide) rfl (Nat.le_of_ble_eq_true rfl) (Nat.le_of_ble_eq_true rfl) ⟨Or.inl (z_k0 (zk_223 hL)), trivial⟩ trivial (z_J.mono h (fun r S1 v2 hq => ?_))
  obtain ⟨y1, rfl, rfl, h⟩ := hq
  refine zj_if_eq (tgt := 26) dX11_like_11 (by decide) (fun c => ?_) (fun c => ?_)
  · replace h := h.1 c
    refine zj_iconst (x := (-1)) dX11_like_26 rfl ?_
    exact zj_iret dX11_like_27 rfl rfl h
  · replace h := h.2 c
    refine zj_iload_n dX11_like_14 rfl rfl ?_
    refine zj_iconst (x := 0) dX11_like_15 rfl ?_
    refine zj_aload_n dX11_like_16 rfl rfl ?_
    refine zj_callV (M' := mX11_qubits) (avs := []) (st := [.int 0, .int x3]) (ci := 11) dX11_like_17 wm_X11_qubits wl_X11_148 wi_X11_qubits ws_X11_qubits (by decide) (zk_223 hL) rfl rfl (by decide) rfl (Nat.le_of_ble_eq_true rfl) (Nat.le_of_ble_eq_true rfl) ⟨Or.inl (z_k0 (zk_223 hL)), trivial⟩ trivial (hp_X11_qubits hL ?_)
    refine zj_callS (M' := mX11_isIn) (avs := [.int x3, .int 0, .int ((v2 224 0) * (v2 224 0))]) (st := []) dX11_like_20 wm_X11_isIn wl_X11_144 wt_X11_isIn rfl (by decide) rfl (Nat.le_of_ble_eq_true rfl) (Nat.le_of_ble_eq_true rfl) ⟨Or.inl (z_k0 (zk_223 hL)), trivial⟩ trivial (hp_X11_isIn (fun c => ?_) (fun c => ?_))
    · replace h := h.1 c
      refine zj_if_ne (tgt := 28) dX11_like_23 (by decide) (fun _ => ?_) (fun q => absurd q (by decide))
      refine zj_aload_n dX11_like_28 rfl rfl ?_
      refine zj_iload_n dX11_like_29 rfl rfl ?_
      refine zj_aload_n dX11_like_30 rfl rfl ?_
      refine zj_getR (ci := 11) (j := 1) dX11_like_31 wf_X11_13 (by decide) (by decide) (zk_223 hL) rfl (zr_223_1 hL) ?_
      refine zj_iconst (x := 2) dX11_like_34 rfl ?_
      refine zj_iload_n dX11_like_35 rfl rfl ?_
      refine zj_iadd dX11_like_36 ?_
      refine zj_iaload dX11_like_37 (zk_224 hL) (by rw [(zl_224 hL)]; exact h.1) ?_
      replace h := h.2
      refine zj_iconst (x := 1) dX11_like_38 rfl ?_
      refine zj_callV (M' := mX11_likes) (avs := [.int x1, .int (v2 224 ((2 : Int32) + x1).toNatClampNeg), .int 1]) (st := []) (ci := 11) dX11_like_39 wm_X11_likes wl_X11_376 wi_X11_likes ws_X11_likes (by decide) (zk_223 hL) rfl rfl (by decide) rfl (Nat.le_of_ble_eq_true rfl) (Nat.le_of_ble_eq_true rfl) ⟨Or.inl (z_k0 (zk_223 hL)), trivial⟩ trivial (z_J.mono h (fun r S1 v3 hq => ?_))
      obtain ⟨rfl, rfl, h⟩ := hq
      refine zj_aload_n dX11_like_42 rfl rfl ?_
      refine zj_getR (ci := 11) (j := 58) dX11_like_43 wf_X11_121 (by decide) (by decide) (zk_223 hL) rfl (zr_223_58 hL) ?_
      refine zj_bipush (x := 26) dX11_like_46 rfl ?_
      refine zj_iload_n dX11_like_48 rfl rfl ?_
      refine zj_imul dX11_like_49 ?_
      refine zj_iload_n dX11_like_50 rfl rfl ?_
      refine zj_iadd dX11_like_51 ?_
      refine zj_iaload dX11_like_52 (zk_259 hL) (by rw [(zl_259 hL)]; exact h.1) ?_
      replace h := h.2
      exact zj_iret dX11_like_53 rfl rfl h
    · replace h := h.2 c
      refine zj_if_ne (tgt := 28) dX11_like_23 (by decide) (fun q => absurd (by decide) q) (fun _ => ?_)
      refine zj_iconst (x := (-1)) dX11_like_26 rfl ?_
      exact zj_iret dX11_like_27 rfl rfl h
theorem sg_X11_likes_0 {G : z_G} {d : Nat} {S : z_Shp} {v : z_Dat} {Q : Option Value → z_Shp → z_Dat → Prop} {x1 : Int32} {x2 : Int32} {x3 : Int32}
    (h : z_J G d mX11_likes (3, [.ref 223, .int x1, .int x2, .int x3, .int 0, .null, .null], [], S, v) Q) :
    z_J G d mX11_likes (0, [.ref 223, .int x1, .int x2, .int x3, .null, .null, .null], [], S, v) Q := by
  refine zj_iconst (x := 0) dX11_likes_0 rfl ?_
  refine zj_istore (ls2 := [.ref 223, .int x1, .int x2, .int x3, .int 0, .null, .null]) dX11_likes_1 (by decide) rfl rfl ?_
  exact h
theorem sg_X11_likes_3 {G : z_G} {d : Nat} {S : z_Shp} {v : z_Dat} {Q : Option Value → z_Shp → z_Dat → Prop} {x1 : Int32} {x2 : Int32} {x3 : Int32} {x4 : Int32} (hL : z_L S)
    (h : (52 ≤ x4 → ((x3 = 0 → (∀ v1, v1 = z_u v 223 59 x2 → (∀ v2, v2 = z_u v1 223 60 x2 → (z_J G d mX11_weightOf (0, [.ref 223, .int x2, .null, .null], [], S, v2) (fun r S1 v3 => ∃ y1 : Int32, r = some (.int y1) ∧ S1 = S ∧ (∀ v4, v4 = z_u v3 223 61 y1 → (z_J G (d + 1) mX11_likes (62, [.ref 223, .int x1, .int x2, .int x3, .int ((v 223 14) + 0), .int 0, .null], [], S, v4) Q))))))) ∧ (¬ x3 = 0 → (∀ v5, v5 = z_u v 223 59 x2 → (∀ v6, v6 = z_u v5 223 60 x2 → (z_J G d mX11_weightOf (0, [.ref 223, .int x2, .null, .null], [], S, v6) (fun r S1 v7 => ∃ y2 : Int32, r = some (.int y2) ∧ S1 = S ∧ (∀ v8, v8 = z_u v7 223 61 y2 → (z_J G (d + 1) mX11_likes (62, [.ref 223, .int x1, .int x2, .int x3, .int ((v 223 14) + 1), .int 0, .null], [], S, v8) Q))))))))) ∧ (¬ 52 ≤ x4 → (vp_in x4 52 ∧ (∀ v9, v9 = z_u v 259 x4.toNatClampNeg 0 → (z_J G (d + 1) mX11_likes (3, [.ref 223, .int x1, .int x2, .int x3, .int (x4 + 1), .null, .null], [], S, v9) Q))))) :
    z_J G (d + 1) mX11_likes (3, [.ref 223, .int x1, .int x2, .int x3, .int x4, .null, .null], [], S, v) Q := by
  refine zj_iload dX11_likes_3 rfl ?_
  refine zj_bipush (x := 52) dX11_likes_5 rfl ?_
  refine zj_icmp_ge (tgt := 24) dX11_likes_7 (by decide) (fun c => ?_) (fun c => ?_)
  · replace h := h.1 c
    refine zj_aload_n dX11_likes_24 rfl rfl ?_
    refine zj_getI (ci := 11) (j := 14) dX11_likes_25 wf_X11_151 (by decide) (by decide) (zk_223 hL) rfl ?_
    refine zj_iload_n dX11_likes_28 rfl rfl ?_
    refine zj_if_eq (tgt := 36) dX11_likes_29 (by decide) (fun c => ?_) (fun c => ?_)
    · replace h := h.1 c
      refine zj_iconst (x := 0) dX11_likes_36 rfl ?_
      refine zj_iadd dX11_likes_37 ?_
      refine zj_istore (ls2 := [.ref 223, .int x1, .int x2, .int x3, .int ((v 223 14) + 0), .null, .null]) dX11_likes_38 (by decide) rfl rfl ?_
      refine zj_aload_n dX11_likes_40 rfl rfl ?_
      refine zj_iload_n dX11_likes_41 rfl rfl ?_
      refine zj_putI (ci := 11) (j := 59) dX11_likes_42 wf_X11_355 (by decide) (by decide) (zk_223 hL) rfl rfl rfl rfl (fun v1 ev1 => ?_)
      replace h := h v1 ev1
      refine zj_aload_n dX11_likes_45 rfl rfl ?_
      refine zj_iload_n dX11_likes_46 rfl rfl ?_
      refine zj_putI (ci := 11) (j := 60) dX11_likes_47 wf_X11_358 (by decide) (by decide) (zk_223 hL) rfl rfl rfl rfl (fun v2 ev2 => ?_)
      replace h := h v2 ev2
      refine zj_aload_n dX11_likes_50 rfl rfl ?_
      refine zj_aload_n dX11_likes_51 rfl rfl ?_
      refine zj_iload_n dX11_likes_52 rfl rfl ?_
      refine zj_callV (M' := mX11_weightOf) (avs := [.int x2]) (st := [.ref 223]) (ci := 11) dX11_likes_53 wm_X11_weightOf wl_X11_361 wi_X11_weightOf ws_X11_weightOf (by decide) (zk_223 hL) rfl rfl (by decide) rfl (Nat.le_of_ble_eq_true rfl) (Nat.le_of_ble_eq_true rfl) ⟨Or.inl (z_k0 (zk_223 hL)), trivial⟩ ⟨Or.inl (z_k0 (zk_223 hL)), trivial⟩ (z_J.mono h (fun r S1 v3 hq => ?_))
      obtain ⟨y1, rfl, rfl, h⟩ := hq
      refine zj_putI (ci := 11) (j := 61) dX11_likes_56 wf_X11_364 (by decide) (by decide) (zk_223 hL) rfl rfl rfl rfl (fun v4 ev4 => ?_)
      replace h := h v4 ev4
      refine zj_iconst (x := 0) dX11_likes_59 rfl ?_
      refine zj_istore (ls2 := [.ref 223, .int x1, .int x2, .int x3, .int ((v 223 14) + 0), .int 0, .null]) dX11_likes_60 (by decide) rfl rfl ?_
      exact h
    · replace h := h.2 c
      refine zj_iconst (x := 1) dX11_likes_32 rfl ?_
      refine zj_goto (tgt := 37) dX11_likes_33 (by decide) ?_
      refine zj_iadd dX11_likes_37 ?_
      refine zj_istore (ls2 := [.ref 223, .int x1, .int x2, .int x3, .int ((v 223 14) + 1), .null, .null]) dX11_likes_38 (by decide) rfl rfl ?_
      refine zj_aload_n dX11_likes_40 rfl rfl ?_
      refine zj_iload_n dX11_likes_41 rfl rfl ?_
      refine zj_putI (ci := 11) (j := 59) dX11_likes_42 wf_X11_355 (by decide) (by decide) (zk_223 hL) rfl rfl rfl rfl (fun v5 ev5 => ?_)
      replace h := h v5 ev5
      refine zj_aload_n dX11_likes_45 rfl rfl ?_
      refine zj_iload_n dX11_likes_46 rfl rfl ?_
      refine zj_putI (ci := 11) (j := 60) dX11_likes_47 wf_X11_358 (by decide) (by decide) (zk_223 hL) rfl rfl rfl rfl (fun v6 ev6 => ?_)
      replace h := h v6 ev6
      refine zj_aload_n dX11_likes_50 rfl rfl ?_
      refine zj_aload_n dX11_likes_51 rfl rfl ?_
      refine zj_iload_n dX11_likes_52 rfl rfl ?_
      refine zj_callV (M' := mX11_weightOf) (avs := [.int x2]) (st := [.ref 223]) (ci := 11) dX11_likes_53 wm_X11_weightOf wl_X11_361 wi_X11_weightOf ws_X11_weightOf (by decide) (zk_223 hL) rfl rfl (by decide) rfl (Nat.le_of_ble_eq_true rfl) (Nat.le_of_ble_eq_true rfl) ⟨Or.inl (z_k0 (zk_223 hL)), trivial⟩ ⟨Or.inl (z_k0 (zk_223 hL)), trivial⟩ (z_J.mono h (fun r S1 v7 hq => ?_))
      obtain ⟨y2, rfl, rfl, h⟩ := hq
      refine zj_putI (ci := 11) (j := 61) dX11_likes_56 wf_X11_364 (by decide) (by decide) (zk_223 hL) rfl rfl rfl rfl (fun v8 ev8 => ?_)
      replace h := h v8 ev8
      refine zj_iconst (x := 0) dX11_likes_59 rfl ?_
      refine zj_istore (ls2 := [.ref 223, .int x1, .int x2, .int x3, .int ((v 223 14) + 1), .int 0, .null]) dX11_likes_60 (by decide) rfl rfl ?_
      exact h
  · replace h := h.2 c
    refine zj_aload_n dX11_likes_10 rfl rfl ?_
    refine zj_getR (ci := 11) (j := 58) dX11_likes_11 wf_X11_121 (by decide) (by decide) (zk_223 hL) rfl (zr_223_58 hL) ?_
    refine zj_iload dX11_likes_14 rfl ?_
    refine zj_iconst (x := 0) dX11_likes_16 rfl ?_
    refine zj_iastore dX11_likes_17 (zk_259 hL) (by rw [(zl_259 hL)]; exact h.1) (fun v9 ev9 => ?_)
    replace h := h.2 v9 ev9
    refine zj_iinc (y := x4 + 1) (ls2 := [.ref 223, .int x1, .int x2, .int x3, .int (x4 + 1), .null, .null]) dX11_likes_18 rfl rfl (by decide) rfl rfl ?_
    refine zj_goto (tgt := 3) dX11_likes_21 (by decide) ?_
    exact h
theorem sg_X11_likes_62 {G : z_G} {d : Nat} {S : z_Shp} {v : z_Dat} {Q : Option Value → z_Shp → z_Dat → Prop} {x1 : Int32} {x2 : Int32} {x3 : Int32} {x4 : Int32} {x5 : Int32} (hL : z_L S)
    (h : (((1 : Int32) <<< (x4 &&& 31)) ≤ x5 → (Q none S v)) ∧ (¬ ((1 : Int32) <<< (x4 &&& 31)) ≤ x5 → ((x5 ≤ 0 → (z_J G d mX11_logical (0, [.ref 223, .int x1, .int (v 223 59)], [], S, v) (fun r S1 v1 => ∃ y1 : Int32, r = some (.int y1) ∧ S1 = S ∧ ((vp_in (((26 : Int32) * y1) + (z_pc (v1 223 59))) 52) ∧ (vp_in (((26 : Int32) * y1) + (z_pc (v1 223 59))) 52 ∧ (∀ v2, v2 = z_u v1 259 (((26 : Int32) * y1) + (z_pc (v1 223 59))).toNatClampNeg ((v1 259 (((26 : Int32) * y1) + (z_pc (v1 223 59))).toNatClampNeg) + 1) → (z_J G d mX11_weightOf (0, [.ref 223, .int (v2 223 59), .null, .null], [], S, v2) (fun r S1 v3 => ∃ y2 : Int32, r = some (.int y2) ∧ S1 = S ∧ (((v3 223 61) < y2 → (z_J G (d + 1) mX11_likes (62, [.ref 223, .int x1, .int x2, .int x3, .int x4, .int (x5 + 1), .null], [], S, v3) Q)) ∧ (¬ (v3 223 61) < y2 → ((¬ y2 = (v3 223 61) → (∀ v4, v4 = z_u v3 223 61 y2 → (∀ v5, v5 = z_u v4 223 60 (v4 223 59) → (z_J G (d + 1) mX11_likes (62, [.ref 223, .int x1, .int x2, .int x3, .int x4, .int (x5 + 1), .null], [], S, v5) Q)))) ∧ (y2 = (v3 223 61) → (((v3 223 59) ≤ (v3 223 60) → (∀ v6, v6 = z_u v3 223 61 y2 → (∀ v7, v7 = z_u v6 223 60 (v6 223 59) → (z_J G (d + 1) mX11_likes (62, [.ref 223, .int x1, .int x2, .int x3, .int x4, .int (x5 + 1), .null], [], S, v7) Q)))) ∧ (¬ (v3 223 59) ≤ (v3 223 60) → (z_J G (d + 1) mX11_likes (62, [.ref 223, .int x1, .int x2, .int x3, .int x4, .int (x5 + 1), .null], [], S, v3) Q))))))))))))))) ∧ (¬ x5 ≤ 0 → (z_J G d mX11_lowest (0, [.int x5, .null], [], S, v) (fun r S1 v8 => ∃ y3 : Int32, r = some (.int y3) ∧ S1 = S ∧ ((¬ y3 = (v8 223 14) → ((vp_in (((12 : Int32) * ((1 : Int32) - x1)) + y3) 24) ∧ (∀ v9, v9 = z_u v8 223 59 ((v8 223 59) ^^^ (v8 232 (((12 : Int32) * ((1 : Int32) - x1)) + y3).toNatClampNeg)) → (z_J G d mX11_logical (0, [.ref 223, .int x1, .int (v9 223 59)], [], S, v9) (fun r S1 v10 => ∃ y4 : Int32, r = some (.int y4) ∧ S1 = S ∧ ((vp_in (((26 : Int32) * y4) + (z_pc (v10 223 59))) 52) ∧ (vp_in (((26 : Int32) * y4) + (z_pc (v10 223 59))) 52 ∧ (∀ v11, v11 = z_u v10 259 (((26 : Int32) * y4) + (z_pc (v10 223 59))).toNatClampNeg ((v10 259 (((26 : Int32) * y4) + (z_pc (v10 223 59))).toNatClampNeg) + 1) → (z_J G d mX11_weightOf (0, [.ref 223, .int (v11 223 59), .null, .null], [], S, v11) (fun r S1 v12 => ∃ y5 : Int32, r = some (.int y5) ∧ S1 = S ∧ (((v12 223 61) < y5 → (z_J G (d + 1) mX11_likes (62, [.ref 223, .int x1, .int x2, .int x3, .int x4, .int (x5 + 1), .null], [], S, v12) Q)) ∧ (¬ (v12 223 61) < y5 → ((¬ y5 = (v12 223 61) → (∀ v13, v13 = z_u v12 223 61 y5 → (∀ v14, v14 = z_u v13 223 60 (v13 223 59) → (z_J G (d + 1) mX11_likes (62, [.ref 223, .int x1, .int x2, .int x3, .int x4, .int (x5 + 1), .null], [], S, v14) Q)))) ∧ (y5 = (v12 223 61) → (((v12 223 59) ≤ (v12 223 60) → (∀ v15, v15 = z_u v12 223 61 y5 → (∀ v16, v16 = z_u v15 223 60 (v15 223 59) → (z_J G (d + 1) mX11_likes (62, [.ref 223, .int x1, .int x2, .int x3, .int x4, .int (x5 + 1), .null], [], S, v16) Q)))) ∧ (¬ (v12 223 59) ≤ (v12 223 60) → (z_J G (d + 1) mX11_likes (62, [.ref 223, .int x1, .int x2, .int x3, .int x4, .int (x5 + 1), .null], [], S, v12) Q))))))))))))))))) ∧ (y3 = (v8 223 14) → (z_J G d mX11_chainOf (0, [.ref 223, .int x1], [], S, v8) (fun r S1 v17 => ∃ y6 : Int32, r = some (.int y6) ∧ S1 = S ∧ (∀ v18, v18 = z_u v17 223 59 ((v8 223 59) ^^^ y6) → (z_J G d mX11_logical (0, [.ref 223, .int x1, .int (v18 223 59)], [], S, v18) (fun r S1 v19 => ∃ y7 : Int32, r = some (.int y7) ∧ S1 = S ∧ ((vp_in (((26 : Int32) * y7) + (z_pc (v19 223 59))) 52) ∧ (vp_in (((26 : Int32) * y7) + (z_pc (v19 223 59))) 52 ∧ (∀ v20, v20 = z_u v19 259 (((26 : Int32) * y7) + (z_pc (v19 223 59))).toNatClampNeg ((v19 259 (((26 : Int32) * y7) + (z_pc (v19 223 59))).toNatClampNeg) + 1) → (z_J G d mX11_weightOf (0, [.ref 223, .int (v20 223 59), .null, .null], [], S, v20) (fun r S1 v21 => ∃ y8 : Int32, r = some (.int y8) ∧ S1 = S ∧ (((v21 223 61) < y8 → (z_J G (d + 1) mX11_likes (62, [.ref 223, .int x1, .int x2, .int x3, .int x4, .int (x5 + 1), .null], [], S, v21) Q)) ∧ (¬ (v21 223 61) < y8 → ((¬ y8 = (v21 223 61) → (∀ v22, v22 = z_u v21 223 61 y8 → (∀ v23, v23 = z_u v22 223 60 (v22 223 59) → (z_J G (d + 1) mX11_likes (62, [.ref 223, .int x1, .int x2, .int x3, .int x4, .int (x5 + 1), .null], [], S, v23) Q)))) ∧ (y8 = (v21 223 61) → (((v21 223 59) ≤ (v21 223 60) → (∀ v24, v24 = z_u v21 223 61 y8 → (∀ v25, v25 = z_u v24 223 60 (v24 223 59) → (z_J G (d + 1) mX11_likes (62, [.ref 223, .int x1, .int x2, .int x3, .int x4, .int (x5 + 1), .null], [], S, v25) Q)))) ∧ (¬ (v21 223 59) ≤ (v21 223 60) → (z_J G (d + 1) mX11_likes (62, [.ref 223, .int x1, .int x2, .int x3, .int x4, .int (x5 + 1), .null], [], S, v21) Q))))))))))))))))))))))))) :
    z_J G (d + 1) mX11_likes (62, [.ref 223, .int x1, .int x2, .int x3, .int x4, .int x5, .null], [], S, v) Q := by
  refine zj_iload dX11_likes_62 rfl ?_
  refine zj_iconst (x := 1) dX11_likes_64 rfl ?_
  refine zj_iload dX11_likes_65 rfl ?_
  refine zj_ishl dX11_likes_67 ?_
  refine zj_icmp_ge (tgt := 214) dX11_likes_68 (by decide) (fun c => ?_) (fun c => ?_)
  · replace h := h.1 c
    exact zj_vret dX11_likes_214 rfl h
  · replace h := h.2 c
    refine zj_iload dX11_likes_71 rfl ?_
    refine zj_if_le (tgt := 123) dX11_likes_73 (by decide) (fun c => ?_) (fun c => ?_)
    · replace h := h.1 c
      refine zj_aload_n dX11_likes_123 rfl rfl ?_
      refine zj_getR (ci := 11) (j := 58) dX11_likes_124 wf_X11_121 (by decide) (by decide) (zk_223 hL) rfl (zr_223_58 hL) ?_
      refine zj_bipush (x := 26) dX11_likes_127 rfl ?_
      refine zj_aload_n dX11_likes_129 rfl rfl ?_
      refine zj_iload_n dX11_likes_130 rfl rfl ?_
      refine zj_aload_n dX11_likes_131 rfl rfl ?_
      refine zj_getI (ci := 11) (j := 59) dX11_likes_132 wf_X11_355 (by decide) (by decide) (zk_223 hL) rfl ?_
      refine zj_callV (M' := mX11_logical) (avs := [.int x1, .int (v 223 59)]) (st := [.int 26, .ref 259]) (ci := 11) dX11_likes_135 wm_X11_logical wl_X11_370 wi_X11_logical ws_X11_logical (by decide) (zk_223 hL) rfl rfl (by decide) rfl (Nat.le_of_ble_eq_true rfl) (Nat.le_of_ble_eq_true rfl) ⟨Or.inl (z_k0 (zk_223 hL)), trivial⟩ ⟨Or.inl (z_k0 (zk_259 hL)), trivial⟩ (z_J.mono h (fun r S1 v1 hq => ?_))
      obtain ⟨y1, rfl, rfl, h⟩ := hq
      refine zj_imul dX11_likes_138 ?_
      refine zj_aload_n dX11_likes_139 rfl rfl ?_
      refine zj_getI (ci := 11) (j := 59) dX11_likes_140 wf_X11_355 (by decide) (by decide) (zk_223 hL) rfl ?_
      refine zj_callS (M' := mX11_bits) (avs := [.int (v1 223 59)]) (st := [.int ((26 : Int32) * y1), .ref 259]) dX11_likes_143 wm_X11_bits wl_X11_169 wt_X11_bits rfl (by decide) rfl (Nat.le_of_ble_eq_true rfl) (Nat.le_of_ble_eq_true rfl) ⟨Or.inl (z_k0 (zk_223 hL)), trivial⟩ ⟨Or.inl (z_k0 (zk_259 hL)), trivial⟩ (hp_X11_bits ?_)
      refine zj_iadd dX11_likes_146 ?_
      refine zj_dup2 dX11_likes_147 rfl rfl ?_
      refine zj_iaload dX11_likes_148 (zk_259 hL) (by rw [(zl_259 hL)]; exact h.1) ?_
      replace h := h.2
      refine zj_iconst (x := 1) dX11_likes_149 rfl ?_
      refine zj_iadd dX11_likes_150 ?_
      refine zj_iastore dX11_likes_151 (zk_259 hL) (by rw [(zl_259 hL)]; exact h.1) (fun v2 ev2 => ?_)
      replace h := h.2 v2 ev2
      refine zj_aload_n dX11_likes_152 rfl rfl ?_
      refine zj_aload_n dX11_likes_153 rfl rfl ?_
      refine zj_getI (ci := 11) (j := 59) dX11_likes_154 wf_X11_355 (by decide) (by decide) (zk_223 hL) rfl ?_
      refine zj_callV (M' := mX11_weightOf) (avs := [.int (v2 223 59)]) (st := []) (ci := 11) dX11_likes_157 wm_X11_weightOf wl_X11_361 wi_X11_weightOf ws_X11_weightOf (by decide) (zk_223 hL) rfl rfl (by decide) rfl (Nat.le_of_ble_eq_true rfl) (Nat.le_of_ble_eq_true rfl) ⟨Or.inl (z_k0 (zk_223 hL)), trivial⟩ trivial (z_J.mono h (fun r S1 v3 hq => ?_))
      obtain ⟨y2, rfl, rfl, h⟩ := hq
      refine zj_istore (ls2 := [.ref 223, .int x1, .int x2, .int x3, .int x4, .int x5, .int y2]) dX11_likes_160 (by decide) rfl rfl ?_
      refine zj_iload dX11_likes_162 rfl ?_
      refine zj_aload_n dX11_likes_164 rfl rfl ?_
      refine zj_getI (ci := 11) (j := 61) dX11_likes_165 wf_X11_364 (by decide) (by decide) (zk_223 hL) rfl ?_
      refine zj_icmp_gt (tgt := 208) dX11_likes_168 (by decide) (fun c => ?_) (fun c => ?_)
      · replace h := h.1 c
        refine zj_iinc (y := x5 + 1) (ls2 := [.ref 223, .int x1, .int x2, .int x3, .int x4, .int (x5 + 1), .int y2]) dX11_likes_208 rfl rfl (by decide) rfl rfl ?_
        refine zj_goto (tgt := 62) dX11_likes_211 (by decide) ?_
        refine zj_forget (ls2 := [.ref 223, .int x1, .int x2, .int x3, .int x4, .int (x5 + 1), .null]) ⟨Or.inr rfl, Or.inr rfl, Or.inr rfl, Or.inr rfl, Or.inr rfl, Or.inr rfl, Or.inl rfl, trivial⟩ ?_
        exact h
      · replace h := h.2 c
        refine zj_iload dX11_likes_171 rfl ?_
        refine zj_aload_n dX11_likes_173 rfl rfl ?_
        refine zj_getI (ci := 11) (j := 61) dX11_likes_174 wf_X11_364 (by decide) (by decide) (zk_223 hL) rfl ?_
        refine zj_icmp_ne (tgt := 194) dX11_likes_177 (by decide) (fun c => ?_) (fun c => ?_)
        · replace h := h.1 c
          refine zj_aload_n dX11_likes_194 rfl rfl ?_
          refine zj_iload dX11_likes_195 rfl ?_
          refine zj_putI (ci := 11) (j := 61) dX11_likes_197 wf_X11_364 (by decide) (by decide) (zk_223 hL) rfl rfl rfl rfl (fun v4 ev4 => ?_)
          replace h := h v4 ev4
          refine zj_aload_n dX11_likes_200 rfl rfl ?_
          refine zj_aload_n dX11_likes_201 rfl rfl ?_
          refine zj_getI (ci := 11) (j := 59) dX11_likes_202 wf_X11_355 (by decide) (by decide) (zk_223 hL) rfl ?_
          refine zj_putI (ci := 11) (j := 60) dX11_likes_205 wf_X11_358 (by decide) (by decide) (zk_223 hL) rfl rfl rfl rfl (fun v5 ev5 => ?_)
          replace h := h v5 ev5
          refine zj_iinc (y := x5 + 1) (ls2 := [.ref 223, .int x1, .int x2, .int x3, .int x4, .int (x5 + 1), .int y2]) dX11_likes_208 rfl rfl (by decide) rfl rfl ?_
          refine zj_goto (tgt := 62) dX11_likes_211 (by decide) ?_
          refine zj_forget (ls2 := [.ref 223, .int x1, .int x2, .int x3, .int x4, .int (x5 + 1), .null]) ⟨Or.inr rfl, Or.inr rfl, Or.inr rfl, Or.inr rfl, Or.inr rfl, Or.inr rfl, Or.inl rfl, trivial⟩ ?_
          exact h
        · replace h := h.2 c
          refine zj_aload_n dX11_likes_180 rfl rfl ?_
          refine zj_getI (ci := 11) (j := 59) dX11_likes_181 wf_X11_355 (by decide) (by decide) (zk_223 hL) rfl ?_
          refine zj_aload_n dX11_likes_184 rfl rfl ?_
          refine zj_getI (ci := 11) (j := 60) dX11_likes_185 wf_X11_358 (by decide) (by decide) (zk_223 hL) rfl ?_
          refine zj_icmp_le (tgt := 194) dX11_likes_188 (by decide) (fun c => ?_) (fun c => ?_)
          · replace h := h.1 c
            refine zj_aload_n dX11_likes_194 rfl rfl ?_
            refine zj_iload dX11_likes_195 rfl ?_
            refine zj_putI (ci := 11) (j := 61) dX11_likes_197 wf_X11_364 (by decide) (by decide) (zk_223 hL) rfl rfl rfl rfl (fun v6 ev6 => ?_)
            replace h := h v6 ev6
            refine zj_aload_n dX11_likes_200 rfl rfl ?_
            refine zj_aload_n dX11_likes_201 rfl rfl ?_
            refine zj_getI (ci := 11) (j := 59) dX11_likes_202 wf_X11_355 (by decide) (by decide) (zk_223 hL) rfl ?_
            refine zj_putI (ci := 11) (j := 60) dX11_likes_205 wf_X11_358 (by decide) (by decide) (zk_223 hL) rfl rfl rfl rfl (fun v7 ev7 => ?_)
            replace h := h v7 ev7
            refine zj_iinc (y := x5 + 1) (ls2 := [.ref 223, .int x1, .int x2, .int x3, .int x4, .int (x5 + 1), .int y2]) dX11_likes_208 rfl rfl (by decide) rfl rfl ?_
            refine zj_goto (tgt := 62) dX11_likes_211 (by decide) ?_
            refine zj_forget (ls2 := [.ref 223, .int x1, .int x2, .int x3, .int x4, .int (x5 + 1), .null]) ⟨Or.inr rfl, Or.inr rfl, Or.inr rfl, Or.inr rfl, Or.inr rfl, Or.inr rfl, Or.inl rfl, trivial⟩ ?_
            exact h
          · replace h := h.2 c
            refine zj_goto (tgt := 208) dX11_likes_191 (by decide) ?_
            refine zj_iinc (y := x5 + 1) (ls2 := [.ref 223, .int x1, .int x2, .int x3, .int x4, .int (x5 + 1), .int y2]) dX11_likes_208 rfl rfl (by decide) rfl rfl ?_
            refine zj_goto (tgt := 62) dX11_likes_211 (by decide) ?_
            refine zj_forget (ls2 := [.ref 223, .int x1, .int x2, .int x3, .int x4, .int (x5 + 1), .null]) ⟨Or.inr rfl, Or.inr rfl, Or.inr rfl, Or.inr rfl, Or.inr rfl, Or.inr rfl, Or.inl rfl, trivial⟩ ?_
            exact h
    · replace h := h.2 c
      refine zj_iload dX11_likes_76 rfl ?_
      refine zj_callS (M' := mX11_lowest) (avs := [.int x5]) (st := []) dX11_likes_78 wm_X11_lowest wl_X11_292 wt_X11_lowest rfl (by decide) rfl (Nat.le_of_ble_eq_true rfl) (Nat.le_of_ble_eq_true rfl) ⟨Or.inl (z_k0 (zk_223 hL)), trivial⟩ trivial (z_J.mono h (fun r S1 v8 hq => ?_))
      obtain ⟨y3, rfl, rfl, h⟩ := hq
      refine zj_istore (ls2 := [.ref 223, .int x1, .int x2, .int x3, .int x4, .int x5, .int y3]) dX11_likes_81 (by decide) rfl rfl ?_
      refine zj_aload_n dX11_likes_83 rfl rfl ?_
      refine zj_dup dX11_likes_84 rfl ?_
      refine zj_getI (ci := 11) (j := 59) dX11_likes_85 wf_X11_355 (by decide) (by decide) (zk_223 hL) rfl ?_
      refine zj_iload dX11_likes_88 rfl ?_
      refine zj_aload_n dX11_likes_90 rfl rfl ?_
      refine zj_getI (ci := 11) (j := 14) dX11_likes_91 wf_X11_151 (by decide) (by decide) (zk_223 hL) rfl ?_
      refine zj_icmp_ne (tgt := 105) dX11_likes_94 (by decide) (fun c => ?_) (fun c => ?_)
      · replace h := h.1 c
        refine zj_aload_n dX11_likes_105 rfl rfl ?_
        refine zj_getR (ci := 11) (j := 12) dX11_likes_106 wf_X11_40 (by decide) (by decide) (zk_223 hL) rfl (zr_223_12 hL) ?_
        refine zj_bipush (x := 12) dX11_likes_109 rfl ?_
        refine zj_iconst (x := 1) dX11_likes_111 rfl ?_
        refine zj_iload_n dX11_likes_112 rfl rfl ?_
        refine zj_isub dX11_likes_113 ?_
        refine zj_imul dX11_likes_114 ?_
        refine zj_iload dX11_likes_115 rfl ?_
        refine zj_iadd dX11_likes_117 ?_
        refine zj_iaload dX11_likes_118 (zk_232 hL) (by rw [(zl_232 hL)]; exact h.1) ?_
        replace h := h.2
        refine zj_ixor dX11_likes_119 ?_
        refine zj_putI (ci := 11) (j := 59) dX11_likes_120 wf_X11_355 (by decide) (by decide) (zk_223 hL) rfl rfl rfl rfl (fun v9 ev9 => ?_)
        replace h := h v9 ev9
        refine zj_aload_n dX11_likes_123 rfl rfl ?_
        refine zj_getR (ci := 11) (j := 58) dX11_likes_124 wf_X11_121 (by decide) (by decide) (zk_223 hL) rfl (zr_223_58 hL) ?_
        refine zj_bipush (x := 26) dX11_likes_127 rfl ?_
        refine zj_aload_n dX11_likes_129 rfl rfl ?_
        refine zj_iload_n dX11_likes_130 rfl rfl ?_
        refine zj_aload_n dX11_likes_131 rfl rfl ?_
        refine zj_getI (ci := 11) (j := 59) dX11_likes_132 wf_X11_355 (by decide) (by decide) (zk_223 hL) rfl ?_
        refine zj_callV (M' := mX11_logical) (avs := [.int x1, .int (v9 223 59)]) (st := [.int 26, .ref 259]) (ci := 11) dX11_likes_135 wm_X11_logical wl_X11_370 wi_X11_logical ws_X11_logical (by decide) (zk_223 hL) rfl rfl (by decide) rfl (Nat.le_of_ble_eq_true rfl) (Nat.le_of_ble_eq_true rfl) ⟨Or.inl (z_k0 (zk_223 hL)), trivial⟩ ⟨Or.inl (z_k0 (zk_259 hL)), trivial⟩ (z_J.mono h (fun r S1 v10 hq => ?_))
        obtain ⟨y4, rfl, rfl, h⟩ := hq
        refine zj_imul dX11_likes_138 ?_
        refine zj_aload_n dX11_likes_139 rfl rfl ?_
        refine zj_getI (ci := 11) (j := 59) dX11_likes_140 wf_X11_355 (by decide) (by decide) (zk_223 hL) rfl ?_
        refine zj_callS (M' := mX11_bits) (avs := [.int (v10 223 59)]) (st := [.int ((26 : Int32) * y4), .ref 259]) dX11_likes_143 wm_X11_bits wl_X11_169 wt_X11_bits rfl (by decide) rfl (Nat.le_of_ble_eq_true rfl) (Nat.le_of_ble_eq_true rfl) ⟨Or.inl (z_k0 (zk_223 hL)), trivial⟩ ⟨Or.inl (z_k0 (zk_259 hL)), trivial⟩ (hp_X11_bits ?_)
        refine zj_iadd dX11_likes_146 ?_
        refine zj_dup2 dX11_likes_147 rfl rfl ?_
        refine zj_iaload dX11_likes_148 (zk_259 hL) (by rw [(zl_259 hL)]; exact h.1) ?_
        replace h := h.2
        refine zj_iconst (x := 1) dX11_likes_149 rfl ?_
        refine zj_iadd dX11_likes_150 ?_
        refine zj_iastore dX11_likes_151 (zk_259 hL) (by rw [(zl_259 hL)]; exact h.1) (fun v11 ev11 => ?_)
        replace h := h.2 v11 ev11
        refine zj_aload_n dX11_likes_152 rfl rfl ?_
        refine zj_aload_n dX11_likes_153 rfl rfl ?_
        refine zj_getI (ci := 11) (j := 59) dX11_likes_154 wf_X11_355 (by decide) (by decide) (zk_223 hL) rfl ?_
        refine zj_callV (M' := mX11_weightOf) (avs := [.int (v11 223 59)]) (st := []) (ci := 11) dX11_likes_157 wm_X11_weightOf wl_X11_361 wi_X11_weightOf ws_X11_weightOf (by decide) (zk_223 hL) rfl rfl (by decide) rfl (Nat.le_of_ble_eq_true rfl) (Nat.le_of_ble_eq_true rfl) ⟨Or.inl (z_k0 (zk_223 hL)), trivial⟩ trivial (z_J.mono h (fun r S1 v12 hq => ?_))
        obtain ⟨y5, rfl, rfl, h⟩ := hq
        refine zj_istore (ls2 := [.ref 223, .int x1, .int x2, .int x3, .int x4, .int x5, .int y5]) dX11_likes_160 (by decide) rfl rfl ?_
        refine zj_iload dX11_likes_162 rfl ?_
        refine zj_aload_n dX11_likes_164 rfl rfl ?_
        refine zj_getI (ci := 11) (j := 61) dX11_likes_165 wf_X11_364 (by decide) (by decide) (zk_223 hL) rfl ?_
        refine zj_icmp_gt (tgt := 208) dX11_likes_168 (by decide) (fun c => ?_) (fun c => ?_)
        · replace h := h.1 c
          refine zj_iinc (y := x5 + 1) (ls2 := [.ref 223, .int x1, .int x2, .int x3, .int x4, .int (x5 + 1), .int y5]) dX11_likes_208 rfl rfl (by decide) rfl rfl ?_
          refine zj_goto (tgt := 62) dX11_likes_211 (by decide) ?_
          refine zj_forget (ls2 := [.ref 223, .int x1, .int x2, .int x3, .int x4, .int (x5 + 1), .null]) ⟨Or.inr rfl, Or.inr rfl, Or.inr rfl, Or.inr rfl, Or.inr rfl, Or.inr rfl, Or.inl rfl, trivial⟩ ?_
          exact h
        · replace h := h.2 c
          refine zj_iload dX11_likes_171 rfl ?_
          refine zj_aload_n dX11_likes_173 rfl rfl ?_
          refine zj_getI (ci := 11) (j := 61) dX11_likes_174 wf_X11_364 (by decide) (by decide) (zk_223 hL) rfl ?_
          refine zj_icmp_ne (tgt := 194) dX11_likes_177 (by decide) (fun c => ?_) (fun c => ?_)
          · replace h := h.1 c
            refine zj_aload_n dX11_likes_194 rfl rfl ?_
            refine zj_iload dX11_likes_195 rfl ?_
            refine zj_putI (ci := 11) (j := 61) dX11_likes_197 wf_X11_364 (by decide) (by decide) (zk_223 hL) rfl rfl rfl rfl (fun v13 ev13 => ?_)
            replace h := h v13 ev13
            refine zj_aload_n dX11_likes_200 rfl rfl ?_
            refine zj_aload_n dX11_likes_201 rfl rfl ?_
            refine zj_getI (ci := 11) (j := 59) dX11_likes_202 wf_X11_355 (by decide) (by decide) (zk_223 hL) rfl ?_
            refine zj_putI (ci := 11) (j := 60) dX11_likes_205 wf_X11_358 (by decide) (by decide) (zk_223 hL) rfl rfl rfl rfl (fun v14 ev14 => ?_)
            replace h := h v14 ev14
            refine zj_iinc (y := x5 + 1) (ls2 := [.ref 223, .int x1, .int x2, .int x3, .int x4, .int (x5 + 1), .int y5]) dX11_likes_208 rfl rfl (by decide) rfl rfl ?_
            refine zj_goto (tgt := 62) dX11_likes_211 (by decide) ?_
            refine zj_forget (ls2 := [.ref 223, .int x1, .int x2, .int x3, .int x4, .int (x5 + 1), .null]) ⟨Or.inr rfl, Or.inr rfl, Or.inr rfl, Or.inr rfl, Or.inr rfl, Or.inr rfl, Or.inl rfl, trivial⟩ ?_
            exact h
          · replace h := h.2 c
            refine zj_aload_n dX11_likes_180 rfl rfl ?_
            refine zj_getI (ci := 11) (j := 59) dX11_likes_181 wf_X11_355 (by decide) (by decide) (zk_223 hL) rfl ?_
            refine zj_aload_n dX11_likes_184 rfl rfl ?_
            refine zj_getI (ci := 11) (j := 60) dX11_likes_185 wf_X11_358 (by decide) (by decide) (zk_223 hL) rfl ?_
            refine zj_icmp_le (tgt := 194) dX11_likes_188 (by decide) (fun c => ?_) (fun c => ?_)
            · replace h := h.1 c
              refine zj_aload_n dX11_likes_194 rfl rfl ?_
              refine zj_iload dX11_likes_195 rfl ?_
              refine zj_putI (ci := 11) (j := 61) dX11_likes_197 wf_X11_364 (by decide) (by decide) (zk_223 hL) rfl rfl rfl rfl (fun v15 ev15 => ?_)
              replace h := h v15 ev15
              refine zj_aload_n dX11_likes_200 rfl rfl ?_
              refine zj_aload_n dX11_likes_201 rfl rfl ?_
              refine zj_getI (ci := 11) (j := 59) dX11_likes_202 wf_X11_355 (by decide) (by decide) (zk_223 hL) rfl ?_
              refine zj_putI (ci := 11) (j := 60) dX11_likes_205 wf_X11_358 (by decide) (by decide) (zk_223 hL) rfl rfl rfl rfl (fun v16 ev16 => ?_)
              replace h := h v16 ev16
              refine zj_iinc (y := x5 + 1) (ls2 := [.ref 223, .int x1, .int x2, .int x3, .int x4, .int (x5 + 1), .int y5]) dX11_likes_208 rfl rfl (by decide) rfl rfl ?_
              refine zj_goto (tgt := 62) dX11_likes_211 (by decide) ?_
              refine zj_forget (ls2 := [.ref 223, .int x1, .int x2, .int x3, .int x4, .int (x5 + 1), .null]) ⟨Or.inr rfl, Or.inr rfl, Or.inr rfl, Or.inr rfl, Or.inr rfl, Or.inr rfl, Or.inl rfl, trivial⟩ ?_
              exact h
            · replace h := h.2 c
              refine zj_goto (tgt := 208) dX11_likes_191 (by decide) ?_
              refine zj_iinc (y := x5 + 1) (ls2 := [.ref 223, .int x1, .int x2, .int x3, .int x4, .int (x5 + 1), .int y5]) dX11_likes_208 rfl rfl (by decide) rfl rfl ?_
              refine zj_goto (tgt := 62) dX11_likes_211 (by decide) ?_
              refine zj_forget (ls2 := [.ref 223, .int x1, .int x2, .int x3, .int x4, .int (x5 + 1), .null]) ⟨Or.inr rfl, Or.inr rfl, Or.inr rfl, Or.inr rfl, Or.inr rfl, Or.inr rfl, Or.inl rfl, trivial⟩ ?_
              exact h
      · replace h := h.2 c
        refine zj_aload_n dX11_likes_97 rfl rfl ?_
        refine zj_iload_n dX11_likes_98 rfl rfl ?_
        refine zj_callV (M' := mX11_chainOf) (avs := [.int x1]) (st := [.int (v8 223 59), .ref 223]) (ci := 11) dX11_likes_99 wm_X11_chainOf wl_X11_367 wi_X11_chainOf ws_X11_chainOf (by decide) (zk_223 hL) rfl rfl (by decide) rfl (Nat.le_of_ble_eq_true rfl) (Nat.le_of_ble_eq_true rfl) ⟨Or.inl (z_k0 (zk_223 hL)), trivial⟩ ⟨Or.inl (z_k0 (zk_223 hL)), trivial⟩ (z_J.mono h (fun r S1 v17 hq => ?_))
        obtain ⟨y6, rfl, rfl, h⟩ := hq
        refine zj_goto (tgt := 119) dX11_likes_102 (by decide) ?_
        refine zj_ixor dX11_likes_119 ?_
        refine zj_putI (ci := 11) (j := 59) dX11_likes_120 wf_X11_355 (by decide) (by decide) (zk_223 hL) rfl rfl rfl rfl (fun v18 ev18 => ?_)
        replace h := h v18 ev18
        refine zj_aload_n dX11_likes_123 rfl rfl ?_
        refine zj_getR (ci := 11) (j := 58) dX11_likes_124 wf_X11_121 (by decide) (by decide) (zk_223 hL) rfl (zr_223_58 hL) ?_
        refine zj_bipush (x := 26) dX11_likes_127 rfl ?_
        refine zj_aload_n dX11_likes_129 rfl rfl ?_
        refine zj_iload_n dX11_likes_130 rfl rfl ?_
        refine zj_aload_n dX11_likes_131 rfl rfl ?_
        refine zj_getI (ci := 11) (j := 59) dX11_likes_132 wf_X11_355 (by decide) (by decide) (zk_223 hL) rfl ?_
        refine zj_callV (M' := mX11_logical) (avs := [.int x1, .int (v18 223 59)]) (st := [.int 26, .ref 259]) (ci := 11) dX11_likes_135 wm_X11_logical wl_X11_370 wi_X11_logical ws_X11_logical (by decide) (zk_223 hL) rfl rfl (by decide) rfl (Nat.le_of_ble_eq_true rfl) (Nat.le_of_ble_eq_true rfl) ⟨Or.inl (z_k0 (zk_223 hL)), trivial⟩ ⟨Or.inl (z_k0 (zk_259 hL)), trivial⟩ (z_J.mono h (fun r S1 v19 hq => ?_))
        obtain ⟨y7, rfl, rfl, h⟩ := hq
        refine zj_imul dX11_likes_138 ?_
        refine zj_aload_n dX11_likes_139 rfl rfl ?_
        refine zj_getI (ci := 11) (j := 59) dX11_likes_140 wf_X11_355 (by decide) (by decide) (zk_223 hL) rfl ?_
        refine zj_callS (M' := mX11_bits) (avs := [.int (v19 223 59)]) (st := [.int ((26 : Int32) * y7), .ref 259]) dX11_likes_143 wm_X11_bits wl_X11_169 wt_X11_bits rfl (by decide) rfl (Nat.le_of_ble_eq_true rfl) (Nat.le_of_ble_eq_true rfl) ⟨Or.inl (z_k0 (zk_223 hL)), trivial⟩ ⟨Or.inl (z_k0 (zk_259 hL)), trivial⟩ (hp_X11_bits ?_)
        refine zj_iadd dX11_likes_146 ?_
        refine zj_dup2 dX11_likes_147 rfl rfl ?_
        refine zj_iaload dX11_likes_148 (zk_259 hL) (by rw [(zl_259 hL)]; exact h.1) ?_
        replace h := h.2
        refine zj_iconst (x := 1) dX11_likes_149 rfl ?_
        refine zj_iadd dX11_likes_150 ?_
        refine zj_iastore dX11_likes_151 (zk_259 hL) (by rw [(zl_259 hL)]; exact h.1) (fun v20 ev20 => ?_)
        replace h := h.2 v20 ev20
        refine zj_aload_n dX11_likes_152 rfl rfl ?_
        refine zj_aload_n dX11_likes_153 rfl rfl ?_
        refine zj_getI (ci := 11) (j := 59) dX11_likes_154 wf_X11_355 (by decide) (by decide) (zk_223 hL) rfl ?_
        refine zj_callV (M' := mX11_weightOf) (avs := [.int (v20 223 59)]) (st := []) (ci := 11) dX11_likes_157 wm_X11_weightOf wl_X11_361 wi_X11_weightOf ws_X11_weightOf (by decide) (zk_223 hL) rfl rfl (by decide) rfl (Nat.le_of_ble_eq_true rfl) (Nat.le_of_ble_eq_true rfl) ⟨Or.inl (z_k0 (zk_223 hL)), trivial⟩ trivial (z_J.mono h (fun r S1 v21 hq => ?_))
        obtain ⟨y8, rfl, rfl, h⟩ := hq
        refine zj_istore (ls2 := [.ref 223, .int x1, .int x2, .int x3, .int x4, .int x5, .int y8]) dX11_likes_160 (by decide) rfl rfl ?_
        refine zj_iload dX11_likes_162 rfl ?_
        refine zj_aload_n dX11_likes_164 rfl rfl ?_
        refine zj_getI (ci := 11) (j := 61) dX11_likes_165 wf_X11_364 (by decide) (by decide) (zk_223 hL) rfl ?_
        refine zj_icmp_gt (tgt := 208) dX11_likes_168 (by decide) (fun c => ?_) (fun c => ?_)
        · replace h := h.1 c
          refine zj_iinc (y := x5 + 1) (ls2 := [.ref 223, .int x1, .int x2, .int x3, .int x4, .int (x5 + 1), .int y8]) dX11_likes_208 rfl rfl (by decide) rfl rfl ?_
          refine zj_goto (tgt := 62) dX11_likes_211 (by decide) ?_
          refine zj_forget (ls2 := [.ref 223, .int x1, .int x2, .int x3, .int x4, .int (x5 + 1), .null]) ⟨Or.inr rfl, Or.inr rfl, Or.inr rfl, Or.inr rfl, Or.inr rfl, Or.inr rfl, Or.inl rfl, trivial⟩ ?_
          exact h
        · replace h := h.2 c
          refine zj_iload dX11_likes_171 rfl ?_
          refine zj_aload_n dX11_likes_173 rfl rfl ?_
          refine zj_getI (ci := 11) (j := 61) dX11_likes_174 wf_X11_364 (by decide) (by decide) (zk_223 hL) rfl ?_
          refine zj_icmp_ne (tgt := 194) dX11_likes_177 (by decide) (fun c => ?_) (fun c => ?_)
          · replace h := h.1 c
            refine zj_aload_n dX11_likes_194 rfl rfl ?_
            refine zj_iload dX11_likes_195 rfl ?_
            refine zj_putI (ci := 11) (j := 61) dX11_likes_197 wf_X11_364 (by decide) (by decide) (zk_223 hL) rfl rfl rfl rfl (fun v22 ev22 => ?_)
            replace h := h v22 ev22
            refine zj_aload_n dX11_likes_200 rfl rfl ?_
            refine zj_aload_n dX11_likes_201 rfl rfl ?_
            refine zj_getI (ci := 11) (j := 59) dX11_likes_202 wf_X11_355 (by decide) (by decide) (zk_223 hL) rfl ?_
            refine zj_putI (ci := 11) (j := 60) dX11_likes_205 wf_X11_358 (by decide) (by decide) (zk_223 hL) rfl rfl rfl rfl (fun v23 ev23 => ?_)
            replace h := h v23 ev23
            refine zj_iinc (y := x5 + 1) (ls2 := [.ref 223, .int x1, .int x2, .int x3, .int x4, .int (x5 + 1), .int y8]) dX11_likes_208 rfl rfl (by decide) rfl rfl ?_
            refine zj_goto (tgt := 62) dX11_likes_211 (by decide) ?_
            refine zj_forget (ls2 := [.ref 223, .int x1, .int x2, .int x3, .int x4, .int (x5 + 1), .null]) ⟨Or.inr rfl, Or.inr rfl, Or.inr rfl, Or.inr rfl, Or.inr rfl, Or.inr rfl, Or.inl rfl, trivial⟩ ?_
            exact h
          · replace h := h.2 c
            refine zj_aload_n dX11_likes_180 rfl rfl ?_
            refine zj_getI (ci := 11) (j := 59) dX11_likes_181 wf_X11_355 (by decide) (by decide) (zk_223 hL) rfl ?_
            refine zj_aload_n dX11_likes_184 rfl rfl ?_
            refine zj_getI (ci := 11) (j := 60) dX11_likes_185 wf_X11_358 (by decide) (by decide) (zk_223 hL) rfl ?_
            refine zj_icmp_le (tgt := 194) dX11_likes_188 (by decide) (fun c => ?_) (fun c => ?_)
            · replace h := h.1 c
              refine zj_aload_n dX11_likes_194 rfl rfl ?_
              refine zj_iload dX11_likes_195 rfl ?_
              refine zj_putI (ci := 11) (j := 61) dX11_likes_197 wf_X11_364 (by decide) (by decide) (zk_223 hL) rfl rfl rfl rfl (fun v24 ev24 => ?_)
              replace h := h v24 ev24
              refine zj_aload_n dX11_likes_200 rfl rfl ?_
              refine zj_aload_n dX11_likes_201 rfl rfl ?_
              refine zj_getI (ci := 11) (j := 59) dX11_likes_202 wf_X11_355 (by decide) (by decide) (zk_223 hL) rfl ?_
              refine zj_putI (ci := 11) (j := 60) dX11_likes_205 wf_X11_358 (by decide) (by decide) (zk_223 hL) rfl rfl rfl rfl (fun v25 ev25 => ?_)
              replace h := h v25 ev25
              refine zj_iinc (y := x5 + 1) (ls2 := [.ref 223, .int x1, .int x2, .int x3, .int x4, .int (x5 + 1), .int y8]) dX11_likes_208 rfl rfl (by decide) rfl rfl ?_
              refine zj_goto (tgt := 62) dX11_likes_211 (by decide) ?_
              refine zj_forget (ls2 := [.ref 223, .int x1, .int x2, .int x3, .int x4, .int (x5 + 1), .null]) ⟨Or.inr rfl, Or.inr rfl, Or.inr rfl, Or.inr rfl, Or.inr rfl, Or.inr rfl, Or.inl rfl, trivial⟩ ?_
              exact h
            · replace h := h.2 c
              refine zj_goto (tgt := 208) dX11_likes_191 (by decide) ?_
              refine zj_iinc (y := x5 + 1) (ls2 := [.ref 223, .int x1, .int x2, .int x3, .int x4, .int (x5 + 1), .int y8]) dX11_likes_208 rfl rfl (by decide) rfl rfl ?_
              refine zj_goto (tgt := 62) dX11_likes_211 (by decide) ?_
              refine zj_forget (ls2 := [.ref 223, .int x1, .int x2, .int x3, .int x4, .int (x5 + 1), .null]) ⟨Or.inr rfl, Or.inr rfl, Or.inr rfl, Or.inr rfl, Or.inr rfl, Or.inr rfl, Or.inl rfl, trivial⟩ ?_
              exact h
theorem sg_X11_line_0 {G : z_G} {d : Nat} {S : z_Shp} {v : z_Dat} {Q : Option Value → z_Shp → z_Dat → Prop} {x1 : Int32} (hL : z_L S)
    (h : ∀ v1, v1 = z_u v 223 0 0 → (((0 ≤ x1 ∧ x1 ≤ ((2 : Int32) * (v1 224 0))) → (∀ v2, v2 = z_u v1 223 65 (((2 : Int32) * (v1 224 0)) + 1) → (z_J G (d + 1) mX11_line (35, [.ref 223, .int x1, .int 0], [], S, v2) Q))) ∧ (¬ (0 ≤ x1 ∧ x1 ≤ ((2 : Int32) * (v1 224 0))) → (Q (some (.int (-1))) S v1)))) :
    z_J G (d + 1) mX11_line (0, [.ref 223, .int x1, .null], [], S, v) Q := by
  refine zj_aload_n dX11_line_0 rfl rfl ?_
  refine zj_iconst (x := 0) dX11_line_1 rfl ?_
  refine zj_putI (ci := 11) (j := 0) dX11_line_2 wf_X11_1 (by decide) (by decide) (zk_223 hL) rfl rfl rfl rfl (fun v1 ev1 => ?_)
  replace h := h v1 ev1
  refine zj_iload_n dX11_line_5 rfl rfl ?_
  refine zj_iconst (x := 0) dX11_line_6 rfl ?_
  refine zj_iconst (x := 2) dX11_line_7 rfl ?_
  refine zj_aload_n dX11_line_8 rfl rfl ?_
  refine zj_callV (M' := mX11_d) (avs := []) (st := [.int 2, .int 0, .int x1]) (ci := 11) dX11_line_9 wm_X11_d wl_X11_140 wi_X11_d ws_X11_d (by decide) (zk_223 hL) rfl rfl (by decide) rfl (Nat.le_of_ble_eq_true rfl) (Nat.le_of_ble_eq_true rfl) ⟨Or.inl (z_k0 (zk_223 hL)), trivial⟩ trivial (hp_X11_d hL ?_)
  refine zj_imul dX11_line_12 ?_
  refine zj_callS (M' := mX11_isIn) (avs := [.int x1, .int 0, .int ((2 : Int32) * (v1 224 0))]) (st := []) dX11_line_13 wm_X11_isIn wl_X11_144 wt_X11_isIn rfl (by decide) rfl (Nat.le_of_ble_eq_true rfl) (Nat.le_of_ble_eq_true rfl) ⟨Or.inl (z_k0 (zk_223 hL)), trivial⟩ trivial (hp_X11_isIn (fun c => ?_) (fun c => ?_))
  · replace h := h.1 c
    refine zj_if_ne (tgt := 21) dX11_line_16 (by decide) (fun _ => ?_) (fun q => absurd q (by decide))
    refine zj_aload_n dX11_line_21 rfl rfl ?_
    refine zj_iconst (x := 2) dX11_line_22 rfl ?_
    refine zj_aload_n dX11_line_23 rfl rfl ?_
    refine zj_callV (M' := mX11_d) (avs := []) (st := [.int 2, .ref 223]) (ci := 11) dX11_line_24 wm_X11_d wl_X11_140 wi_X11_d ws_X11_d (by decide) (zk_223 hL) rfl rfl (by decide) rfl (Nat.le_of_ble_eq_true rfl) (Nat.le_of_ble_eq_true rfl) ⟨Or.inl (z_k0 (zk_223 hL)), trivial⟩ ⟨Or.inl (z_k0 (zk_223 hL)), trivial⟩ (hp_X11_d hL ?_)
    refine zj_imul dX11_line_27 ?_
    refine zj_iconst (x := 1) dX11_line_28 rfl ?_
    refine zj_iadd dX11_line_29 ?_
    refine zj_putI (ci := 11) (j := 65) dX11_line_30 wf_X11_410 (by decide) (by decide) (zk_223 hL) rfl rfl rfl rfl (fun v2 ev2 => ?_)
    replace h := h v2 ev2
    refine zj_iconst (x := 0) dX11_line_33 rfl ?_
    refine zj_istore_n (ls2 := [.ref 223, .int x1, .int 0]) dX11_line_34 rfl (by decide) rfl rfl ?_
    exact h
  · replace h := h.2 c
    refine zj_if_ne (tgt := 21) dX11_line_16 (by decide) (fun q => absurd (by decide) q) (fun _ => ?_)
    refine zj_iconst (x := (-1)) dX11_line_19 rfl ?_
    exact zj_iret dX11_line_20 rfl rfl h
theorem sg_X11_line_35 {G : z_G} {d : Nat} {S : z_Shp} {v : z_Dat} {Q : Option Value → z_Shp → z_Dat → Prop} {x1 : Int32} {x2 : Int32} (hL : z_L S)
    (h : ((v 223 65) ≤ x2 → (Q (some (.int (v 223 65))) S v)) ∧ (¬ (v 223 65) ≤ x2 → (z_J G d mX11_signOf (0, [.ref 223, .int x1, .int x2, .null, .null], [], S, v) (fun r S1 v1 => ∃ y1 : Int32, r = some (.int y1) ∧ S1 = S ∧ (vp_in x2 11 ∧ (∀ v2, v2 = z_u v1 260 x2.toNatClampNeg (vp_nar .byte y1.toInt8.toInt32) → (z_J G (d + 1) mX11_line (35, [.ref 223, .int x1, .int (x2 + 1)], [], S, v2) Q))))))) :
    z_J G (d + 1) mX11_line (35, [.ref 223, .int x1, .int x2], [], S, v) Q := by
  refine zj_iload_n dX11_line_35 rfl rfl ?_
  refine zj_aload_n dX11_line_36 rfl rfl ?_
  refine zj_getI (ci := 11) (j := 65) dX11_line_37 wf_X11_410 (by decide) (by decide) (zk_223 hL) rfl ?_
  refine zj_icmp_ge (tgt := 62) dX11_line_40 (by decide) (fun c => ?_) (fun c => ?_)
  · replace h := h.1 c
    refine zj_aload_n dX11_line_62 rfl rfl ?_
    refine zj_getI (ci := 11) (j := 65) dX11_line_63 wf_X11_410 (by decide) (by decide) (zk_223 hL) rfl ?_
    exact zj_iret dX11_line_66 rfl rfl h
  · replace h := h.2 c
    refine zj_aload_n dX11_line_43 rfl rfl ?_
    refine zj_getR (ci := 11) (j := 64) dX11_line_44 wf_X11_124 (by decide) (by decide) (zk_223 hL) rfl (zr_223_64 hL) ?_
    refine zj_iload_n dX11_line_47 rfl rfl ?_
    refine zj_aload_n dX11_line_48 rfl rfl ?_
    refine zj_iload_n dX11_line_49 rfl rfl ?_
    refine zj_iload_n dX11_line_50 rfl rfl ?_
    refine zj_callV (M' := mX11_signOf) (avs := [.int x1, .int x2]) (st := [.int x2, .ref 260]) (ci := 11) dX11_line_51 wm_X11_signOf wl_X11_413 wi_X11_signOf ws_X11_signOf (by decide) (zk_223 hL) rfl rfl (by decide) rfl (Nat.le_of_ble_eq_true rfl) (Nat.le_of_ble_eq_true rfl) ⟨Or.inl (z_k0 (zk_223 hL)), trivial⟩ ⟨Or.inl (z_k0 (zk_260 hL)), trivial⟩ (z_J.mono h (fun r S1 v1 hq => ?_))
    obtain ⟨y1, rfl, rfl, h⟩ := hq
    refine zj_i2b dX11_line_54 ?_
    refine zj_bastore dX11_line_55 (zk_260 hL) (by rw [(zl_260 hL)]; exact h.1) (fun v2 ev2 => ?_)
    replace h := h.2 v2 ev2
    refine zj_iinc (y := x2 + 1) (ls2 := [.ref 223, .int x1, .int (x2 + 1)]) dX11_line_56 rfl rfl (by decide) rfl rfl ?_
    refine zj_goto (tgt := 35) dX11_line_59 (by decide) ?_
    exact h
theorem sg_X11_logical_0 {G : z_G} {d : Nat} {S : z_Shp} {v : z_Dat} {Q : Option Value → z_Shp → z_Dat → Prop} {x1 : Int32} {x2 : Int32} (hL : z_L S)
    (h : (¬ x1 = 0 → (z_J G d mX11_rowOrColumn (0, [.ref 223, .int 0, .null, .null], [], S, v) (fun r S1 v1 => ∃ y1 : Int32, r = some (.int y1) ∧ S1 = S ∧ (Q (some (.int ((z_pc (x2 &&& y1)) &&& 1))) S v1)))) ∧ (x1 = 0 → (z_J G d mX11_rowOrColumn (0, [.ref 223, .int 1, .null, .null], [], S, v) (fun r S1 v2 => ∃ y2 : Int32, r = some (.int y2) ∧ S1 = S ∧ (Q (some (.int ((z_pc (x2 &&& y2)) &&& 1))) S v2))))) :
    z_J G (d + 1) mX11_logical (0, [.ref 223, .int x1, .int x2], [], S, v) Q := by
  refine zj_iload_n dX11_logical_0 rfl rfl ?_
  refine zj_aload_n dX11_logical_1 rfl rfl ?_
  refine zj_iload_n dX11_logical_2 rfl rfl ?_
  refine zj_if_ne (tgt := 10) dX11_logical_3 (by decide) (fun c => ?_) (fun c => ?_)
  · replace h := h.1 c
    refine zj_iconst (x := 0) dX11_logical_10 rfl ?_
    refine zj_callV (M' := mX11_rowOrColumn) (avs := [.int 0]) (st := [.int x2]) (ci := 11) dX11_logical_11 wm_X11_rowOrColumn wl_X11_173 wi_X11_rowOrColumn ws_X11_rowOrColumn (by decide) (zk_223 hL) rfl rfl (by decide) rfl (Nat.le_of_ble_eq_true rfl) (Nat.le_of_ble_eq_true rfl) ⟨Or.inl (z_k0 (zk_223 hL)), trivial⟩ trivial (z_J.mono h (fun r S1 v1 hq => ?_))
    obtain ⟨y1, rfl, rfl, h⟩ := hq
    refine zj_iand dX11_logical_14 ?_
    refine zj_callS (M' := mX11_bits) (avs := [.int (x2 &&& y1)]) (st := []) dX11_logical_15 wm_X11_bits wl_X11_169 wt_X11_bits rfl (by decide) rfl (Nat.le_of_ble_eq_true rfl) (Nat.le_of_ble_eq_true rfl) ⟨Or.inl (z_k0 (zk_223 hL)), trivial⟩ trivial (hp_X11_bits ?_)
    refine zj_iconst (x := 1) dX11_logical_18 rfl ?_
    refine zj_iand dX11_logical_19 ?_
    exact zj_iret dX11_logical_20 rfl rfl h
  · replace h := h.2 c
    refine zj_iconst (x := 1) dX11_logical_6 rfl ?_
    refine zj_goto (tgt := 11) dX11_logical_7 (by decide) ?_
    refine zj_callV (M' := mX11_rowOrColumn) (avs := [.int 1]) (st := [.int x2]) (ci := 11) dX11_logical_11 wm_X11_rowOrColumn wl_X11_173 wi_X11_rowOrColumn ws_X11_rowOrColumn (by decide) (zk_223 hL) rfl rfl (by decide) rfl (Nat.le_of_ble_eq_true rfl) (Nat.le_of_ble_eq_true rfl) ⟨Or.inl (z_k0 (zk_223 hL)), trivial⟩ trivial (z_J.mono h (fun r S1 v2 hq => ?_))
    obtain ⟨y2, rfl, rfl, h⟩ := hq
    refine zj_iand dX11_logical_14 ?_
    refine zj_callS (M' := mX11_bits) (avs := [.int (x2 &&& y2)]) (st := []) dX11_logical_15 wm_X11_bits wl_X11_169 wt_X11_bits rfl (by decide) rfl (Nat.le_of_ble_eq_true rfl) (Nat.le_of_ble_eq_true rfl) ⟨Or.inl (z_k0 (zk_223 hL)), trivial⟩ trivial (hp_X11_bits ?_)
    refine zj_iconst (x := 1) dX11_logical_18 rfl ?_
    refine zj_iand dX11_logical_19 ?_
    exact zj_iret dX11_logical_20 rfl rfl h
theorem sg_X11_loud_0 {G : z_G} {d : Nat} {S : z_Shp} {v : z_Dat} {Q : Option Value → z_Shp → z_Dat → Prop} {x1 : Int32} {x2 : Int32}
    (h : z_J G d mX11_loud (5, [.ref 223, .int x1, .int x2, .int 0, .int 0], [], S, v) Q) :
    z_J G d mX11_loud (0, [.ref 223, .int x1, .int x2, .null, .null], [], S, v) Q := by
  refine zj_iconst (x := 0) dX11_loud_0 rfl ?_
  refine zj_istore_n (ls2 := [.ref 223, .int x1, .int x2, .int 0, .null]) dX11_loud_1 rfl (by decide) rfl rfl ?_
  refine zj_iconst (x := 0) dX11_loud_2 rfl ?_
  refine zj_istore (ls2 := [.ref 223, .int x1, .int x2, .int 0, .int 0]) dX11_loud_3 (by decide) rfl rfl ?_
  exact h
theorem sg_X11_loud_5 {G : z_G} {d : Nat} {S : z_Shp} {v : z_Dat} {Q : Option Value → z_Shp → z_Dat → Prop} {x1 : Int32} {x2 : Int32} {x3 : Int32} {x4 : Int32} (hL : z_L S)
    (h : ((v 223 14) ≤ x4 → (Q (some (.int x3)) S v)) ∧ (¬ (v 223 14) ≤ x4 → ((vp_in (((12 : Int32) * x1) + x4) 24) ∧ (z_J G (d + 1) mX11_loud (5, [.ref 223, .int x1, .int x2, .int (x3 ||| (((z_pc ((v 232 (((12 : Int32) * x1) + x4).toNatClampNeg) &&& x2)) &&& 1) <<< (x4 &&& 31))), .int (x4 + 1)], [], S, v) Q)))) :
    z_J G (d + 1) mX11_loud (5, [.ref 223, .int x1, .int x2, .int x3, .int x4], [], S, v) Q := by
  refine zj_iload dX11_loud_5 rfl ?_
  refine zj_aload_n dX11_loud_7 rfl rfl ?_
  refine zj_getI (ci := 11) (j := 14) dX11_loud_8 wf_X11_151 (by decide) (by decide) (zk_223 hL) rfl ?_
  refine zj_icmp_ge (tgt := 45) dX11_loud_11 (by decide) (fun c => ?_) (fun c => ?_)
  · replace h := h.1 c
    refine zj_iload_n dX11_loud_45 rfl rfl ?_
    exact zj_iret dX11_loud_46 rfl rfl h
  · replace h := h.2 c
    refine zj_iload_n dX11_loud_14 rfl rfl ?_
    refine zj_aload_n dX11_loud_15 rfl rfl ?_
    refine zj_getR (ci := 11) (j := 12) dX11_loud_16 wf_X11_40 (by decide) (by decide) (zk_223 hL) rfl (zr_223_12 hL) ?_
    refine zj_bipush (x := 12) dX11_loud_19 rfl ?_
    refine zj_iload_n dX11_loud_21 rfl rfl ?_
    refine zj_imul dX11_loud_22 ?_
    refine zj_iload dX11_loud_23 rfl ?_
    refine zj_iadd dX11_loud_25 ?_
    refine zj_iaload dX11_loud_26 (zk_232 hL) (by rw [(zl_232 hL)]; exact h.1) ?_
    replace h := h.2
    refine zj_iload_n dX11_loud_27 rfl rfl ?_
    refine zj_iand dX11_loud_28 ?_
    refine zj_callS (M' := mX11_bits) (avs := [.int ((v 232 (((12 : Int32) * x1) + x4).toNatClampNeg) &&& x2)]) (st := [.int x3]) dX11_loud_29 wm_X11_bits wl_X11_169 wt_X11_bits rfl (by decide) rfl (Nat.le_of_ble_eq_true rfl) (Nat.le_of_ble_eq_true rfl) ⟨Or.inl (z_k0 (zk_223 hL)), trivial⟩ trivial (hp_X11_bits ?_)
    refine zj_iconst (x := 1) dX11_loud_32 rfl ?_
    refine zj_iand dX11_loud_33 ?_
    refine zj_iload dX11_loud_34 rfl ?_
    refine zj_ishl dX11_loud_36 ?_
    refine zj_ior dX11_loud_37 ?_
    refine zj_istore_n (ls2 := [.ref 223, .int x1, .int x2, .int (x3 ||| (((z_pc ((v 232 (((12 : Int32) * x1) + x4).toNatClampNeg) &&& x2)) &&& 1) <<< (x4 &&& 31))), .int x4]) dX11_loud_38 rfl (by decide) rfl rfl ?_
    refine zj_iinc (y := x4 + 1) (ls2 := [.ref 223, .int x1, .int x2, .int (x3 ||| (((z_pc ((v 232 (((12 : Int32) * x1) + x4).toNatClampNeg) &&& x2)) &&& 1) <<< (x4 &&& 31))), .int (x4 + 1)]) dX11_loud_39 rfl rfl (by decide) rfl rfl ?_
    refine zj_goto (tgt := 5) dX11_loud_42 (by decide) ?_
    exact h
theorem sg_X11_lowest_0 {G : z_G} {d : Nat} {S : z_Shp} {v : z_Dat} {Q : Option Value → z_Shp → z_Dat → Prop} {x0 : Int32}
    (h : z_J G d mX11_lowest (2, [.int x0, .int 0], [], S, v) Q) :
    z_J G d mX11_lowest (0, [.int x0, .null], [], S, v) Q := by
  refine zj_iconst (x := 0) dX11_lowest_0 rfl ?_
  refine zj_istore_n (ls2 := [.int x0, .int 0]) dX11_lowest_1 rfl (by decide) rfl rfl ?_
  exact h
theorem sg_X11_lowest_2 {G : z_G} {d : Nat} {S : z_Shp} {v : z_Dat} {Q : Option Value → z_Shp → z_Dat → Prop} {x0 : Int32} {x1 : Int32}
    (h : ((((x0 >>> (x1 &&& 31)) &&& 1) = 1) → (Q (some (.int x1)) S v)) ∧ (¬ (((x0 >>> (x1 &&& 31)) &&& 1) = 1) → (z_J G (d + 1) mX11_lowest (2, [.int x0, .int (x1 + 1)], [], S, v) Q))) :
    z_J G (d + 1) mX11_lowest (2, [.int x0, .int x1], [], S, v) Q := by
  refine zj_iload_n dX11_lowest_2 rfl rfl ?_
  refine zj_iload_n dX11_lowest_3 rfl rfl ?_
  refine zj_callS (M' := mX11_bitOf) (avs := [.int x0, .int x1]) (st := []) dX11_lowest_4 wm_X11_bitOf wl_X11_161 wt_X11_bitOf rfl (by decide) rfl (Nat.le_of_ble_eq_true rfl) (Nat.le_of_ble_eq_true rfl) trivial trivial (hp_X11_bitOf (fun c => ?_) (fun c => ?_))
  · replace h := h.1 c
    refine zj_if_ne (tgt := 16) dX11_lowest_7 (by decide) (fun _ => ?_) (fun q => absurd q (by decide))
    refine zj_iload_n dX11_lowest_16 rfl rfl ?_
    exact zj_iret dX11_lowest_17 rfl rfl h
  · replace h := h.2 c
    refine zj_if_ne (tgt := 16) dX11_lowest_7 (by decide) (fun q => absurd (by decide) q) (fun _ => ?_)
    refine zj_iinc (y := x1 + 1) (ls2 := [.int x0, .int (x1 + 1)]) dX11_lowest_10 rfl rfl (by decide) rfl rfl ?_
    refine zj_goto (tgt := 2) dX11_lowest_13 (by decide) ?_
    exact h
theorem sg_X11_now_0 {G : z_G} {d : Nat} {S : z_Shp} {v : z_Dat} {Q : Option Value → z_Shp → z_Dat → Prop} {x1 : Int32} (hL : z_L S)
    (h : ∀ v1, v1 = z_u v 223 0 0 → ((x1 = 0 → (Q (some (.int (v1 224 0))) S v1)) ∧ (x1 = 1 → (Q (some (.int (v1 224 1))) S v1)) ∧ (x1 = 2 → (Q (some (.int (v1 223 14))) S v1)) ∧ (x1 = 3 → ((vp_in (((2 : Int32) + x1) - 3) 71) ∧ (Q (some (.int (v1 224 (((2 : Int32) + x1) - 3).toNatClampNeg))) S v1))) ∧ (x1 = 4 → ((vp_in (((2 : Int32) + x1) - 3) 71) ∧ (Q (some (.int (v1 224 (((2 : Int32) + x1) - 3).toNatClampNeg))) S v1))) ∧ (x1 = 5 → ((vp_in (((2 : Int32) + x1) - 5) 71) ∧ (z_J G d mX11_loud (0, [.ref 223, .int (x1 - 5), .int (v1 224 (((2 : Int32) + x1) - 5).toNatClampNeg), .null, .null], [], S, v1) (fun r S1 v2 => ∃ y1 : Int32, r = some (.int y1) ∧ S1 = S ∧ (Q (some (.int y1)) S v2))))) ∧ (x1 = 6 → ((vp_in (((2 : Int32) + x1) - 5) 71) ∧ (z_J G d mX11_loud (0, [.ref 223, .int (x1 - 5), .int (v1 224 (((2 : Int32) + x1) - 5).toNatClampNeg), .null, .null], [], S, v1) (fun r S1 v3 => ∃ y2 : Int32, r = some (.int y2) ∧ S1 = S ∧ (Q (some (.int y2)) S v3))))) ∧ (x1 = 7 → ((vp_in (((4 : Int32) + x1) - 7) 71) ∧ (Q (some (.int (v1 224 (((4 : Int32) + x1) - 7).toNatClampNeg))) S v1))) ∧ (x1 = 8 → ((vp_in (((4 : Int32) + x1) - 7) 71) ∧ (Q (some (.int (v1 224 (((4 : Int32) + x1) - 7).toNatClampNeg))) S v1))) ∧ (x1 = 9 → (Q (some (.int (v1 223 8))) S v1)) ∧ (¬ x1 = 0 → ¬ x1 = 1 → ¬ x1 = 2 → ¬ x1 = 3 → ¬ x1 = 4 → ¬ x1 = 5 → ¬ x1 = 6 → ¬ x1 = 7 → ¬ x1 = 8 → ¬ x1 = 9 → (Q (some (.int (-1))) S v1)))) :
    z_J G (d + 1) mX11_now (0, [.ref 223, .int x1], [], S, v) Q := by
  refine zj_aload_n dX11_now_0 rfl rfl ?_
  refine zj_iconst (x := 0) dX11_now_1 rfl ?_
  refine zj_putI (ci := 11) (j := 0) dX11_now_2 wf_X11_1 (by decide) (by decide) (zk_223 hL) rfl rfl rfl rfl (fun v1 ev1 => ?_)
  replace h := h v1 ev1
  refine zj_iload_n dX11_now_5 rfl rfl ?_
  by_cases c0 : x1 = 0
  · refine zj_tabIn (tgt := 60) dX11_now_6 (by rw [c0]; decide) (by rw [c0]; decide) (by rw [c0]; rfl) (by decide) ?_
    replace h := h.1 c0
    refine zj_aload_n dX11_now_60 rfl rfl ?_
    refine zj_getR (ci := 11) (j := 1) dX11_now_61 wf_X11_13 (by decide) (by decide) (zk_223 hL) rfl (zr_223_1 hL) ?_
    refine zj_iconst (x := 0) dX11_now_64 rfl ?_
    refine zj_iaload dX11_now_65 (zk_224 hL) (by rw [(zl_224 hL)]; exact z_vin (by decide)) ?_
    exact zj_iret dX11_now_66 rfl rfl h
  by_cases c1 : x1 = 1
  · refine zj_tabIn (tgt := 67) dX11_now_6 (by rw [c1]; decide) (by rw [c1]; decide) (by rw [c1]; rfl) (by decide) ?_
    replace h := h.2.1 c1
    refine zj_aload_n dX11_now_67 rfl rfl ?_
    refine zj_getR (ci := 11) (j := 1) dX11_now_68 wf_X11_13 (by decide) (by decide) (zk_223 hL) rfl (zr_223_1 hL) ?_
    refine zj_iconst (x := 1) dX11_now_71 rfl ?_
    refine zj_iaload dX11_now_72 (zk_224 hL) (by rw [(zl_224 hL)]; exact z_vin (by decide)) ?_
    exact zj_iret dX11_now_73 rfl rfl h
  by_cases c2 : x1 = 2
  · refine zj_tabIn (tgt := 74) dX11_now_6 (by rw [c2]; decide) (by rw [c2]; decide) (by rw [c2]; rfl) (by decide) ?_
    replace h := h.2.2.1 c2
    refine zj_aload_n dX11_now_74 rfl rfl ?_
    refine zj_getI (ci := 11) (j := 14) dX11_now_75 wf_X11_151 (by decide) (by decide) (zk_223 hL) rfl ?_
    exact zj_iret dX11_now_78 rfl rfl h
  by_cases c3 : x1 = 3
  · refine zj_tabIn (tgt := 79) dX11_now_6 (by rw [c3]; decide) (by rw [c3]; decide) (by rw [c3]; rfl) (by decide) ?_
    replace h := h.2.2.2.1 c3
    refine zj_aload_n dX11_now_79 rfl rfl ?_
    refine zj_getR (ci := 11) (j := 1) dX11_now_80 wf_X11_13 (by decide) (by decide) (zk_223 hL) rfl (zr_223_1 hL) ?_
    refine zj_iconst (x := 2) dX11_now_83 rfl ?_
    refine zj_iload_n dX11_now_84 rfl rfl ?_
    refine zj_iadd dX11_now_85 ?_
    refine zj_iconst (x := 3) dX11_now_86 rfl ?_
    refine zj_isub dX11_now_87 ?_
    refine zj_iaload dX11_now_88 (zk_224 hL) (by rw [(zl_224 hL)]; exact h.1) ?_
    replace h := h.2
    exact zj_iret dX11_now_89 rfl rfl h
  by_cases c4 : x1 = 4
  · refine zj_tabIn (tgt := 79) dX11_now_6 (by rw [c4]; decide) (by rw [c4]; decide) (by rw [c4]; rfl) (by decide) ?_
    replace h := h.2.2.2.2.1 c4
    refine zj_aload_n dX11_now_79 rfl rfl ?_
    refine zj_getR (ci := 11) (j := 1) dX11_now_80 wf_X11_13 (by decide) (by decide) (zk_223 hL) rfl (zr_223_1 hL) ?_
    refine zj_iconst (x := 2) dX11_now_83 rfl ?_
    refine zj_iload_n dX11_now_84 rfl rfl ?_
    refine zj_iadd dX11_now_85 ?_
    refine zj_iconst (x := 3) dX11_now_86 rfl ?_
    refine zj_isub dX11_now_87 ?_
    refine zj_iaload dX11_now_88 (zk_224 hL) (by rw [(zl_224 hL)]; exact h.1) ?_
    replace h := h.2
    exact zj_iret dX11_now_89 rfl rfl h
  by_cases c5 : x1 = 5
  · refine zj_tabIn (tgt := 90) dX11_now_6 (by rw [c5]; decide) (by rw [c5]; decide) (by rw [c5]; rfl) (by decide) ?_
    replace h := h.2.2.2.2.2.1 c5
    refine zj_aload_n dX11_now_90 rfl rfl ?_
    refine zj_iload_n dX11_now_91 rfl rfl ?_
    refine zj_iconst (x := 5) dX11_now_92 rfl ?_
    refine zj_isub dX11_now_93 ?_
    refine zj_aload_n dX11_now_94 rfl rfl ?_
    refine zj_getR (ci := 11) (j := 1) dX11_now_95 wf_X11_13 (by decide) (by decide) (zk_223 hL) rfl (zr_223_1 hL) ?_
    refine zj_iconst (x := 2) dX11_now_98 rfl ?_
    refine zj_iload_n dX11_now_99 rfl rfl ?_
    refine zj_iadd dX11_now_100 ?_
    refine zj_iconst (x := 5) dX11_now_101 rfl ?_
    refine zj_isub dX11_now_102 ?_
    refine zj_iaload dX11_now_103 (zk_224 hL) (by rw [(zl_224 hL)]; exact h.1) ?_
    replace h := h.2
    refine zj_callV (M' := mX11_loud) (avs := [.int (x1 - 5), .int (v1 224 (((2 : Int32) + x1) - 5).toNatClampNeg)]) (st := []) (ci := 11) dX11_now_104 wm_X11_loud wl_X11_177 wi_X11_loud ws_X11_loud (by decide) (zk_223 hL) rfl rfl (by decide) rfl (Nat.le_of_ble_eq_true rfl) (Nat.le_of_ble_eq_true rfl) ⟨Or.inl (z_k0 (zk_223 hL)), trivial⟩ trivial (z_J.mono h (fun r S1 v2 hq => ?_))
    obtain ⟨y1, rfl, rfl, h⟩ := hq
    exact zj_iret dX11_now_107 rfl rfl h
  by_cases c6 : x1 = 6
  · refine zj_tabIn (tgt := 90) dX11_now_6 (by rw [c6]; decide) (by rw [c6]; decide) (by rw [c6]; rfl) (by decide) ?_
    replace h := h.2.2.2.2.2.2.1 c6
    refine zj_aload_n dX11_now_90 rfl rfl ?_
    refine zj_iload_n dX11_now_91 rfl rfl ?_
    refine zj_iconst (x := 5) dX11_now_92 rfl ?_
    refine zj_isub dX11_now_93 ?_
    refine zj_aload_n dX11_now_94 rfl rfl ?_
    refine zj_getR (ci := 11) (j := 1) dX11_now_95 wf_X11_13 (by decide) (by decide) (zk_223 hL) rfl (zr_223_1 hL) ?_
    refine zj_iconst (x := 2) dX11_now_98 rfl ?_
    refine zj_iload_n dX11_now_99 rfl rfl ?_
    refine zj_iadd dX11_now_100 ?_
    refine zj_iconst (x := 5) dX11_now_101 rfl ?_
    refine zj_isub dX11_now_102 ?_
    refine zj_iaload dX11_now_103 (zk_224 hL) (by rw [(zl_224 hL)]; exact h.1) ?_
    replace h := h.2
    refine zj_callV (M' := mX11_loud) (avs := [.int (x1 - 5), .int (v1 224 (((2 : Int32) + x1) - 5).toNatClampNeg)]) (st := []) (ci := 11) dX11_now_104 wm_X11_loud wl_X11_177 wi_X11_loud ws_X11_loud (by decide) (zk_223 hL) rfl rfl (by decide) rfl (Nat.le_of_ble_eq_true rfl) (Nat.le_of_ble_eq_true rfl) ⟨Or.inl (z_k0 (zk_223 hL)), trivial⟩ trivial (z_J.mono h (fun r S1 v3 hq => ?_))
    obtain ⟨y2, rfl, rfl, h⟩ := hq
    exact zj_iret dX11_now_107 rfl rfl h
  by_cases c7 : x1 = 7
  · refine zj_tabIn (tgt := 108) dX11_now_6 (by rw [c7]; decide) (by rw [c7]; decide) (by rw [c7]; rfl) (by decide) ?_
    replace h := h.2.2.2.2.2.2.2.1 c7
    refine zj_aload_n dX11_now_108 rfl rfl ?_
    refine zj_getR (ci := 11) (j := 1) dX11_now_109 wf_X11_13 (by decide) (by decide) (zk_223 hL) rfl (zr_223_1 hL) ?_
    refine zj_iconst (x := 4) dX11_now_112 rfl ?_
    refine zj_iload_n dX11_now_113 rfl rfl ?_
    refine zj_iadd dX11_now_114 ?_
    refine zj_bipush (x := 7) dX11_now_115 rfl ?_
    refine zj_isub dX11_now_117 ?_
    refine zj_iaload dX11_now_118 (zk_224 hL) (by rw [(zl_224 hL)]; exact h.1) ?_
    replace h := h.2
    exact zj_iret dX11_now_119 rfl rfl h
  by_cases c8 : x1 = 8
  · refine zj_tabIn (tgt := 108) dX11_now_6 (by rw [c8]; decide) (by rw [c8]; decide) (by rw [c8]; rfl) (by decide) ?_
    replace h := h.2.2.2.2.2.2.2.2.1 c8
    refine zj_aload_n dX11_now_108 rfl rfl ?_
    refine zj_getR (ci := 11) (j := 1) dX11_now_109 wf_X11_13 (by decide) (by decide) (zk_223 hL) rfl (zr_223_1 hL) ?_
    refine zj_iconst (x := 4) dX11_now_112 rfl ?_
    refine zj_iload_n dX11_now_113 rfl rfl ?_
    refine zj_iadd dX11_now_114 ?_
    refine zj_bipush (x := 7) dX11_now_115 rfl ?_
    refine zj_isub dX11_now_117 ?_
    refine zj_iaload dX11_now_118 (zk_224 hL) (by rw [(zl_224 hL)]; exact h.1) ?_
    replace h := h.2
    exact zj_iret dX11_now_119 rfl rfl h
  by_cases c9 : x1 = 9
  · refine zj_tabIn (tgt := 120) dX11_now_6 (by rw [c9]; decide) (by rw [c9]; decide) (by rw [c9]; rfl) (by decide) ?_
    replace h := h.2.2.2.2.2.2.2.2.2.1 c9
    refine zj_aload_n dX11_now_120 rfl rfl ?_
    refine zj_getI (ci := 11) (j := 8) dX11_now_121 wf_X11_134 (by decide) (by decide) (zk_223 hL) rfl ?_
    exact zj_iret dX11_now_124 rfl rfl h
  refine zj_tabOut (tgt := 125) dX11_now_6 (z_out_0_9 c0 c1 c2 c3 c4 c5 c6 c7 c8 c9) (by decide) ?_
  replace h := h.2.2.2.2.2.2.2.2.2.2 c0 c1 c2 c3 c4 c5 c6 c7 c8 c9
  refine zj_iconst (x := (-1)) dX11_now_125 rfl ?_
  exact zj_iret dX11_now_126 rfl rfl h
theorem sg_X11_number_0 {G : z_G} {d : Nat} {S : z_Shp} {v : z_Dat} {Q : Option Value → z_Shp → z_Dat → Prop} {x1 : Int32} {x2 : Int32} {x3 : Int32} (hL : z_L S)
    (h : z_J G d mX11_peek (0, [.ref 223], [], S, v) (fun r S1 v1 => ∃ y1 : Int32, r = some (.int y1) ∧ S1 = S ∧ ((y1 < 48 → (z_J G d mX11_bad (0, [.ref 223, .int 1, .int (v1 223 19)], [], S, v1) (fun r S1 v2 => ∃ y2 : Int32, r = some (.int y2) ∧ S1 = S ∧ (narrow .boolean (.int y2) = .int y2 ∧ Q (some (.int y2)) S v2)))) ∧ (¬ y1 < 48 → ((y1 ≤ 57 → (z_J G (d + 1) mX11_number (39, [.ref 223, .int x1, .int x2, .int x3, .int y1, .int (v1 223 19), .int 0], [], S, v1) Q)) ∧ (¬ y1 ≤ 57 → (z_J G d mX11_bad (0, [.ref 223, .int 1, .int (v1 223 19)], [], S, v1) (fun r S1 v3 => ∃ y3 : Int32, r = some (.int y3) ∧ S1 = S ∧ (narrow .boolean (.int y3) = .int y3 ∧ Q (some (.int y3)) S v3))))))))) :
    z_J G (d + 1) mX11_number (0, [.ref 223, .int x1, .int x2, .int x3, .null, .null, .null], [], S, v) Q := by
  refine zj_aload_n dX11_number_0 rfl rfl ?_
  refine zj_callV (M' := mX11_peek) (avs := []) (st := []) (ci := 11) dX11_number_1 wm_X11_peek wl_X11_199 wi_X11_peek ws_X11_peek (by decide) (zk_223 hL) rfl rfl (by decide) rfl (Nat.le_of_ble_eq_true rfl) (Nat.le_of_ble_eq_true rfl) ⟨Or.inl (z_k0 (zk_223 hL)), trivial⟩ trivial (z_J.mono h (fun r S1 v1 hq => ?_))
  obtain ⟨y1, rfl, rfl, h⟩ := hq
  refine zj_istore (ls2 := [.ref 223, .int x1, .int x2, .int x3, .int y1, .null, .null]) dX11_number_4 (by decide) rfl rfl ?_
  refine zj_iload dX11_number_6 rfl ?_
  refine zj_bipush (x := 48) dX11_number_8 rfl ?_
  refine zj_icmp_lt (tgt := 20) dX11_number_10 (by decide) (fun c => ?_) (fun c => ?_)
  · replace h := h.1 c
    refine zj_aload_n dX11_number_20 rfl rfl ?_
    refine zj_iconst (x := 1) dX11_number_21 rfl ?_
    refine zj_aload_n dX11_number_22 rfl rfl ?_
    refine zj_getI (ci := 11) (j := 19) dX11_number_23 wf_X11_187 (by decide) (by decide) (zk_223 hL) rfl ?_
    refine zj_callV (M' := mX11_bad) (avs := [.int 1, .int (v1 223 19)]) (st := []) (ci := 11) dX11_number_26 wm_X11_bad wl_X11_208 wi_X11_bad ws_X11_bad (by decide) (zk_223 hL) rfl rfl (by decide) rfl (Nat.le_of_ble_eq_true rfl) (Nat.le_of_ble_eq_true rfl) ⟨Or.inl (z_k0 (zk_223 hL)), trivial⟩ trivial (z_J.mono h (fun r S1 v2 hq => ?_))
    obtain ⟨y2, rfl, rfl, h⟩ := hq
    exact zj_iret dX11_number_29 rfl h.1 h.2
  · replace h := h.2 c
    refine zj_iload dX11_number_13 rfl ?_
    refine zj_bipush (x := 57) dX11_number_15 rfl ?_
    refine zj_icmp_le (tgt := 30) dX11_number_17 (by decide) (fun c => ?_) (fun c => ?_)
    · replace h := h.1 c
      refine zj_aload_n dX11_number_30 rfl rfl ?_
      refine zj_getI (ci := 11) (j := 19) dX11_number_31 wf_X11_187 (by decide) (by decide) (zk_223 hL) rfl ?_
      refine zj_istore (ls2 := [.ref 223, .int x1, .int x2, .int x3, .int y1, .int (v1 223 19), .null]) dX11_number_34 (by decide) rfl rfl ?_
      refine zj_iconst (x := 0) dX11_number_36 rfl ?_
      refine zj_istore (ls2 := [.ref 223, .int x1, .int x2, .int x3, .int y1, .int (v1 223 19), .int 0]) dX11_number_37 (by decide) rfl rfl ?_
      exact h
    · replace h := h.2 c
      refine zj_aload_n dX11_number_20 rfl rfl ?_
      refine zj_iconst (x := 1) dX11_number_21 rfl ?_
      refine zj_aload_n dX11_number_22 rfl rfl ?_
      refine zj_getI (ci := 11) (j := 19) dX11_number_23 wf_X11_187 (by decide) (by decide) (zk_223 hL) rfl ?_
      refine zj_callV (M' := mX11_bad) (avs := [.int 1, .int (v1 223 19)]) (st := []) (ci := 11) dX11_number_26 wm_X11_bad wl_X11_208 wi_X11_bad ws_X11_bad (by decide) (zk_223 hL) rfl rfl (by decide) rfl (Nat.le_of_ble_eq_true rfl) (Nat.le_of_ble_eq_true rfl) ⟨Or.inl (z_k0 (zk_223 hL)), trivial⟩ trivial (z_J.mono h (fun r S1 v3 hq => ?_))
      obtain ⟨y3, rfl, rfl, h⟩ := hq
      exact zj_iret dX11_number_29 rfl h.1 h.2
theorem sg_X11_number_39 {G : z_G} {d : Nat} {S : z_Shp} {v : z_Dat} {Q : Option Value → z_Shp → z_Dat → Prop} {x1 : Int32} {x2 : Int32} {x3 : Int32} {x4 : Int32} {x5 : Int32} {x6 : Int32} (hL : z_L S)
    (h : ((v 223 9) ≤ (v 223 19) → (vp_in x1 128 ∧ (∀ v1, v1 = z_u v 234 x1.toNatClampNeg x6 → (((x2 ≤ x6 ∧ x6 ≤ x3) → (Q (some (.int 1)) S v1)) ∧ (¬ (x2 ≤ x6 ∧ x6 ≤ x3) → (z_J G d mX11_bad (0, [.ref 223, .int 2, .int x5], [], S, v1) (fun r S1 v2 => ∃ y1 : Int32, r = some (.int y1) ∧ S1 = S ∧ ((y1 = 0 → (Q (some (.int 0)) S v2)) ∧ (¬ y1 = 0 → (Q (some (.int 1)) S v2)))))))))) ∧ (¬ (v 223 9) ≤ (v 223 19) → ((vp_in (v 223 19) 240) ∧ (((v 229 (v 223 19).toNatClampNeg) < 48 → (vp_in x1 128 ∧ (∀ v3, v3 = z_u v 234 x1.toNatClampNeg x6 → (((x2 ≤ x6 ∧ x6 ≤ x3) → (Q (some (.int 1)) S v3)) ∧ (¬ (x2 ≤ x6 ∧ x6 ≤ x3) → (z_J G d mX11_bad (0, [.ref 223, .int 2, .int x5], [], S, v3) (fun r S1 v4 => ∃ y2 : Int32, r = some (.int y2) ∧ S1 = S ∧ ((y2 = 0 → (Q (some (.int 0)) S v4)) ∧ (¬ y2 = 0 → (Q (some (.int 1)) S v4)))))))))) ∧ (¬ (v 229 (v 223 19).toNatClampNeg) < 48 → ((vp_in (v 223 19) 240) ∧ ((57 < (v 229 (v 223 19).toNatClampNeg) → (vp_in x1 128 ∧ (∀ v5, v5 = z_u v 234 x1.toNatClampNeg x6 → (((x2 ≤ x6 ∧ x6 ≤ x3) → (Q (some (.int 1)) S v5)) ∧ (¬ (x2 ≤ x6 ∧ x6 ≤ x3) → (z_J G d mX11_bad (0, [.ref 223, .int 2, .int x5], [], S, v5) (fun r S1 v6 => ∃ y3 : Int32, r = some (.int y3) ∧ S1 = S ∧ ((y3 = 0 → (Q (some (.int 0)) S v6)) ∧ (¬ y3 = 0 → (Q (some (.int 1)) S v6)))))))))) ∧ (¬ 57 < (v 229 (v 223 19).toNatClampNeg) → ((x6 ≤ 99 → ((vp_in (v 223 19) 240) ∧ (∀ v7, v7 = z_u v 223 19 ((v 223 19) + 1) → (z_J G (d + 1) mX11_number (39, [.ref 223, .int x1, .int x2, .int x3, .int x4, .int x5, .int ((((10 : Int32) * x6) + (v 229 (v 223 19).toNatClampNeg)) - 48)], [], S, v7) Q)))) ∧ (¬ x6 ≤ 99 → (∀ v8, v8 = z_u v 223 19 ((v 223 19) + 1) → (z_J G (d + 1) mX11_number (39, [.ref 223, .int x1, .int x2, .int x3, .int x4, .int x5, .int x6], [], S, v8) Q)))))))))))) :
    z_J G (d + 1) mX11_number (39, [.ref 223, .int x1, .int x2, .int x3, .int x4, .int x5, .int x6], [], S, v) Q := by
  refine zj_aload_n dX11_number_39 rfl rfl ?_
  refine zj_getI (ci := 11) (j := 19) dX11_number_40 wf_X11_187 (by decide) (by decide) (zk_223 hL) rfl ?_
  refine zj_aload_n dX11_number_43 rfl rfl ?_
  refine zj_getI (ci := 11) (j := 9) dX11_number_44 wf_X11_190 (by decide) (by decide) (zk_223 hL) rfl ?_
  refine zj_icmp_ge (tgt := 123) dX11_number_47 (by decide) (fun c => ?_) (fun c => ?_)
  · replace h := h.1 c
    refine zj_aload_n dX11_number_123 rfl rfl ?_
    refine zj_getR (ci := 11) (j := 15) dX11_number_124 wf_X11_46 (by decide) (by decide) (zk_223 hL) rfl (zr_223_15 hL) ?_
    refine zj_iload_n dX11_number_127 rfl rfl ?_
    refine zj_iload dX11_number_128 rfl ?_
    refine zj_iastore dX11_number_130 (zk_234 hL) (by rw [(zl_234 hL)]; exact h.1) (fun v1 ev1 => ?_)
    replace h := h.2 v1 ev1
    refine zj_iload dX11_number_131 rfl ?_
    refine zj_iload_n dX11_number_133 rfl rfl ?_
    refine zj_iload_n dX11_number_134 rfl rfl ?_
    refine zj_callS (M' := mX11_isIn) (avs := [.int x6, .int x2, .int x3]) (st := []) dX11_number_135 wm_X11_isIn wl_X11_144 wt_X11_isIn rfl (by decide) rfl (Nat.le_of_ble_eq_true rfl) (Nat.le_of_ble_eq_true rfl) ⟨Or.inl (z_k0 (zk_223 hL)), trivial⟩ trivial (hp_X11_isIn (fun c => ?_) (fun c => ?_))
    · replace h := h.1 c
      refine zj_if_ne (tgt := 151) dX11_number_138 (by decide) (fun _ => ?_) (fun q => absurd q (by decide))
      refine zj_iconst (x := 1) dX11_number_151 rfl ?_
      refine zj_goto (tgt := 156) dX11_number_152 (by decide) ?_
      exact zj_iret dX11_number_156 rfl (by decide) h
    · replace h := h.2 c
      refine zj_if_ne (tgt := 151) dX11_number_138 (by decide) (fun q => absurd (by decide) q) (fun _ => ?_)
      refine zj_aload_n dX11_number_141 rfl rfl ?_
      refine zj_iconst (x := 2) dX11_number_142 rfl ?_
      refine zj_iload dX11_number_143 rfl ?_
      refine zj_callV (M' := mX11_bad) (avs := [.int 2, .int x5]) (st := []) (ci := 11) dX11_number_145 wm_X11_bad wl_X11_208 wi_X11_bad ws_X11_bad (by decide) (zk_223 hL) rfl rfl (by decide) rfl (Nat.le_of_ble_eq_true rfl) (Nat.le_of_ble_eq_true rfl) ⟨Or.inl (z_k0 (zk_223 hL)), trivial⟩ trivial (z_J.mono h (fun r S1 v2 hq => ?_))
      obtain ⟨y1, rfl, rfl, h⟩ := hq
      refine zj_if_eq (tgt := 155) dX11_number_148 (by decide) (fun c => ?_) (fun c => ?_)
      · replace h := h.1 c
        refine zj_iconst (x := 0) dX11_number_155 rfl ?_
        exact zj_iret dX11_number_156 rfl (by decide) h
      · replace h := h.2 c
        refine zj_iconst (x := 1) dX11_number_151 rfl ?_
        refine zj_goto (tgt := 156) dX11_number_152 (by decide) ?_
        exact zj_iret dX11_number_156 rfl (by decide) h
  · replace h := h.2 c
    refine zj_aload_n dX11_number_50 rfl rfl ?_
    refine zj_getR (ci := 11) (j := 7) dX11_number_51 wf_X11_30 (by decide) (by decide) (zk_223 hL) rfl (zr_223_7 hL) ?_
    refine zj_aload_n dX11_number_54 rfl rfl ?_
    refine zj_getI (ci := 11) (j := 19) dX11_number_55 wf_X11_187 (by decide) (by decide) (zk_223 hL) rfl ?_
    refine zj_baload dX11_number_58 (zk_229 hL) (by rw [(zl_229 hL)]; exact h.1) ?_
    replace h := h.2
    refine zj_bipush (x := 48) dX11_number_59 rfl ?_
    refine zj_icmp_lt (tgt := 123) dX11_number_61 (by decide) (fun c => ?_) (fun c => ?_)
    · replace h := h.1 c
      refine zj_aload_n dX11_number_123 rfl rfl ?_
      refine zj_getR (ci := 11) (j := 15) dX11_number_124 wf_X11_46 (by decide) (by decide) (zk_223 hL) rfl (zr_223_15 hL) ?_
      refine zj_iload_n dX11_number_127 rfl rfl ?_
      refine zj_iload dX11_number_128 rfl ?_
      refine zj_iastore dX11_number_130 (zk_234 hL) (by rw [(zl_234 hL)]; exact h.1) (fun v3 ev3 => ?_)
      replace h := h.2 v3 ev3
      refine zj_iload dX11_number_131 rfl ?_
      refine zj_iload_n dX11_number_133 rfl rfl ?_
      refine zj_iload_n dX11_number_134 rfl rfl ?_
      refine zj_callS (M' := mX11_isIn) (avs := [.int x6, .int x2, .int x3]) (st := []) dX11_number_135 wm_X11_isIn wl_X11_144 wt_X11_isIn rfl (by decide) rfl (Nat.le_of_ble_eq_true rfl) (Nat.le_of_ble_eq_true rfl) ⟨Or.inl (z_k0 (zk_223 hL)), trivial⟩ trivial (hp_X11_isIn (fun c => ?_) (fun c => ?_))
      · replace h := h.1 c
        refine zj_if_ne (tgt := 151) dX11_number_138 (by decide) (fun _ => ?_) (fun q => absurd q (by decide))
        refine zj_iconst (x := 1) dX11_number_151 rfl ?_
        refine zj_goto (tgt := 156) dX11_number_152 (by decide) ?_
        exact zj_iret dX11_number_156 rfl (by decide) h
      · replace h := h.2 c
        refine zj_if_ne (tgt := 151) dX11_number_138 (by decide) (fun q => absurd (by decide) q) (fun _ => ?_)
        refine zj_aload_n dX11_number_141 rfl rfl ?_
        refine zj_iconst (x := 2) dX11_number_142 rfl ?_
        refine zj_iload dX11_number_143 rfl ?_
        refine zj_callV (M' := mX11_bad) (avs := [.int 2, .int x5]) (st := []) (ci := 11) dX11_number_145 wm_X11_bad wl_X11_208 wi_X11_bad ws_X11_bad (by decide) (zk_223 hL) rfl rfl (by decide) rfl (Nat.le_of_ble_eq_true rfl) (Nat.le_of_ble_eq_true rfl) ⟨Or.inl (z_k0 (zk_223 hL)), trivial⟩ trivial (z_J.mono h (fun r S1 v4 hq => ?_))
        obtain ⟨y2, rfl, rfl, h⟩ := hq
        refine zj_if_eq (tgt := 155) dX11_number_148 (by decide) (fun c => ?_) (fun c => ?_)
        · replace h := h.1 c
          refine zj_iconst (x := 0) dX11_number_155 rfl ?_
          exact zj_iret dX11_number_156 rfl (by decide) h
        · replace h := h.2 c
          refine zj_iconst (x := 1) dX11_number_151 rfl ?_
          refine zj_goto (tgt := 156) dX11_number_152 (by decide) ?_
          exact zj_iret dX11_number_156 rfl (by decide) h
    · replace h := h.2 c
      refine zj_aload_n dX11_number_64 rfl rfl ?_
      refine zj_getR (ci := 11) (j := 7) dX11_number_65 wf_X11_30 (by decide) (by decide) (zk_223 hL) rfl (zr_223_7 hL) ?_
      refine zj_aload_n dX11_number_68 rfl rfl ?_
      refine zj_getI (ci := 11) (j := 19) dX11_number_69 wf_X11_187 (by decide) (by decide) (zk_223 hL) rfl ?_
      refine zj_baload dX11_number_72 (zk_229 hL) (by rw [(zl_229 hL)]; exact h.1) ?_
      replace h := h.2
      refine zj_bipush (x := 57) dX11_number_73 rfl ?_
      refine zj_icmp_gt (tgt := 123) dX11_number_75 (by decide) (fun c => ?_) (fun c => ?_)
      · replace h := h.1 c
        refine zj_aload_n dX11_number_123 rfl rfl ?_
        refine zj_getR (ci := 11) (j := 15) dX11_number_124 wf_X11_46 (by decide) (by decide) (zk_223 hL) rfl (zr_223_15 hL) ?_
        refine zj_iload_n dX11_number_127 rfl rfl ?_
        refine zj_iload dX11_number_128 rfl ?_
        refine zj_iastore dX11_number_130 (zk_234 hL) (by rw [(zl_234 hL)]; exact h.1) (fun v5 ev5 => ?_)
        replace h := h.2 v5 ev5
        refine zj_iload dX11_number_131 rfl ?_
        refine zj_iload_n dX11_number_133 rfl rfl ?_
        refine zj_iload_n dX11_number_134 rfl rfl ?_
        refine zj_callS (M' := mX11_isIn) (avs := [.int x6, .int x2, .int x3]) (st := []) dX11_number_135 wm_X11_isIn wl_X11_144 wt_X11_isIn rfl (by decide) rfl (Nat.le_of_ble_eq_true rfl) (Nat.le_of_ble_eq_true rfl) ⟨Or.inl (z_k0 (zk_223 hL)), trivial⟩ trivial (hp_X11_isIn (fun c => ?_) (fun c => ?_))
        · replace h := h.1 c
          refine zj_if_ne (tgt := 151) dX11_number_138 (by decide) (fun _ => ?_) (fun q => absurd q (by decide))
          refine zj_iconst (x := 1) dX11_number_151 rfl ?_
          refine zj_goto (tgt := 156) dX11_number_152 (by decide) ?_
          exact zj_iret dX11_number_156 rfl (by decide) h
        · replace h := h.2 c
          refine zj_if_ne (tgt := 151) dX11_number_138 (by decide) (fun q => absurd (by decide) q) (fun _ => ?_)
          refine zj_aload_n dX11_number_141 rfl rfl ?_
          refine zj_iconst (x := 2) dX11_number_142 rfl ?_
          refine zj_iload dX11_number_143 rfl ?_
          refine zj_callV (M' := mX11_bad) (avs := [.int 2, .int x5]) (st := []) (ci := 11) dX11_number_145 wm_X11_bad wl_X11_208 wi_X11_bad ws_X11_bad (by decide) (zk_223 hL) rfl rfl (by decide) rfl (Nat.le_of_ble_eq_true rfl) (Nat.le_of_ble_eq_true rfl) ⟨Or.inl (z_k0 (zk_223 hL)), trivial⟩ trivial (z_J.mono h (fun r S1 v6 hq => ?_))
          obtain ⟨y3, rfl, rfl, h⟩ := hq
          refine zj_if_eq (tgt := 155) dX11_number_148 (by decide) (fun c => ?_) (fun c => ?_)
          · replace h := h.1 c
            refine zj_iconst (x := 0) dX11_number_155 rfl ?_
            exact zj_iret dX11_number_156 rfl (by decide) h
          · replace h := h.2 c
            refine zj_iconst (x := 1) dX11_number_151 rfl ?_
            refine zj_goto (tgt := 156) dX11_number_152 (by decide) ?_
            exact zj_iret dX11_number_156 rfl (by decide) h
      · replace h := h.2 c
        refine zj_iload dX11_number_78 rfl ?_
        refine zj_bipush (x := 99) dX11_number_80 rfl ?_
        refine zj_icmp_le (tgt := 90) dX11_number_82 (by decide) (fun c => ?_) (fun c => ?_)
        · replace h := h.1 c
          refine zj_bipush (x := 10) dX11_number_90 rfl ?_
          refine zj_iload dX11_number_92 rfl ?_
          refine zj_imul dX11_number_94 ?_
          refine zj_aload_n dX11_number_95 rfl rfl ?_
          refine zj_getR (ci := 11) (j := 7) dX11_number_96 wf_X11_30 (by decide) (by decide) (zk_223 hL) rfl (zr_223_7 hL) ?_
          refine zj_aload_n dX11_number_99 rfl rfl ?_
          refine zj_getI (ci := 11) (j := 19) dX11_number_100 wf_X11_187 (by decide) (by decide) (zk_223 hL) rfl ?_
          refine zj_baload dX11_number_103 (zk_229 hL) (by rw [(zl_229 hL)]; exact h.1) ?_
          replace h := h.2
          refine zj_iadd dX11_number_104 ?_
          refine zj_bipush (x := 48) dX11_number_105 rfl ?_
          refine zj_isub dX11_number_107 ?_
          refine zj_istore (ls2 := [.ref 223, .int x1, .int x2, .int x3, .int x4, .int x5, .int ((((10 : Int32) * x6) + (v 229 (v 223 19).toNatClampNeg)) - 48)]) dX11_number_108 (by decide) rfl rfl ?_
          refine zj_aload_n dX11_number_110 rfl rfl ?_
          refine zj_dup dX11_number_111 rfl ?_
          refine zj_getI (ci := 11) (j := 19) dX11_number_112 wf_X11_187 (by decide) (by decide) (zk_223 hL) rfl ?_
          refine zj_iconst (x := 1) dX11_number_115 rfl ?_
          refine zj_iadd dX11_number_116 ?_
          refine zj_putI (ci := 11) (j := 19) dX11_number_117 wf_X11_187 (by decide) (by decide) (zk_223 hL) rfl rfl rfl rfl (fun v7 ev7 => ?_)
          replace h := h v7 ev7
          refine zj_goto (tgt := 39) dX11_number_120 (by decide) ?_
          exact h
        · replace h := h.2 c
          refine zj_iload dX11_number_85 rfl ?_
          refine zj_goto (tgt := 108) dX11_number_87 (by decide) ?_
          refine zj_istore (ls2 := [.ref 223, .int x1, .int x2, .int x3, .int x4, .int x5, .int x6]) dX11_number_108 (by decide) rfl rfl ?_
          refine zj_aload_n dX11_number_110 rfl rfl ?_
          refine zj_dup dX11_number_111 rfl ?_
          refine zj_getI (ci := 11) (j := 19) dX11_number_112 wf_X11_187 (by decide) (by decide) (zk_223 hL) rfl ?_
          refine zj_iconst (x := 1) dX11_number_115 rfl ?_
          refine zj_iadd dX11_number_116 ?_
          refine zj_putI (ci := 11) (j := 19) dX11_number_117 wf_X11_187 (by decide) (by decide) (zk_223 hL) rfl rfl rfl rfl (fun v8 ev8 => ?_)
          replace h := h v8 ev8
          refine zj_goto (tgt := 39) dX11_number_120 (by decide) ?_
          exact h
theorem sg_X11_odds_0 {G : z_G} {d : Nat} {S : z_Shp} {v : z_Dat} {Q : Option Value → z_Shp → z_Dat → Prop} {x1 : Int32} {x2 : Int32} {x3 : Int32} {x4 : Int32} (hL : z_L S)
    (h : ∀ v1, v1 = z_u v 223 0 0 → (z_J G d mX11_isLike (0, [.ref 223, .int x1, .int x2], [], S, v1) (fun r S1 v2 => ∃ y1 : Int32, r = some (.int y1) ∧ S1 = S ∧ ((y1 = 0 → (Q (some (.long (-1))) S v2)) ∧ (¬ y1 = 0 → (((0 ≤ x3 ∧ x3 ≤ 99) → (((0 ≤ x4 ∧ x4 ≤ 99) → ((vp_in ((2 : Int32) + x1) 71) ∧ (z_J G d mX11_likes (0, [.ref 223, .int x1, .int (v2 224 ((2 : Int32) + x1).toNatClampNeg), .int 1, .null, .null, .null], [], S, v2) (fun r S1 v3 => r = none ∧ S1 = S ∧ (z_J G (d + 1) mX11_odds (59, [.ref 223, .int x1, .int x2, .int x3, .int x4, .long 0, .null, .int 0, .null, .null, .null], [], S, v3) Q))))) ∧ (¬ (0 ≤ x4 ∧ x4 ≤ 99) → (Q (some (.long (-1))) S v2)))) ∧ (¬ (0 ≤ x3 ∧ x3 ≤ 99) → (Q (some (.long (-1))) S v2)))))))) :
    z_J G (d + 1) mX11_odds (0, [.ref 223, .int x1, .int x2, .int x3, .int x4, .null, .null, .null, .null, .null, .null], [], S, v) Q := by
  refine zj_aload_n dX11_odds_0 rfl rfl ?_
  refine zj_iconst (x := 0) dX11_odds_1 rfl ?_
  refine zj_putI (ci := 11) (j := 0) dX11_odds_2 wf_X11_1 (by decide) (by decide) (zk_223 hL) rfl rfl rfl rfl (fun v1 ev1 => ?_)
  replace h := h v1 ev1
  refine zj_aload_n dX11_odds_5 rfl rfl ?_
  refine zj_iload_n dX11_odds_6 rfl rfl ?_
  refine zj_iload_n dX11_odds_7 rfl rfl ?_
  refine zj_callV (M' := mX11_isLike) (avs := [.int x1, .int x2]) (st := []) (ci := 11) dX11_odds_8 wm_X11_isLike wl_X11_373 wi_X11_isLike ws_X11_isLike (by decide) (zk_223 hL) rfl rfl (by decide) rfl (Nat.le_of_ble_eq_true rfl) (Nat.le_of_ble_eq_true rfl) ⟨Or.inl (z_k0 (zk_223 hL)), trivial⟩ trivial (z_J.mono h (fun r S1 v2 hq => ?_))
  obtain ⟨y1, rfl, rfl, h⟩ := hq
  refine zj_if_eq (tgt := 35) dX11_odds_11 (by decide) (fun c => ?_) (fun c => ?_)
  · replace h := h.1 c
    refine zj_ldc2 (x := (-1)) dX11_odds_35 wc_X11_382 ?_
    exact zj_lret dX11_odds_38 rfl h
  · replace h := h.2 c
    refine zj_iload_n dX11_odds_14 rfl rfl ?_
    refine zj_iconst (x := 0) dX11_odds_15 rfl ?_
    refine zj_bipush (x := 99) dX11_odds_16 rfl ?_
    refine zj_callS (M' := mX11_isIn) (avs := [.int x3, .int 0, .int 99]) (st := []) dX11_odds_18 wm_X11_isIn wl_X11_144 wt_X11_isIn rfl (by decide) rfl (Nat.le_of_ble_eq_true rfl) (Nat.le_of_ble_eq_true rfl) ⟨Or.inl (z_k0 (zk_223 hL)), trivial⟩ trivial (hp_X11_isIn (fun c => ?_) (fun c => ?_))
    · replace h := h.1 c
      refine zj_if_eq (tgt := 35) dX11_odds_21 (by decide) (fun q => absurd q (by decide)) (fun _ => ?_)
      refine zj_iload dX11_odds_24 rfl ?_
      refine zj_iconst (x := 0) dX11_odds_26 rfl ?_
      refine zj_bipush (x := 99) dX11_odds_27 rfl ?_
      refine zj_callS (M' := mX11_isIn) (avs := [.int x4, .int 0, .int 99]) (st := []) dX11_odds_29 wm_X11_isIn wl_X11_144 wt_X11_isIn rfl (by decide) rfl (Nat.le_of_ble_eq_true rfl) (Nat.le_of_ble_eq_true rfl) ⟨Or.inl (z_k0 (zk_223 hL)), trivial⟩ trivial (hp_X11_isIn (fun c => ?_) (fun c => ?_))
      · replace h := h.1 c
        refine zj_if_ne (tgt := 39) dX11_odds_32 (by decide) (fun _ => ?_) (fun q => absurd q (by decide))
        refine zj_aload_n dX11_odds_39 rfl rfl ?_
        refine zj_iload_n dX11_odds_40 rfl rfl ?_
        refine zj_aload_n dX11_odds_41 rfl rfl ?_
        refine zj_getR (ci := 11) (j := 1) dX11_odds_42 wf_X11_13 (by decide) (by decide) (zk_223 hL) rfl (zr_223_1 hL) ?_
        refine zj_iconst (x := 2) dX11_odds_45 rfl ?_
        refine zj_iload_n dX11_odds_46 rfl rfl ?_
        refine zj_iadd dX11_odds_47 ?_
        refine zj_iaload dX11_odds_48 (zk_224 hL) (by rw [(zl_224 hL)]; exact h.1) ?_
        replace h := h.2
        refine zj_iconst (x := 1) dX11_odds_49 rfl ?_
        refine zj_callV (M' := mX11_likes) (avs := [.int x1, .int (v2 224 ((2 : Int32) + x1).toNatClampNeg), .int 1]) (st := []) (ci := 11) dX11_odds_50 wm_X11_likes wl_X11_376 wi_X11_likes ws_X11_likes (by decide) (zk_223 hL) rfl rfl (by decide) rfl (Nat.le_of_ble_eq_true rfl) (Nat.le_of_ble_eq_true rfl) ⟨Or.inl (z_k0 (zk_223 hL)), trivial⟩ trivial (z_J.mono h (fun r S1 v3 hq => ?_))
        obtain ⟨rfl, rfl, h⟩ := hq
        refine zj_lconst (x := 0) dX11_odds_53 rfl ?_
        refine zj_lstore (ls2 := [.ref 223, .int x1, .int x2, .int x3, .int x4, .long 0, .null, .null, .null, .null, .null]) dX11_odds_54 (by decide) rfl rfl ?_
        refine zj_iconst (x := 0) dX11_odds_56 rfl ?_
        refine zj_istore (ls2 := [.ref 223, .int x1, .int x2, .int x3, .int x4, .long 0, .null, .int 0, .null, .null, .null]) dX11_odds_57 (by decide) rfl rfl ?_
        exact h
      · replace h := h.2 c
        refine zj_if_ne (tgt := 39) dX11_odds_32 (by decide) (fun q => absurd (by decide) q) (fun _ => ?_)
        refine zj_ldc2 (x := (-1)) dX11_odds_35 wc_X11_382 ?_
        exact zj_lret dX11_odds_38 rfl h
    · replace h := h.2 c
      refine zj_if_eq (tgt := 35) dX11_odds_21 (by decide) (fun _ => ?_) (fun q => absurd (by decide) q)
      refine zj_ldc2 (x := (-1)) dX11_odds_35 wc_X11_382 ?_
      exact zj_lret dX11_odds_38 rfl h
theorem sg_X11_odds_59 {G : z_G} {d : Nat} {S : z_Shp} {v : z_Dat} {Q : Option Value → z_Shp → z_Dat → Prop} {x1 : Int32} {x2 : Int32} {x3 : Int32} {x4 : Int32} {x5 : Int64} {x7 : Int32} (hL : z_L S)
    (h : (((v 224 0) * (v 224 0)) < x7 → (Q (some (.long x5)) S v)) ∧ (¬ ((v 224 0) * (v 224 0)) < x7 → ((vp_in (((26 : Int32) * x2) + x7) 52) ∧ (((v 259 (((26 : Int32) * x2) + x7).toNatClampNeg) = 0 → (z_J G (d + 1) mX11_odds (59, [.ref 223, .int x1, .int x2, .int x3, .int x4, .long x5, .null, .int (x7 + 1), .null, .null, .null], [], S, v) Q)) ∧ (¬ (v 259 (((26 : Int32) * x2) + x7).toNatClampNeg) = 0 → ((¬ x3 = 0 → ((¬ x4 = 0 → ((vp_in (((26 : Int32) * x2) + x7) 52) ∧ (z_J G (d + 1) mX11_odds (127, [.ref 223, .int x1, .int x2, .int x3, .int x4, .long x5, .null, .int x7, .long ((v 259 (((26 : Int32) * x2) + x7).toNatClampNeg).toInt64), .null, .int 0], [], S, v) Q))) ∧ (x4 = 0 → ((((v 224 0) * (v 224 0)) ≤ x7 → ((vp_in (((26 : Int32) * x2) + x7) 52) ∧ (z_J G (d + 1) mX11_odds (127, [.ref 223, .int x1, .int x2, .int x3, .int x4, .long x5, .null, .int x7, .long ((v 259 (((26 : Int32) * x2) + x7).toNatClampNeg).toInt64), .null, .int 0], [], S, v) Q))) ∧ (¬ ((v 224 0) * (v 224 0)) ≤ x7 → (z_J G (d + 1) mX11_odds (59, [.ref 223, .int x1, .int x2, .int x3, .int x4, .long x5, .null, .int (x7 + 1), .null, .null, .null], [], S, v) Q)))))) ∧ (x3 = 0 → ((0 < x7 → (z_J G (d + 1) mX11_odds (59, [.ref 223, .int x1, .int x2, .int x3, .int x4, .long x5, .null, .int (x7 + 1), .null, .null, .null], [], S, v) Q)) ∧ (¬ 0 < x7 → ((¬ x4 = 0 → ((vp_in (((26 : Int32) * x2) + x7) 52) ∧ (z_J G (d + 1) mX11_odds (127, [.ref 223, .int x1, .int x2, .int x3, .int x4, .long x5, .null, .int x7, .long ((v 259 (((26 : Int32) * x2) + x7).toNatClampNeg).toInt64), .null, .int 0], [], S, v) Q))) ∧ (x4 = 0 → ((((v 224 0) * (v 224 0)) ≤ x7 → ((vp_in (((26 : Int32) * x2) + x7) 52) ∧ (z_J G (d + 1) mX11_odds (127, [.ref 223, .int x1, .int x2, .int x3, .int x4, .long x5, .null, .int x7, .long ((v 259 (((26 : Int32) * x2) + x7).toNatClampNeg).toInt64), .null, .int 0], [], S, v) Q))) ∧ (¬ ((v 224 0) * (v 224 0)) ≤ x7 → (z_J G (d + 1) mX11_odds (59, [.ref 223, .int x1, .int x2, .int x3, .int x4, .long x5, .null, .int (x7 + 1), .null, .null, .null], [], S, v) Q)))))))))))))) :
    z_J G (d + 1) mX11_odds (59, [.ref 223, .int x1, .int x2, .int x3, .int x4, .long x5, .null, .int x7, .null, .null, .null], [], S, v) Q := by
  refine zj_iload dX11_odds_59 rfl ?_
  refine zj_aload_n dX11_odds_61 rfl rfl ?_
  refine zj_callV (M' := mX11_qubits) (avs := []) (st := [.int x7]) (ci := 11) dX11_odds_62 wm_X11_qubits wl_X11_148 wi_X11_qubits ws_X11_qubits (by decide) (zk_223 hL) rfl rfl (by decide) rfl (Nat.le_of_ble_eq_true rfl) (Nat.le_of_ble_eq_true rfl) ⟨Or.inl (z_k0 (zk_223 hL)), trivial⟩ trivial (hp_X11_qubits hL ?_)
  refine zj_icmp_gt (tgt := 200) dX11_odds_65 (by decide) (fun c => ?_) (fun c => ?_)
  · replace h := h.1 c
    refine zj_lload dX11_odds_200 rfl ?_
    exact zj_lret dX11_odds_202 rfl h
  · replace h := h.2 c
    refine zj_aload_n dX11_odds_68 rfl rfl ?_
    refine zj_getR (ci := 11) (j := 58) dX11_odds_69 wf_X11_121 (by decide) (by decide) (zk_223 hL) rfl (zr_223_58 hL) ?_
    refine zj_bipush (x := 26) dX11_odds_72 rfl ?_
    refine zj_iload_n dX11_odds_74 rfl rfl ?_
    refine zj_imul dX11_odds_75 ?_
    refine zj_iload dX11_odds_76 rfl ?_
    refine zj_iadd dX11_odds_78 ?_
    refine zj_iaload dX11_odds_79 (zk_259 hL) (by rw [(zl_259 hL)]; exact h.1) ?_
    replace h := h.2
    refine zj_if_eq (tgt := 194) dX11_odds_80 (by decide) (fun c => ?_) (fun c => ?_)
    · replace h := h.1 c
      refine zj_iinc (y := x7 + 1) (ls2 := [.ref 223, .int x1, .int x2, .int x3, .int x4, .long x5, .null, .int (x7 + 1), .null, .null, .null]) dX11_odds_194 rfl rfl (by decide) rfl rfl ?_
      refine zj_goto (tgt := 59) dX11_odds_197 (by decide) ?_
      exact h
    · replace h := h.2 c
      refine zj_iload_n dX11_odds_83 rfl rfl ?_
      refine zj_if_ne (tgt := 92) dX11_odds_84 (by decide) (fun c => ?_) (fun c => ?_)
      · replace h := h.1 c
        refine zj_iload dX11_odds_92 rfl ?_
        refine zj_if_ne (tgt := 109) dX11_odds_94 (by decide) (fun c => ?_) (fun c => ?_)
        · replace h := h.1 c
          refine zj_aload_n dX11_odds_109 rfl rfl ?_
          refine zj_getR (ci := 11) (j := 58) dX11_odds_110 wf_X11_121 (by decide) (by decide) (zk_223 hL) rfl (zr_223_58 hL) ?_
          refine zj_bipush (x := 26) dX11_odds_113 rfl ?_
          refine zj_iload_n dX11_odds_115 rfl rfl ?_
          refine zj_imul dX11_odds_116 ?_
          refine zj_iload dX11_odds_117 rfl ?_
          refine zj_iadd dX11_odds_119 ?_
          refine zj_iaload dX11_odds_120 (zk_259 hL) (by rw [(zl_259 hL)]; exact h.1) ?_
          replace h := h.2
          refine zj_i2l dX11_odds_121 ?_
          refine zj_lstore (ls2 := [.ref 223, .int x1, .int x2, .int x3, .int x4, .long x5, .null, .int x7, .long ((v 259 (((26 : Int32) * x2) + x7).toNatClampNeg).toInt64), .null, .null]) dX11_odds_122 (by decide) rfl rfl ?_
          refine zj_iconst (x := 0) dX11_odds_124 rfl ?_
          refine zj_istore (ls2 := [.ref 223, .int x1, .int x2, .int x3, .int x4, .long x5, .null, .int x7, .long ((v 259 (((26 : Int32) * x2) + x7).toNatClampNeg).toInt64), .null, .int 0]) dX11_odds_125 (by decide) rfl rfl ?_
          exact h
        · replace h := h.2 c
          refine zj_iload dX11_odds_97 rfl ?_
          refine zj_aload_n dX11_odds_99 rfl rfl ?_
          refine zj_callV (M' := mX11_qubits) (avs := []) (st := [.int x7]) (ci := 11) dX11_odds_100 wm_X11_qubits wl_X11_148 wi_X11_qubits ws_X11_qubits (by decide) (zk_223 hL) rfl rfl (by decide) rfl (Nat.le_of_ble_eq_true rfl) (Nat.le_of_ble_eq_true rfl) ⟨Or.inl (z_k0 (zk_223 hL)), trivial⟩ trivial (hp_X11_qubits hL ?_)
          refine zj_icmp_ge (tgt := 109) dX11_odds_103 (by decide) (fun c => ?_) (fun c => ?_)
          · replace h := h.1 c
            refine zj_aload_n dX11_odds_109 rfl rfl ?_
            refine zj_getR (ci := 11) (j := 58) dX11_odds_110 wf_X11_121 (by decide) (by decide) (zk_223 hL) rfl (zr_223_58 hL) ?_
            refine zj_bipush (x := 26) dX11_odds_113 rfl ?_
            refine zj_iload_n dX11_odds_115 rfl rfl ?_
            refine zj_imul dX11_odds_116 ?_
            refine zj_iload dX11_odds_117 rfl ?_
            refine zj_iadd dX11_odds_119 ?_
            refine zj_iaload dX11_odds_120 (zk_259 hL) (by rw [(zl_259 hL)]; exact h.1) ?_
            replace h := h.2
            refine zj_i2l dX11_odds_121 ?_
            refine zj_lstore (ls2 := [.ref 223, .int x1, .int x2, .int x3, .int x4, .long x5, .null, .int x7, .long ((v 259 (((26 : Int32) * x2) + x7).toNatClampNeg).toInt64), .null, .null]) dX11_odds_122 (by decide) rfl rfl ?_
            refine zj_iconst (x := 0) dX11_odds_124 rfl ?_
            refine zj_istore (ls2 := [.ref 223, .int x1, .int x2, .int x3, .int x4, .long x5, .null, .int x7, .long ((v 259 (((26 : Int32) * x2) + x7).toNatClampNeg).toInt64), .null, .int 0]) dX11_odds_125 (by decide) rfl rfl ?_
            exact h
          · replace h := h.2 c
            refine zj_goto (tgt := 194) dX11_odds_106 (by decide) ?_
            refine zj_iinc (y := x7 + 1) (ls2 := [.ref 223, .int x1, .int x2, .int x3, .int x4, .long x5, .null, .int (x7 + 1), .null, .null, .null]) dX11_odds_194 rfl rfl (by decide) rfl rfl ?_
            refine zj_goto (tgt := 59) dX11_odds_197 (by decide) ?_
            exact h
      · replace h := h.2 c
        refine zj_iload dX11_odds_87 rfl ?_
        refine zj_if_gt (tgt := 194) dX11_odds_89 (by decide) (fun c => ?_) (fun c => ?_)
        · replace h := h.1 c
          refine zj_iinc (y := x7 + 1) (ls2 := [.ref 223, .int x1, .int x2, .int x3, .int x4, .long x5, .null, .int (x7 + 1), .null, .null, .null]) dX11_odds_194 rfl rfl (by decide) rfl rfl ?_
          refine zj_goto (tgt := 59) dX11_odds_197 (by decide) ?_
          exact h
        · replace h := h.2 c
          refine zj_iload dX11_odds_92 rfl ?_
          refine zj_if_ne (tgt := 109) dX11_odds_94 (by decide) (fun c => ?_) (fun c => ?_)
          · replace h := h.1 c
            refine zj_aload_n dX11_odds_109 rfl rfl ?_
            refine zj_getR (ci := 11) (j := 58) dX11_odds_110 wf_X11_121 (by decide) (by decide) (zk_223 hL) rfl (zr_223_58 hL) ?_
            refine zj_bipush (x := 26) dX11_odds_113 rfl ?_
            refine zj_iload_n dX11_odds_115 rfl rfl ?_
            refine zj_imul dX11_odds_116 ?_
            refine zj_iload dX11_odds_117 rfl ?_
            refine zj_iadd dX11_odds_119 ?_
            refine zj_iaload dX11_odds_120 (zk_259 hL) (by rw [(zl_259 hL)]; exact h.1) ?_
            replace h := h.2
            refine zj_i2l dX11_odds_121 ?_
            refine zj_lstore (ls2 := [.ref 223, .int x1, .int x2, .int x3, .int x4, .long x5, .null, .int x7, .long ((v 259 (((26 : Int32) * x2) + x7).toNatClampNeg).toInt64), .null, .null]) dX11_odds_122 (by decide) rfl rfl ?_
            refine zj_iconst (x := 0) dX11_odds_124 rfl ?_
            refine zj_istore (ls2 := [.ref 223, .int x1, .int x2, .int x3, .int x4, .long x5, .null, .int x7, .long ((v 259 (((26 : Int32) * x2) + x7).toNatClampNeg).toInt64), .null, .int 0]) dX11_odds_125 (by decide) rfl rfl ?_
            exact h
          · replace h := h.2 c
            refine zj_iload dX11_odds_97 rfl ?_
            refine zj_aload_n dX11_odds_99 rfl rfl ?_
            refine zj_callV (M' := mX11_qubits) (avs := []) (st := [.int x7]) (ci := 11) dX11_odds_100 wm_X11_qubits wl_X11_148 wi_X11_qubits ws_X11_qubits (by decide) (zk_223 hL) rfl rfl (by decide) rfl (Nat.le_of_ble_eq_true rfl) (Nat.le_of_ble_eq_true rfl) ⟨Or.inl (z_k0 (zk_223 hL)), trivial⟩ trivial (hp_X11_qubits hL ?_)
            refine zj_icmp_ge (tgt := 109) dX11_odds_103 (by decide) (fun c => ?_) (fun c => ?_)
            · replace h := h.1 c
              refine zj_aload_n dX11_odds_109 rfl rfl ?_
              refine zj_getR (ci := 11) (j := 58) dX11_odds_110 wf_X11_121 (by decide) (by decide) (zk_223 hL) rfl (zr_223_58 hL) ?_
              refine zj_bipush (x := 26) dX11_odds_113 rfl ?_
              refine zj_iload_n dX11_odds_115 rfl rfl ?_
              refine zj_imul dX11_odds_116 ?_
              refine zj_iload dX11_odds_117 rfl ?_
              refine zj_iadd dX11_odds_119 ?_
              refine zj_iaload dX11_odds_120 (zk_259 hL) (by rw [(zl_259 hL)]; exact h.1) ?_
              replace h := h.2
              refine zj_i2l dX11_odds_121 ?_
              refine zj_lstore (ls2 := [.ref 223, .int x1, .int x2, .int x3, .int x4, .long x5, .null, .int x7, .long ((v 259 (((26 : Int32) * x2) + x7).toNatClampNeg).toInt64), .null, .null]) dX11_odds_122 (by decide) rfl rfl ?_
              refine zj_iconst (x := 0) dX11_odds_124 rfl ?_
              refine zj_istore (ls2 := [.ref 223, .int x1, .int x2, .int x3, .int x4, .long x5, .null, .int x7, .long ((v 259 (((26 : Int32) * x2) + x7).toNatClampNeg).toInt64), .null, .int 0]) dX11_odds_125 (by decide) rfl rfl ?_
              exact h
            · replace h := h.2 c
              refine zj_goto (tgt := 194) dX11_odds_106 (by decide) ?_
              refine zj_iinc (y := x7 + 1) (ls2 := [.ref 223, .int x1, .int x2, .int x3, .int x4, .long x5, .null, .int (x7 + 1), .null, .null, .null]) dX11_odds_194 rfl rfl (by decide) rfl rfl ?_
              refine zj_goto (tgt := 59) dX11_odds_197 (by decide) ?_
              exact h
theorem sg_X11_odds_127 {G : z_G} {d : Nat} {S : z_Shp} {v : z_Dat} {Q : Option Value → z_Shp → z_Dat → Prop} {x1 : Int32} {x2 : Int32} {x3 : Int32} {x4 : Int32} {x5 : Int64} {x7 : Int32} {x8 : Int64} {x10 : Int32} (hL : z_L S)
    (h : (((v 224 0) * (v 224 0)) ≤ x10 → (((lg_cmp x8 0) < 0 → (Q (some (.long (-1))) S v)) ∧ (¬ (lg_cmp x8 0) < 0 → (((lg_cmp x5 (9223372036854775807 - x8)) ≤ 0 → (z_J G (d + 1) mX11_odds (59, [.ref 223, .int x1, .int x2, .int x3, .int x4, .long (x5 + x8), .null, .int (x7 + 1), .null, .null, .null], [], S, v) Q)) ∧ (¬ (lg_cmp x5 (9223372036854775807 - x8)) ≤ 0 → (Q (some (.long (-1))) S v)))))) ∧ (¬ ((v 224 0) * (v 224 0)) ≤ x10 → ((x7 ≤ x10 → (z_J G d mX11_times (0, [.long x8, .null, .long x4.toInt64, .null], [], S, v) (fun r S1 v1 => ∃ y1 : Int64, r = some (.long y1) ∧ S1 = S ∧ (z_J G (d + 1) mX11_odds (127, [.ref 223, .int x1, .int x2, .int x3, .int x4, .long x5, .null, .int x7, .long y1, .null, .int (x10 + 1)], [], S, v1) Q)))) ∧ (¬ x7 ≤ x10 → (z_J G d mX11_times (0, [.long x8, .null, .long x3.toInt64, .null], [], S, v) (fun r S1 v2 => ∃ y2 : Int64, r = some (.long y2) ∧ S1 = S ∧ (z_J G (d + 1) mX11_odds (127, [.ref 223, .int x1, .int x2, .int x3, .int x4, .long x5, .null, .int x7, .long y2, .null, .int (x10 + 1)], [], S, v2) Q))))))) :
    z_J G (d + 1) mX11_odds (127, [.ref 223, .int x1, .int x2, .int x3, .int x4, .long x5, .null, .int x7, .long x8, .null, .int x10], [], S, v) Q := by
  refine zj_iload dX11_odds_127 rfl ?_
  refine zj_aload_n dX11_odds_129 rfl rfl ?_
  refine zj_callV (M' := mX11_qubits) (avs := []) (st := [.int x10]) (ci := 11) dX11_odds_130 wm_X11_qubits wl_X11_148 wi_X11_qubits ws_X11_qubits (by decide) (zk_223 hL) rfl rfl (by decide) rfl (Nat.le_of_ble_eq_true rfl) (Nat.le_of_ble_eq_true rfl) ⟨Or.inl (z_k0 (zk_223 hL)), trivial⟩ trivial (hp_X11_qubits hL ?_)
  refine zj_icmp_ge (tgt := 164) dX11_odds_133 (by decide) (fun c => ?_) (fun c => ?_)
  · replace h := h.1 c
    refine zj_lload dX11_odds_164 rfl ?_
    refine zj_lconst (x := 0) dX11_odds_166 rfl ?_
    refine zj_lcmp dX11_odds_167 ?_
    refine zj_if_lt (tgt := 183) dX11_odds_168 (by decide) (fun c => ?_) (fun c => ?_)
    · replace h := h.1 c
      refine zj_ldc2 (x := (-1)) dX11_odds_183 wc_X11_382 ?_
      exact zj_lret dX11_odds_186 rfl h
    · replace h := h.2 c
      refine zj_lload dX11_odds_171 rfl ?_
      refine zj_ldc2 (x := 9223372036854775807) dX11_odds_173 wc_X11_380 ?_
      refine zj_lload dX11_odds_176 rfl ?_
      refine zj_lsub dX11_odds_178 ?_
      refine zj_lcmp dX11_odds_179 ?_
      refine zj_if_le (tgt := 187) dX11_odds_180 (by decide) (fun c => ?_) (fun c => ?_)
      · replace h := h.1 c
        refine zj_lload dX11_odds_187 rfl ?_
        refine zj_lload dX11_odds_189 rfl ?_
        refine zj_ladd dX11_odds_191 ?_
        refine zj_lstore (ls2 := [.ref 223, .int x1, .int x2, .int x3, .int x4, .long (x5 + x8), .null, .int x7, .long x8, .null, .int x10]) dX11_odds_192 (by decide) rfl rfl ?_
        refine zj_iinc (y := x7 + 1) (ls2 := [.ref 223, .int x1, .int x2, .int x3, .int x4, .long (x5 + x8), .null, .int (x7 + 1), .long x8, .null, .int x10]) dX11_odds_194 rfl rfl (by decide) rfl rfl ?_
        refine zj_goto (tgt := 59) dX11_odds_197 (by decide) ?_
        refine zj_forget (ls2 := [.ref 223, .int x1, .int x2, .int x3, .int x4, .long (x5 + x8), .null, .int (x7 + 1), .null, .null, .null]) ⟨Or.inr rfl, Or.inr rfl, Or.inr rfl, Or.inr rfl, Or.inr rfl, Or.inr rfl, Or.inr rfl, Or.inr rfl, Or.inl rfl, Or.inr rfl, Or.inl rfl, trivial⟩ ?_
        exact h
      · replace h := h.2 c
        refine zj_ldc2 (x := (-1)) dX11_odds_183 wc_X11_382 ?_
        exact zj_lret dX11_odds_186 rfl h
  · replace h := h.2 c
    refine zj_lload dX11_odds_136 rfl ?_
    refine zj_iload dX11_odds_138 rfl ?_
    refine zj_iload dX11_odds_140 rfl ?_
    refine zj_icmp_ge (tgt := 150) dX11_odds_142 (by decide) (fun c => ?_) (fun c => ?_)
    · replace h := h.1 c
      refine zj_iload dX11_odds_150 rfl ?_
      refine zj_i2l dX11_odds_152 ?_
      refine zj_callS (M' := mX11_times) (avs := [.long x8, .long x4.toInt64]) (st := []) dX11_odds_153 wm_X11_times wl_X11_384 wt_X11_times rfl (by decide) rfl (Nat.le_of_ble_eq_true rfl) (Nat.le_of_ble_eq_true rfl) ⟨Or.inl (z_k0 (zk_223 hL)), trivial⟩ trivial (z_J.mono h (fun r S1 v1 hq => ?_))
      obtain ⟨y1, rfl, rfl, h⟩ := hq
      refine zj_lstore (ls2 := [.ref 223, .int x1, .int x2, .int x3, .int x4, .long x5, .null, .int x7, .long y1, .null, .int x10]) dX11_odds_156 (by decide) rfl rfl ?_
      refine zj_iinc (y := x10 + 1) (ls2 := [.ref 223, .int x1, .int x2, .int x3, .int x4, .long x5, .null, .int x7, .long y1, .null, .int (x10 + 1)]) dX11_odds_158 rfl rfl (by decide) rfl rfl ?_
      refine zj_goto (tgt := 127) dX11_odds_161 (by decide) ?_
      exact h
    · replace h := h.2 c
      refine zj_iload_n dX11_odds_145 rfl rfl ?_
      refine zj_i2l dX11_odds_146 ?_
      refine zj_goto (tgt := 153) dX11_odds_147 (by decide) ?_
      refine zj_callS (M' := mX11_times) (avs := [.long x8, .long x3.toInt64]) (st := []) dX11_odds_153 wm_X11_times wl_X11_384 wt_X11_times rfl (by decide) rfl (Nat.le_of_ble_eq_true rfl) (Nat.le_of_ble_eq_true rfl) ⟨Or.inl (z_k0 (zk_223 hL)), trivial⟩ trivial (z_J.mono h (fun r S1 v2 hq => ?_))
      obtain ⟨y2, rfl, rfl, h⟩ := hq
      refine zj_lstore (ls2 := [.ref 223, .int x1, .int x2, .int x3, .int x4, .long x5, .null, .int x7, .long y2, .null, .int x10]) dX11_odds_156 (by decide) rfl rfl ?_
      refine zj_iinc (y := x10 + 1) (ls2 := [.ref 223, .int x1, .int x2, .int x3, .int x4, .long x5, .null, .int x7, .long y2, .null, .int (x10 + 1)]) dX11_odds_158 rfl rfl (by decide) rfl rfl ?_
      refine zj_goto (tgt := 127) dX11_odds_161 (by decide) ?_
      exact h
theorem sg_X11_often_0 {G : z_G} {d : Nat} {S : z_Shp} {v : z_Dat} {Q : Option Value → z_Shp → z_Dat → Prop} {x1 : Int32} {x2 : Int32} {x3 : Int32} {x4 : Int32} {x5 : Int32} {x6 : Int32} (hL : z_L S)
    (h : ∀ v1, v1 = z_u v 223 0 0 → (((x1 = 0 ∨ x1 = 1) → (((0 ≤ x2 ∧ x2 ≤ 2) → (z_J G d mX11_canDraw (0, [.ref 223, .int x3, .int x4], [], S, v1) (fun r S1 v2 => ∃ y1 : Int32, r = some (.int y1) ∧ S1 = S ∧ ((y1 = 0 → (Q (some (.int (-1))) S v2)) ∧ (¬ y1 = 0 → (((1 ≤ x6 ∧ x6 ≤ 8) → (z_J G d mX11_copies (0, [.ref 223, .ref 224, .int 0, .ref 227, .int 0, .null], [], S, v2) (fun r S1 v3 => r = none ∧ S1 = S ∧ (z_J G (d + 1) mX11_often (64, [.ref 223, .int x1, .int x2, .int x3, .int x4, .int x5, .int x6, .int 0, .int 0, .null], [], S, v3) Q)))) ∧ (¬ (1 ≤ x6 ∧ x6 ≤ 8) → (Q (some (.int (-1))) S v2)))))))) ∧ (¬ (0 ≤ x2 ∧ x2 ≤ 2) → (Q (some (.int (-1))) S v1)))) ∧ (¬ (x1 = 0 ∨ x1 = 1) → (Q (some (.int (-1))) S v1)))) :
    z_J G (d + 1) mX11_often (0, [.ref 223, .int x1, .int x2, .int x3, .int x4, .int x5, .int x6, .null, .null, .null], [], S, v) Q := by
  refine zj_aload_n dX11_often_0 rfl rfl ?_
  refine zj_iconst (x := 0) dX11_often_1 rfl ?_
  refine zj_putI (ci := 11) (j := 0) dX11_often_2 wf_X11_1 (by decide) (by decide) (zk_223 hL) rfl rfl rfl rfl (fun v1 ev1 => ?_)
  replace h := h v1 ev1
  refine zj_iload_n dX11_often_5 rfl rfl ?_
  refine zj_callS (M' := mX11_isKind) (avs := [.int x1]) (st := []) dX11_often_6 wm_X11_isKind wl_X11_165 wt_X11_isKind rfl (by decide) rfl (Nat.le_of_ble_eq_true rfl) (Nat.le_of_ble_eq_true rfl) ⟨Or.inl (z_k0 (zk_223 hL)), trivial⟩ trivial (hp_X11_isKind (fun c => ?_) (fun c => ?_))
  · replace h := h.1 c
    refine zj_if_eq (tgt := 42) dX11_often_9 (by decide) (fun q => absurd q (by decide)) (fun _ => ?_)
    refine zj_iload_n dX11_often_12 rfl rfl ?_
    refine zj_iconst (x := 0) dX11_often_13 rfl ?_
    refine zj_iconst (x := 2) dX11_often_14 rfl ?_
    refine zj_callS (M' := mX11_isIn) (avs := [.int x2, .int 0, .int 2]) (st := []) dX11_often_15 wm_X11_isIn wl_X11_144 wt_X11_isIn rfl (by decide) rfl (Nat.le_of_ble_eq_true rfl) (Nat.le_of_ble_eq_true rfl) ⟨Or.inl (z_k0 (zk_223 hL)), trivial⟩ trivial (hp_X11_isIn (fun c => ?_) (fun c => ?_))
    · replace h := h.1 c
      refine zj_if_eq (tgt := 42) dX11_often_18 (by decide) (fun q => absurd q (by decide)) (fun _ => ?_)
      refine zj_aload_n dX11_often_21 rfl rfl ?_
      refine zj_iload_n dX11_often_22 rfl rfl ?_
      refine zj_iload dX11_often_23 rfl ?_
      refine zj_callV (M' := mX11_canDraw) (avs := [.int x3, .int x4]) (st := []) (ci := 11) dX11_often_25 wm_X11_canDraw wl_X11_404 wi_X11_canDraw ws_X11_canDraw (by decide) (zk_223 hL) rfl rfl (by decide) rfl (Nat.le_of_ble_eq_true rfl) (Nat.le_of_ble_eq_true rfl) ⟨Or.inl (z_k0 (zk_223 hL)), trivial⟩ trivial (z_J.mono h (fun r S1 v2 hq => ?_))
      obtain ⟨y1, rfl, rfl, h⟩ := hq
      refine zj_if_eq (tgt := 42) dX11_often_28 (by decide) (fun c => ?_) (fun c => ?_)
      · replace h := h.1 c
        refine zj_iconst (x := (-1)) dX11_often_42 rfl ?_
        exact zj_iret dX11_often_43 rfl rfl h
      · replace h := h.2 c
        refine zj_iload dX11_often_31 rfl ?_
        refine zj_iconst (x := 1) dX11_often_33 rfl ?_
        refine zj_bipush (x := 8) dX11_often_34 rfl ?_
        refine zj_callS (M' := mX11_isIn) (avs := [.int x6, .int 1, .int 8]) (st := []) dX11_often_36 wm_X11_isIn wl_X11_144 wt_X11_isIn rfl (by decide) rfl (Nat.le_of_ble_eq_true rfl) (Nat.le_of_ble_eq_true rfl) ⟨Or.inl (z_k0 (zk_223 hL)), trivial⟩ trivial (hp_X11_isIn (fun c => ?_) (fun c => ?_))
        · replace h := h.1 c
          refine zj_if_ne (tgt := 44) dX11_often_39 (by decide) (fun _ => ?_) (fun q => absurd q (by decide))
          refine zj_aload_n dX11_often_44 rfl rfl ?_
          refine zj_aload_n dX11_often_45 rfl rfl ?_
          refine zj_getR (ci := 11) (j := 1) dX11_often_46 wf_X11_13 (by decide) (by decide) (zk_223 hL) rfl (zr_223_1 hL) ?_
          refine zj_iconst (x := 0) dX11_often_49 rfl ?_
          refine zj_aload_n dX11_often_50 rfl rfl ?_
          refine zj_getR (ci := 11) (j := 4) dX11_often_51 wf_X11_23 (by decide) (by decide) (zk_223 hL) rfl (zr_223_4 hL) ?_
          refine zj_iconst (x := 0) dX11_often_54 rfl ?_
          refine zj_callV (M' := mX11_copies) (avs := [.ref 224, .int 0, .ref 227, .int 0]) (st := []) (ci := 11) dX11_often_55 wm_X11_copies wl_X11_183 wi_X11_copies ws_X11_copies (by decide) (zk_223 hL) rfl rfl (by decide) rfl (Nat.le_of_ble_eq_true rfl) (Nat.le_of_ble_eq_true rfl) ⟨Or.inl (z_k0 (zk_223 hL)), trivial⟩ trivial (z_J.mono h (fun r S1 v3 hq => ?_))
          obtain ⟨rfl, rfl, h⟩ := hq
          refine zj_iconst (x := 0) dX11_often_58 rfl ?_
          refine zj_istore (ls2 := [.ref 223, .int x1, .int x2, .int x3, .int x4, .int x5, .int x6, .int 0, .null, .null]) dX11_often_59 (by decide) rfl rfl ?_
          refine zj_iconst (x := 0) dX11_often_61 rfl ?_
          refine zj_istore (ls2 := [.ref 223, .int x1, .int x2, .int x3, .int x4, .int x5, .int x6, .int 0, .int 0, .null]) dX11_often_62 (by decide) rfl rfl ?_
          exact h
        · replace h := h.2 c
          refine zj_if_ne (tgt := 44) dX11_often_39 (by decide) (fun q => absurd (by decide) q) (fun _ => ?_)
          refine zj_iconst (x := (-1)) dX11_often_42 rfl ?_
          exact zj_iret dX11_often_43 rfl rfl h
    · replace h := h.2 c
      refine zj_if_eq (tgt := 42) dX11_often_18 (by decide) (fun _ => ?_) (fun q => absurd (by decide) q)
      refine zj_iconst (x := (-1)) dX11_often_42 rfl ?_
      exact zj_iret dX11_often_43 rfl rfl h
  · replace h := h.2 c
    refine zj_if_eq (tgt := 42) dX11_often_9 (by decide) (fun _ => ?_) (fun q => absurd (by decide) q)
    refine zj_iconst (x := (-1)) dX11_often_42 rfl ?_
    exact zj_iret dX11_often_43 rfl rfl h
theorem sg_X11_often_64 {G : z_G} {d : Nat} {S : z_Shp} {v : z_Dat} {Q : Option Value → z_Shp → z_Dat → Prop} {x1 : Int32} {x2 : Int32} {x3 : Int32} {x4 : Int32} {x5 : Int32} {x6 : Int32} {x7 : Int32} {x8 : Int32} (hL : z_L S)
    (h : (x6 ≤ x8 → (Q (some (.int x7)) S v)) ∧ (¬ x6 ≤ x8 → (z_J G d mX11_draws (0, [.ref 223, .int x3, .int x4, .int (x5 + x8), .null, .null, .null, .null], [], S, v) (fun r S1 v1 => ∃ y1 : Int32, r = some (.int y1) ∧ S1 = S ∧ ((y1 < 0 → (z_J G d mX11_copies (0, [.ref 223, .ref 227, .int 0, .ref 224, .int 0, .null], [], S, v1) (fun r S1 v2 => r = none ∧ S1 = S ∧ (z_J G (d + 1) mX11_often (64, [.ref 223, .int x1, .int x2, .int x3, .int x4, .int x5, .int x6, .int x7, .int (x8 + 1), .null], [], S, v2) Q)))) ∧ (¬ y1 < 0 → (z_J G d mX11_corrects (0, [.ref 223, .int x1, .int x2], [], S, v1) (fun r S1 v3 => ∃ y2 : Int32, r = some (.int y2) ∧ S1 = S ∧ ((y2 = 0 → (z_J G d mX11_copies (0, [.ref 223, .ref 227, .int 0, .ref 224, .int 0, .null], [], S, v3) (fun r S1 v4 => r = none ∧ S1 = S ∧ (z_J G (d + 1) mX11_often (64, [.ref 223, .int x1, .int x2, .int x3, .int x4, .int x5, .int x6, .int x7, .int (x8 + 1), .null], [], S, v4) Q)))) ∧ (¬ y2 = 0 → ((vp_in ((2 : Int32) + x1) 71) ∧ (z_J G d mX11_logical (0, [.ref 223, .int x1, .int ((v3 224 ((2 : Int32) + x1).toNatClampNeg) ^^^ (v3 223 62))], [], S, v3) (fun r S1 v5 => ∃ y3 : Int32, r = some (.int y3) ∧ S1 = S ∧ (z_J G d mX11_copies (0, [.ref 223, .ref 227, .int 0, .ref 224, .int 0, .null], [], S, v5) (fun r S1 v6 => r = none ∧ S1 = S ∧ (z_J G (d + 1) mX11_often (64, [.ref 223, .int x1, .int x2, .int x3, .int x4, .int x5, .int x6, .int (x7 + y3), .int (x8 + 1), .null], [], S, v6) Q)))))))))))))))) :
    z_J G (d + 1) mX11_often (64, [.ref 223, .int x1, .int x2, .int x3, .int x4, .int x5, .int x6, .int x7, .int x8, .null], [], S, v) Q := by
  refine zj_iload dX11_often_64 rfl ?_
  refine zj_iload dX11_often_66 rfl ?_
  refine zj_icmp_ge (tgt := 142) dX11_often_68 (by decide) (fun c => ?_) (fun c => ?_)
  · replace h := h.1 c
    refine zj_iload dX11_often_142 rfl ?_
    exact zj_iret dX11_often_144 rfl rfl h
  · replace h := h.2 c
    refine zj_aload_n dX11_often_71 rfl rfl ?_
    refine zj_iload_n dX11_often_72 rfl rfl ?_
    refine zj_iload dX11_often_73 rfl ?_
    refine zj_iload dX11_often_75 rfl ?_
    refine zj_iload dX11_often_77 rfl ?_
    refine zj_iadd dX11_often_79 ?_
    refine zj_callV (M' := mX11_draws) (avs := [.int x3, .int x4, .int (x5 + x8)]) (st := []) (ci := 11) dX11_often_80 wm_X11_draws wl_X11_407 wi_X11_draws ws_X11_draws (by decide) (zk_223 hL) rfl rfl (by decide) rfl (Nat.le_of_ble_eq_true rfl) (Nat.le_of_ble_eq_true rfl) ⟨Or.inl (z_k0 (zk_223 hL)), trivial⟩ trivial (z_J.mono h (fun r S1 v1 hq => ?_))
    obtain ⟨y1, rfl, rfl, h⟩ := hq
    refine zj_istore (ls2 := [.ref 223, .int x1, .int x2, .int x3, .int x4, .int x5, .int x6, .int x7, .int x8, .int y1]) dX11_often_83 (by decide) rfl rfl ?_
    refine zj_iload dX11_often_85 rfl ?_
    refine zj_if_lt (tgt := 122) dX11_often_87 (by decide) (fun c => ?_) (fun c => ?_)
    · replace h := h.1 c
      refine zj_aload_n dX11_often_122 rfl rfl ?_
      refine zj_aload_n dX11_often_123 rfl rfl ?_
      refine zj_getR (ci := 11) (j := 4) dX11_often_124 wf_X11_23 (by decide) (by decide) (zk_223 hL) rfl (zr_223_4 hL) ?_
      refine zj_iconst (x := 0) dX11_often_127 rfl ?_
      refine zj_aload_n dX11_often_128 rfl rfl ?_
      refine zj_getR (ci := 11) (j := 1) dX11_often_129 wf_X11_13 (by decide) (by decide) (zk_223 hL) rfl (zr_223_1 hL) ?_
      refine zj_iconst (x := 0) dX11_often_132 rfl ?_
      refine zj_callV (M' := mX11_copies) (avs := [.ref 227, .int 0, .ref 224, .int 0]) (st := []) (ci := 11) dX11_often_133 wm_X11_copies wl_X11_183 wi_X11_copies ws_X11_copies (by decide) (zk_223 hL) rfl rfl (by decide) rfl (Nat.le_of_ble_eq_true rfl) (Nat.le_of_ble_eq_true rfl) ⟨Or.inl (z_k0 (zk_223 hL)), trivial⟩ trivial (z_J.mono h (fun r S1 v2 hq => ?_))
      obtain ⟨rfl, rfl, h⟩ := hq
      refine zj_iinc (y := x8 + 1) (ls2 := [.ref 223, .int x1, .int x2, .int x3, .int x4, .int x5, .int x6, .int x7, .int (x8 + 1), .int y1]) dX11_often_136 rfl rfl (by decide) rfl rfl ?_
      refine zj_goto (tgt := 64) dX11_often_139 (by decide) ?_
      refine zj_forget (ls2 := [.ref 223, .int x1, .int x2, .int x3, .int x4, .int x5, .int x6, .int x7, .int (x8 + 1), .null]) ⟨Or.inr rfl, Or.inr rfl, Or.inr rfl, Or.inr rfl, Or.inr rfl, Or.inr rfl, Or.inr rfl, Or.inr rfl, Or.inr rfl, Or.inl rfl, trivial⟩ ?_
      exact h
    · replace h := h.2 c
      refine zj_aload_n dX11_often_90 rfl rfl ?_
      refine zj_iload_n dX11_often_91 rfl rfl ?_
      refine zj_iload_n dX11_often_92 rfl rfl ?_
      refine zj_callV (M' := mX11_corrects) (avs := [.int x1, .int x2]) (st := []) (ci := 11) dX11_often_93 wm_X11_corrects wl_X11_391 wi_X11_corrects ws_X11_corrects (by decide) (zk_223 hL) rfl rfl (by decide) rfl (Nat.le_of_ble_eq_true rfl) (Nat.le_of_ble_eq_true rfl) ⟨Or.inl (z_k0 (zk_223 hL)), trivial⟩ trivial (z_J.mono h (fun r S1 v3 hq => ?_))
      obtain ⟨y2, rfl, rfl, h⟩ := hq
      refine zj_if_eq (tgt := 122) dX11_often_96 (by decide) (fun c => ?_) (fun c => ?_)
      · replace h := h.1 c
        refine zj_aload_n dX11_often_122 rfl rfl ?_
        refine zj_aload_n dX11_often_123 rfl rfl ?_
        refine zj_getR (ci := 11) (j := 4) dX11_often_124 wf_X11_23 (by decide) (by decide) (zk_223 hL) rfl (zr_223_4 hL) ?_
        refine zj_iconst (x := 0) dX11_often_127 rfl ?_
        refine zj_aload_n dX11_often_128 rfl rfl ?_
        refine zj_getR (ci := 11) (j := 1) dX11_often_129 wf_X11_13 (by decide) (by decide) (zk_223 hL) rfl (zr_223_1 hL) ?_
        refine zj_iconst (x := 0) dX11_often_132 rfl ?_
        refine zj_callV (M' := mX11_copies) (avs := [.ref 227, .int 0, .ref 224, .int 0]) (st := []) (ci := 11) dX11_often_133 wm_X11_copies wl_X11_183 wi_X11_copies ws_X11_copies (by decide) (zk_223 hL) rfl rfl (by decide) rfl (Nat.le_of_ble_eq_true rfl) (Nat.le_of_ble_eq_true rfl) ⟨Or.inl (z_k0 (zk_223 hL)), trivial⟩ trivial (z_J.mono h (fun r S1 v4 hq => ?_))
        obtain ⟨rfl, rfl, h⟩ := hq
        refine zj_iinc (y := x8 + 1) (ls2 := [.ref 223, .int x1, .int x2, .int x3, .int x4, .int x5, .int x6, .int x7, .int (x8 + 1), .int y1]) dX11_often_136 rfl rfl (by decide) rfl rfl ?_
        refine zj_goto (tgt := 64) dX11_often_139 (by decide) ?_
        refine zj_forget (ls2 := [.ref 223, .int x1, .int x2, .int x3, .int x4, .int x5, .int x6, .int x7, .int (x8 + 1), .null]) ⟨Or.inr rfl, Or.inr rfl, Or.inr rfl, Or.inr rfl, Or.inr rfl, Or.inr rfl, Or.inr rfl, Or.inr rfl, Or.inr rfl, Or.inl rfl, trivial⟩ ?_
        exact h
      · replace h := h.2 c
        refine zj_iload dX11_often_99 rfl ?_
        refine zj_aload_n dX11_often_101 rfl rfl ?_
        refine zj_iload_n dX11_often_102 rfl rfl ?_
        refine zj_aload_n dX11_often_103 rfl rfl ?_
        refine zj_getR (ci := 11) (j := 1) dX11_often_104 wf_X11_13 (by decide) (by decide) (zk_223 hL) rfl (zr_223_1 hL) ?_
        refine zj_iconst (x := 2) dX11_often_107 rfl ?_
        refine zj_iload_n dX11_often_108 rfl rfl ?_
        refine zj_iadd dX11_often_109 ?_
        refine zj_iaload dX11_often_110 (zk_224 hL) (by rw [(zl_224 hL)]; exact h.1) ?_
        replace h := h.2
        refine zj_aload_n dX11_often_111 rfl rfl ?_
        refine zj_getI (ci := 11) (j := 62) dX11_often_112 wf_X11_388 (by decide) (by decide) (zk_223 hL) rfl ?_
        refine zj_ixor dX11_often_115 ?_
        refine zj_callV (M' := mX11_logical) (avs := [.int x1, .int ((v3 224 ((2 : Int32) + x1).toNatClampNeg) ^^^ (v3 223 62))]) (st := [.int x7]) (ci := 11) dX11_often_116 wm_X11_logical wl_X11_370 wi_X11_logical ws_X11_logical (by decide) (zk_223 hL) rfl rfl (by decide) rfl (Nat.le_of_ble_eq_true rfl) (Nat.le_of_ble_eq_true rfl) ⟨Or.inl (z_k0 (zk_223 hL)), trivial⟩ trivial (z_J.mono h (fun r S1 v5 hq => ?_))
        obtain ⟨y3, rfl, rfl, h⟩ := hq
        refine zj_iadd dX11_often_119 ?_
        refine zj_istore (ls2 := [.ref 223, .int x1, .int x2, .int x3, .int x4, .int x5, .int x6, .int (x7 + y3), .int x8, .int y1]) dX11_often_120 (by decide) rfl rfl ?_
        refine zj_aload_n dX11_often_122 rfl rfl ?_
        refine zj_aload_n dX11_often_123 rfl rfl ?_
        refine zj_getR (ci := 11) (j := 4) dX11_often_124 wf_X11_23 (by decide) (by decide) (zk_223 hL) rfl (zr_223_4 hL) ?_
        refine zj_iconst (x := 0) dX11_often_127 rfl ?_
        refine zj_aload_n dX11_often_128 rfl rfl ?_
        refine zj_getR (ci := 11) (j := 1) dX11_often_129 wf_X11_13 (by decide) (by decide) (zk_223 hL) rfl (zr_223_1 hL) ?_
        refine zj_iconst (x := 0) dX11_often_132 rfl ?_
        refine zj_callV (M' := mX11_copies) (avs := [.ref 227, .int 0, .ref 224, .int 0]) (st := []) (ci := 11) dX11_often_133 wm_X11_copies wl_X11_183 wi_X11_copies ws_X11_copies (by decide) (zk_223 hL) rfl rfl (by decide) rfl (Nat.le_of_ble_eq_true rfl) (Nat.le_of_ble_eq_true rfl) ⟨Or.inl (z_k0 (zk_223 hL)), trivial⟩ trivial (z_J.mono h (fun r S1 v6 hq => ?_))
        obtain ⟨rfl, rfl, h⟩ := hq
        refine zj_iinc (y := x8 + 1) (ls2 := [.ref 223, .int x1, .int x2, .int x3, .int x4, .int x5, .int x6, .int (x7 + y3), .int (x8 + 1), .int y1]) dX11_often_136 rfl rfl (by decide) rfl rfl ?_
        refine zj_goto (tgt := 64) dX11_often_139 (by decide) ?_
        refine zj_forget (ls2 := [.ref 223, .int x1, .int x2, .int x3, .int x4, .int x5, .int x6, .int (x7 + y3), .int (x8 + 1), .null]) ⟨Or.inr rfl, Or.inr rfl, Or.inr rfl, Or.inr rfl, Or.inr rfl, Or.inr rfl, Or.inr rfl, Or.inr rfl, Or.inr rfl, Or.inl rfl, trivial⟩ ?_
        exact h
theorem sg_X11_opens_0 {G : z_G} {d : Nat} {S : z_Shp} {v : z_Dat} {Q : Option Value → z_Shp → z_Dat → Prop} {x1 : Int32} (hL : z_L S)
    (h : (¬ x1 = (v 223 32) → (z_J G d mX11_leaderOf (0, [.ref 223, .int x1, .null], [], S, v) (fun r S1 v1 => ∃ y1 : Int32, r = some (.int y1) ∧ S1 = S ∧ ((vp_in y1 109) ∧ (Q (some (.int (v1 251 y1.toNatClampNeg))) S v1))))) ∧ (x1 = (v 223 32) → (Q (some (.int 0)) S v))) :
    z_J G (d + 1) mX11_opens (0, [.ref 223, .int x1], [], S, v) Q := by
  refine zj_iload_n dX11_opens_0 rfl rfl ?_
  refine zj_aload_n dX11_opens_1 rfl rfl ?_
  refine zj_getI (ci := 11) (j := 32) dX11_opens_2 wf_X11_254 (by decide) (by decide) (zk_223 hL) rfl ?_
  refine zj_icmp_ne (tgt := 12) dX11_opens_5 (by decide) (fun c => ?_) (fun c => ?_)
  · replace h := h.1 c
    refine zj_aload_n dX11_opens_12 rfl rfl ?_
    refine zj_getR (ci := 11) (j := 45) dX11_opens_13 wf_X11_97 (by decide) (by decide) (zk_223 hL) rfl (zr_223_45 hL) ?_
    refine zj_aload_n dX11_opens_16 rfl rfl ?_
    refine zj_iload_n dX11_opens_17 rfl rfl ?_
    refine zj_callV (M' := mX11_leaderOf) (avs := [.int x1]) (st := [.ref 251]) (ci := 11) dX11_opens_18 wm_X11_leaderOf wl_X11_308 wi_X11_leaderOf ws_X11_leaderOf (by decide) (zk_223 hL) rfl rfl (by decide) rfl (Nat.le_of_ble_eq_true rfl) (Nat.le_of_ble_eq_true rfl) ⟨Or.inl (z_k0 (zk_223 hL)), trivial⟩ ⟨Or.inl (z_k0 (zk_251 hL)), trivial⟩ (z_J.mono h (fun r S1 v1 hq => ?_))
    obtain ⟨y1, rfl, rfl, h⟩ := hq
    refine zj_iaload dX11_opens_21 (zk_251 hL) (by rw [(zl_251 hL)]; exact h.1) ?_
    replace h := h.2
    exact zj_iret dX11_opens_22 rfl rfl h
  · replace h := h.2 c
    refine zj_iconst (x := 0) dX11_opens_8 rfl ?_
    refine zj_goto (tgt := 22) dX11_opens_9 (by decide) ?_
    exact zj_iret dX11_opens_22 rfl rfl h
theorem sg_X11_pair_0 {G : z_G} {d : Nat} {S : z_Shp} {v : z_Dat} {Q : Option Value → z_Shp → z_Dat → Prop} {x1 : Int32} (hL : z_L S)
    (h : ∀ v1, v1 = z_u v 223 0 0 → (((x1 = 0 ∨ x1 = 1) → (z_J G d mX11_pairs (0, [.ref 223, .int x1, .null, .null], [], S, v1) (fun r S1 v2 => ∃ y1 : Int32, r = some (.int y1) ∧ S1 = S ∧ ((¬ y1 = 0 → (z_J G d mX11_chooses (0, [.ref 223, .null, .null, .null], [], S, v2) (fun r S1 v3 => r = none ∧ S1 = S ∧ (∀ v4, v4 = z_u v3 223 42 (v3 223 33) → (z_J G (d + 1) mX11_pair (36, [.ref 223, .int x1, .int 0], [], S, v4) Q))))) ∧ (y1 = 0 → (Q (some (.int (-1))) S v2)))))) ∧ (¬ (x1 = 0 ∨ x1 = 1) → (Q (some (.int (-1))) S v1)))) :
    z_J G (d + 1) mX11_pair (0, [.ref 223, .int x1, .null], [], S, v) Q := by
  refine zj_aload_n dX11_pair_0 rfl rfl ?_
  refine zj_iconst (x := 0) dX11_pair_1 rfl ?_
  refine zj_putI (ci := 11) (j := 0) dX11_pair_2 wf_X11_1 (by decide) (by decide) (zk_223 hL) rfl rfl rfl rfl (fun v1 ev1 => ?_)
  replace h := h v1 ev1
  refine zj_iload_n dX11_pair_5 rfl rfl ?_
  refine zj_callS (M' := mX11_isKind) (avs := [.int x1]) (st := []) dX11_pair_6 wm_X11_isKind wl_X11_165 wt_X11_isKind rfl (by decide) rfl (Nat.le_of_ble_eq_true rfl) (Nat.le_of_ble_eq_true rfl) ⟨Or.inl (z_k0 (zk_223 hL)), trivial⟩ trivial (hp_X11_isKind (fun c => ?_) (fun c => ?_))
  · replace h := h.1 c
    refine zj_if_eq (tgt := 20) dX11_pair_9 (by decide) (fun q => absurd q (by decide)) (fun _ => ?_)
    refine zj_aload_n dX11_pair_12 rfl rfl ?_
    refine zj_iload_n dX11_pair_13 rfl rfl ?_
    refine zj_callV (M' := mX11_pairs) (avs := [.int x1]) (st := []) (ci := 11) dX11_pair_14 wm_X11_pairs wl_X11_299 wi_X11_pairs ws_X11_pairs (by decide) (zk_223 hL) rfl rfl (by decide) rfl (Nat.le_of_ble_eq_true rfl) (Nat.le_of_ble_eq_true rfl) ⟨Or.inl (z_k0 (zk_223 hL)), trivial⟩ trivial (z_J.mono h (fun r S1 v2 hq => ?_))
    obtain ⟨y1, rfl, rfl, h⟩ := hq
    refine zj_if_ne (tgt := 22) dX11_pair_17 (by decide) (fun c => ?_) (fun c => ?_)
    · replace h := h.1 c
      refine zj_aload_n dX11_pair_22 rfl rfl ?_
      refine zj_callV (M' := mX11_chooses) (avs := []) (st := []) (ci := 11) dX11_pair_23 wm_X11_chooses wl_X11_302 wi_X11_chooses ws_X11_chooses (by decide) (zk_223 hL) rfl rfl (by decide) rfl (Nat.le_of_ble_eq_true rfl) (Nat.le_of_ble_eq_true rfl) ⟨Or.inl (z_k0 (zk_223 hL)), trivial⟩ trivial (z_J.mono h (fun r S1 v3 hq => ?_))
      obtain ⟨rfl, rfl, h⟩ := hq
      refine zj_aload_n dX11_pair_26 rfl rfl ?_
      refine zj_aload_n dX11_pair_27 rfl rfl ?_
      refine zj_getI (ci := 11) (j := 33) dX11_pair_28 wf_X11_257 (by decide) (by decide) (zk_223 hL) rfl ?_
      refine zj_putI (ci := 11) (j := 42) dX11_pair_31 wf_X11_305 (by decide) (by decide) (zk_223 hL) rfl rfl rfl rfl (fun v4 ev4 => ?_)
      replace h := h v4 ev4
      refine zj_iconst (x := 0) dX11_pair_34 rfl ?_
      refine zj_istore_n (ls2 := [.ref 223, .int x1, .int 0]) dX11_pair_35 rfl (by decide) rfl rfl ?_
      exact h
    · replace h := h.2 c
      refine zj_iconst (x := (-1)) dX11_pair_20 rfl ?_
      exact zj_iret dX11_pair_21 rfl rfl h
  · replace h := h.2 c
    refine zj_if_eq (tgt := 20) dX11_pair_9 (by decide) (fun _ => ?_) (fun q => absurd (by decide) q)
    refine zj_iconst (x := (-1)) dX11_pair_20 rfl ?_
    exact zj_iret dX11_pair_21 rfl rfl h
theorem sg_X11_pair_36 {G : z_G} {d : Nat} {S : z_Shp} {v : z_Dat} {Q : Option Value → z_Shp → z_Dat → Prop} {x1 : Int32} {x2 : Int32} (hL : z_L S)
    (h : ((v 223 33) ≤ x2 → ((vp_in (((1 : Int32) <<< ((v 223 33) &&& 31)) - 1) 16384) ∧ (Q (some (.int (v 244 (((1 : Int32) <<< ((v 223 33) &&& 31)) - 1).toNatClampNeg))) S v))) ∧ (¬ (v 223 33) ≤ x2 → ((vp_in x2 14) ∧ (vp_in x2 14 ∧ (∀ v1, v1 = z_u v 248 x2.toNatClampNeg (v 247 x2.toNatClampNeg) → (z_J G d mX11_pair (36, [.ref 223, .int x1, .int (x2 + 1)], [], S, v1) Q)))))) :
    z_J G d mX11_pair (36, [.ref 223, .int x1, .int x2], [], S, v) Q := by
  refine zj_iload_n dX11_pair_36 rfl rfl ?_
  refine zj_aload_n dX11_pair_37 rfl rfl ?_
  refine zj_getI (ci := 11) (j := 33) dX11_pair_38 wf_X11_257 (by decide) (by decide) (zk_223 hL) rfl ?_
  refine zj_icmp_ge (tgt := 62) dX11_pair_41 (by decide) (fun c => ?_) (fun c => ?_)
  · replace h := h.1 c
    refine zj_aload_n dX11_pair_62 rfl rfl ?_
    refine zj_getR (ci := 11) (j := 37) dX11_pair_63 wf_X11_76 (by decide) (by decide) (zk_223 hL) rfl (zr_223_37 hL) ?_
    refine zj_iconst (x := 1) dX11_pair_66 rfl ?_
    refine zj_aload_n dX11_pair_67 rfl rfl ?_
    refine zj_getI (ci := 11) (j := 33) dX11_pair_68 wf_X11_257 (by decide) (by decide) (zk_223 hL) rfl ?_
    refine zj_ishl dX11_pair_71 ?_
    refine zj_iconst (x := 1) dX11_pair_72 rfl ?_
    refine zj_isub dX11_pair_73 ?_
    refine zj_iaload dX11_pair_74 (zk_244 hL) (by rw [(zl_244 hL)]; exact h.1) ?_
    replace h := h.2
    exact zj_iret dX11_pair_75 rfl rfl h
  · replace h := h.2 c
    refine zj_aload_n dX11_pair_44 rfl rfl ?_
    refine zj_getR (ci := 11) (j := 41) dX11_pair_45 wf_X11_88 (by decide) (by decide) (zk_223 hL) rfl (zr_223_41 hL) ?_
    refine zj_iload_n dX11_pair_48 rfl rfl ?_
    refine zj_aload_n dX11_pair_49 rfl rfl ?_
    refine zj_getR (ci := 11) (j := 40) dX11_pair_50 wf_X11_85 (by decide) (by decide) (zk_223 hL) rfl (zr_223_40 hL) ?_
    refine zj_iload_n dX11_pair_53 rfl rfl ?_
    refine zj_iaload dX11_pair_54 (zk_247 hL) (by rw [(zl_247 hL)]; exact h.1) ?_
    replace h := h.2
    refine zj_iastore dX11_pair_55 (zk_248 hL) (by rw [(zl_248 hL)]; exact h.1) (fun v1 ev1 => ?_)
    replace h := h.2 v1 ev1
    refine zj_iinc (y := x2 + 1) (ls2 := [.ref 223, .int x1, .int (x2 + 1)]) dX11_pair_56 rfl rfl (by decide) rfl rfl ?_
    refine zj_goto (tgt := 36) dX11_pair_59 (by decide) ?_
    exact h
theorem sg_X11_pairings_0 {G : z_G} {d : Nat} {S : z_Shp} {v : z_Dat} {Q : Option Value → z_Shp → z_Dat → Prop} {x1 : Int32} (hL : z_L S)
    (h : ∀ v1, v1 = z_u v 223 0 0 → (((x1 = 0 ∨ x1 = 1) → (z_J G d mX11_pairs (0, [.ref 223, .int x1, .null, .null], [], S, v1) (fun r S1 v2 => ∃ y1 : Int32, r = some (.int y1) ∧ S1 = S ∧ ((y1 = 0 → (Q (some (.int (-1))) S v2)) ∧ (¬ y1 = 0 → ((vp_in (((1 : Int32) <<< ((v2 223 33) &&& 31)) - 1) 16384) ∧ (Q (some (.int (v2 245 (((1 : Int32) <<< ((v2 223 33) &&& 31)) - 1).toNatClampNeg))) S v2))))))) ∧ (¬ (x1 = 0 ∨ x1 = 1) → (Q (some (.int (-1))) S v1)))) :
    z_J G (d + 1) mX11_pairings (0, [.ref 223, .int x1], [], S, v) Q := by
  refine zj_aload_n dX11_pairings_0 rfl rfl ?_
  refine zj_iconst (x := 0) dX11_pairings_1 rfl ?_
  refine zj_putI (ci := 11) (j := 0) dX11_pairings_2 wf_X11_1 (by decide) (by decide) (zk_223 hL) rfl rfl rfl rfl (fun v1 ev1 => ?_)
  replace h := h v1 ev1
  refine zj_iload_n dX11_pairings_5 rfl rfl ?_
  refine zj_callS (M' := mX11_isKind) (avs := [.int x1]) (st := []) dX11_pairings_6 wm_X11_isKind wl_X11_165 wt_X11_isKind rfl (by decide) rfl (Nat.le_of_ble_eq_true rfl) (Nat.le_of_ble_eq_true rfl) ⟨Or.inl (z_k0 (zk_223 hL)), trivial⟩ trivial (hp_X11_isKind (fun c => ?_) (fun c => ?_))
  · replace h := h.1 c
    refine zj_if_eq (tgt := 36) dX11_pairings_9 (by decide) (fun q => absurd q (by decide)) (fun _ => ?_)
    refine zj_aload_n dX11_pairings_12 rfl rfl ?_
    refine zj_iload_n dX11_pairings_13 rfl rfl ?_
    refine zj_callV (M' := mX11_pairs) (avs := [.int x1]) (st := []) (ci := 11) dX11_pairings_14 wm_X11_pairs wl_X11_299 wi_X11_pairs ws_X11_pairs (by decide) (zk_223 hL) rfl rfl (by decide) rfl (Nat.le_of_ble_eq_true rfl) (Nat.le_of_ble_eq_true rfl) ⟨Or.inl (z_k0 (zk_223 hL)), trivial⟩ trivial (z_J.mono h (fun r S1 v2 hq => ?_))
    obtain ⟨y1, rfl, rfl, h⟩ := hq
    refine zj_if_eq (tgt := 36) dX11_pairings_17 (by decide) (fun c => ?_) (fun c => ?_)
    · replace h := h.1 c
      refine zj_iconst (x := (-1)) dX11_pairings_36 rfl ?_
      exact zj_iret dX11_pairings_37 rfl rfl h
    · replace h := h.2 c
      refine zj_aload_n dX11_pairings_20 rfl rfl ?_
      refine zj_getR (ci := 11) (j := 38) dX11_pairings_21 wf_X11_79 (by decide) (by decide) (zk_223 hL) rfl (zr_223_38 hL) ?_
      refine zj_iconst (x := 1) dX11_pairings_24 rfl ?_
      refine zj_aload_n dX11_pairings_25 rfl rfl ?_
      refine zj_getI (ci := 11) (j := 33) dX11_pairings_26 wf_X11_257 (by decide) (by decide) (zk_223 hL) rfl ?_
      refine zj_ishl dX11_pairings_29 ?_
      refine zj_iconst (x := 1) dX11_pairings_30 rfl ?_
      refine zj_isub dX11_pairings_31 ?_
      refine zj_iaload dX11_pairings_32 (zk_245 hL) (by rw [(zl_245 hL)]; exact h.1) ?_
      replace h := h.2
      refine zj_goto (tgt := 37) dX11_pairings_33 (by decide) ?_
      exact zj_iret dX11_pairings_37 rfl rfl h
  · replace h := h.2 c
    refine zj_if_eq (tgt := 36) dX11_pairings_9 (by decide) (fun _ => ?_) (fun q => absurd (by decide) q)
    refine zj_iconst (x := (-1)) dX11_pairings_36 rfl ?_
    exact zj_iret dX11_pairings_37 rfl rfl h
theorem sg_X11_pairs_0 {G : z_G} {d : Nat} {S : z_Shp} {v : z_Dat} {Q : Option Value → z_Shp → z_Dat → Prop} {x1 : Int32} (hL : z_L S)
    (h : z_J G d mX11_laysNet (0, [.ref 223, .int x1, .null, .null, .null, .null, .null, .null], [], S, v) (fun r S1 v1 => r = none ∧ S1 = S ∧ (((v1 223 33) ≤ 14 → (z_J G (d + 1) mX11_pairs (18, [.ref 223, .int x1, .int (-1), .null], [], S, v1) Q)) ∧ (¬ (v1 223 33) ≤ 14 → (Q (some (.int 0)) S v1))))) :
    z_J G (d + 1) mX11_pairs (0, [.ref 223, .int x1, .null, .null], [], S, v) Q := by
  refine zj_aload_n dX11_pairs_0 rfl rfl ?_
  refine zj_iload_n dX11_pairs_1 rfl rfl ?_
  refine zj_callV (M' := mX11_laysNet) (avs := [.int x1]) (st := []) (ci := 11) dX11_pairs_2 wm_X11_laysNet wl_X11_270 wi_X11_laysNet ws_X11_laysNet (by decide) (zk_223 hL) rfl rfl (by decide) rfl (Nat.le_of_ble_eq_true rfl) (Nat.le_of_ble_eq_true rfl) ⟨Or.inl (z_k0 (zk_223 hL)), trivial⟩ trivial (z_J.mono h (fun r S1 v1 hq => ?_))
  obtain ⟨rfl, rfl, h⟩ := hq
  refine zj_aload_n dX11_pairs_5 rfl rfl ?_
  refine zj_getI (ci := 11) (j := 33) dX11_pairs_6 wf_X11_257 (by decide) (by decide) (zk_223 hL) rfl ?_
  refine zj_bipush (x := 14) dX11_pairs_9 rfl ?_
  refine zj_icmp_le (tgt := 16) dX11_pairs_11 (by decide) (fun c => ?_) (fun c => ?_)
  · replace h := h.1 c
    refine zj_iconst (x := (-1)) dX11_pairs_16 rfl ?_
    refine zj_istore_n (ls2 := [.ref 223, .int x1, .int (-1), .null]) dX11_pairs_17 rfl (by decide) rfl rfl ?_
    exact h
  · replace h := h.2 c
    refine zj_iconst (x := 0) dX11_pairs_14 rfl ?_
    exact zj_iret dX11_pairs_15 rfl (by decide) h
theorem sg_X11_pairs_18 {G : z_G} {d : Nat} {S : z_Shp} {v : z_Dat} {Q : Option Value → z_Shp → z_Dat → Prop} {x1 : Int32} {x2 : Int32} (hL : z_L S)
    (h : ((v 223 33) ≤ x2 → (∀ v1, v1 = z_u v 244 0 0 → (∀ v2, v2 = z_u v1 245 0 1 → (z_J G (d + 1) mX11_pairs (93, [.ref 223, .int x1, .int 1, .null], [], S, v2) Q)))) ∧ (¬ (v 223 33) ≤ x2 → (z_J G d mX11_aims (0, [.ref 223, .int x2], [], S, v) (fun r S1 v3 => r = none ∧ S1 = S ∧ (z_J G (d + 1) mX11_pairs (33, [.ref 223, .int x1, .int x2, .int 0], [], S, v3) Q))))) :
    z_J G (d + 1) mX11_pairs (18, [.ref 223, .int x1, .int x2, .null], [], S, v) Q := by
  refine zj_iload_n dX11_pairs_18 rfl rfl ?_
  refine zj_aload_n dX11_pairs_19 rfl rfl ?_
  refine zj_getI (ci := 11) (j := 33) dX11_pairs_20 wf_X11_257 (by decide) (by decide) (zk_223 hL) rfl ?_
  refine zj_icmp_ge (tgt := 77) dX11_pairs_23 (by decide) (fun c => ?_) (fun c => ?_)
  · replace h := h.1 c
    refine zj_aload_n dX11_pairs_77 rfl rfl ?_
    refine zj_getR (ci := 11) (j := 37) dX11_pairs_78 wf_X11_76 (by decide) (by decide) (zk_223 hL) rfl (zr_223_37 hL) ?_
    refine zj_iconst (x := 0) dX11_pairs_81 rfl ?_
    refine zj_iconst (x := 0) dX11_pairs_82 rfl ?_
    refine zj_iastore dX11_pairs_83 (zk_244 hL) (by rw [(zl_244 hL)]; exact z_vin (by decide)) (fun v1 ev1 => ?_)
    replace h := h v1 ev1
    refine zj_aload_n dX11_pairs_84 rfl rfl ?_
    refine zj_getR (ci := 11) (j := 38) dX11_pairs_85 wf_X11_79 (by decide) (by decide) (zk_223 hL) rfl (zr_223_38 hL) ?_
    refine zj_iconst (x := 0) dX11_pairs_88 rfl ?_
    refine zj_iconst (x := 1) dX11_pairs_89 rfl ?_
    refine zj_iastore dX11_pairs_90 (zk_245 hL) (by rw [(zl_245 hL)]; exact z_vin (by decide)) (fun v2 ev2 => ?_)
    replace h := h v2 ev2
    refine zj_iconst (x := 1) dX11_pairs_91 rfl ?_
    refine zj_istore_n (ls2 := [.ref 223, .int x1, .int 1, .null]) dX11_pairs_92 rfl (by decide) rfl rfl ?_
    exact h
  · replace h := h.2 c
    refine zj_aload_n dX11_pairs_26 rfl rfl ?_
    refine zj_iload_n dX11_pairs_27 rfl rfl ?_
    refine zj_callV (M' := mX11_aims) (avs := [.int x2]) (st := []) (ci := 11) dX11_pairs_28 wm_X11_aims wl_X11_279 wi_X11_aims ws_X11_aims (by decide) (zk_223 hL) rfl rfl (by decide) rfl (Nat.le_of_ble_eq_true rfl) (Nat.le_of_ble_eq_true rfl) ⟨Or.inl (z_k0 (zk_223 hL)), trivial⟩ trivial (z_J.mono h (fun r S1 v3 hq => ?_))
    obtain ⟨rfl, rfl, h⟩ := hq
    refine zj_iconst (x := 0) dX11_pairs_31 rfl ?_
    refine zj_istore_n (ls2 := [.ref 223, .int x1, .int x2, .int 0]) dX11_pairs_32 rfl (by decide) rfl rfl ?_
    exact h
theorem sg_X11_pairs_93 {G : z_G} {d : Nat} {S : z_Shp} {v : z_Dat} {Q : Option Value → z_Shp → z_Dat → Prop} {x1 : Int32} {x2 : Int32} (hL : z_L S)
    (h : (((1 : Int32) <<< ((v 223 33) &&& 31)) ≤ x2 → (Q (some (.int 1)) S v)) ∧ (¬ ((1 : Int32) <<< ((v 223 33) &&& 31)) ≤ x2 → (z_J G d mX11_best (0, [.ref 223, .int x2, .null, .null, .null, .null], [], S, v) (fun r S1 v1 => r = none ∧ S1 = S ∧ (z_J G (d + 1) mX11_pairs (93, [.ref 223, .int x1, .int (x2 + 1), .null], [], S, v1) Q))))) :
    z_J G (d + 1) mX11_pairs (93, [.ref 223, .int x1, .int x2, .null], [], S, v) Q := by
  refine zj_iload_n dX11_pairs_93 rfl rfl ?_
  refine zj_iconst (x := 1) dX11_pairs_94 rfl ?_
  refine zj_aload_n dX11_pairs_95 rfl rfl ?_
  refine zj_getI (ci := 11) (j := 33) dX11_pairs_96 wf_X11_257 (by decide) (by decide) (zk_223 hL) rfl ?_
  refine zj_ishl dX11_pairs_99 ?_
  refine zj_icmp_ge (tgt := 114) dX11_pairs_100 (by decide) (fun c => ?_) (fun c => ?_)
  · replace h := h.1 c
    refine zj_iconst (x := 1) dX11_pairs_114 rfl ?_
    exact zj_iret dX11_pairs_115 rfl (by decide) h
  · replace h := h.2 c
    refine zj_aload_n dX11_pairs_103 rfl rfl ?_
    refine zj_iload_n dX11_pairs_104 rfl rfl ?_
    refine zj_callV (M' := mX11_best) (avs := [.int x2]) (st := []) (ci := 11) dX11_pairs_105 wm_X11_best wl_X11_289 wi_X11_best ws_X11_best (by decide) (zk_223 hL) rfl rfl (by decide) rfl (Nat.le_of_ble_eq_true rfl) (Nat.le_of_ble_eq_true rfl) ⟨Or.inl (z_k0 (zk_223 hL)), trivial⟩ trivial (z_J.mono h (fun r S1 v1 hq => ?_))
    obtain ⟨rfl, rfl, h⟩ := hq
    refine zj_iinc (y := x2 + 1) (ls2 := [.ref 223, .int x1, .int (x2 + 1), .null]) dX11_pairs_108 rfl rfl (by decide) rfl rfl ?_
    refine zj_goto (tgt := 93) dX11_pairs_111 (by decide) ?_
    exact h
theorem sg_X11_pairs_33 {G : z_G} {d : Nat} {S : z_Shp} {v : z_Dat} {Q : Option Value → z_Shp → z_Dat → Prop} {x1 : Int32} {x2 : Int32} {x3 : Int32} (hL : z_L S)
    (h : ((v 223 33) ≤ x3 → (z_J G d mX11_pairs (18, [.ref 223, .int x1, .int (x2 + 1), .null], [], S, v) Q)) ∧ (¬ (v 223 33) ≤ x3 → ((vp_in x3 108) ∧ ((vp_in (v 242 x3.toNatClampNeg) 109) ∧ (vp_in ((((15 : Int32) * x3) + x2) + 1) 225 ∧ (∀ v1, v1 = z_u v 246 ((((15 : Int32) * x3) + x2) + 1).toNatClampNeg (v 241 (v 242 x3.toNatClampNeg).toNatClampNeg) → (z_J G d mX11_pairs (33, [.ref 223, .int x1, .int x2, .int (x3 + 1)], [], S, v1) Q))))))) :
    z_J G d mX11_pairs (33, [.ref 223, .int x1, .int x2, .int x3], [], S, v) Q := by
  refine zj_iload_n dX11_pairs_33 rfl rfl ?_
  refine zj_aload_n dX11_pairs_34 rfl rfl ?_
  refine zj_getI (ci := 11) (j := 33) dX11_pairs_35 wf_X11_257 (by decide) (by decide) (zk_223 hL) rfl ?_
  refine zj_icmp_ge (tgt := 71) dX11_pairs_38 (by decide) (fun c => ?_) (fun c => ?_)
  · replace h := h.1 c
    refine zj_iinc (y := x2 + 1) (ls2 := [.ref 223, .int x1, .int (x2 + 1), .int x3]) dX11_pairs_71 rfl rfl (by decide) rfl rfl ?_
    refine zj_goto (tgt := 18) dX11_pairs_74 (by decide) ?_
    refine zj_forget (ls2 := [.ref 223, .int x1, .int (x2 + 1), .null]) ⟨Or.inr rfl, Or.inr rfl, Or.inr rfl, Or.inl rfl, trivial⟩ ?_
    exact h
  · replace h := h.2 c
    refine zj_aload_n dX11_pairs_41 rfl rfl ?_
    refine zj_getR (ci := 11) (j := 39) dX11_pairs_42 wf_X11_82 (by decide) (by decide) (zk_223 hL) rfl (zr_223_39 hL) ?_
    refine zj_bipush (x := 15) dX11_pairs_45 rfl ?_
    refine zj_iload_n dX11_pairs_47 rfl rfl ?_
    refine zj_imul dX11_pairs_48 ?_
    refine zj_iload_n dX11_pairs_49 rfl rfl ?_
    refine zj_iadd dX11_pairs_50 ?_
    refine zj_iconst (x := 1) dX11_pairs_51 rfl ?_
    refine zj_iadd dX11_pairs_52 ?_
    refine zj_aload_n dX11_pairs_53 rfl rfl ?_
    refine zj_getR (ci := 11) (j := 29) dX11_pairs_54 wf_X11_67 (by decide) (by decide) (zk_223 hL) rfl (zr_223_29 hL) ?_
    refine zj_aload_n dX11_pairs_57 rfl rfl ?_
    refine zj_getR (ci := 11) (j := 30) dX11_pairs_58 wf_X11_70 (by decide) (by decide) (zk_223 hL) rfl (zr_223_30 hL) ?_
    refine zj_iload_n dX11_pairs_61 rfl rfl ?_
    refine zj_iaload dX11_pairs_62 (zk_242 hL) (by rw [(zl_242 hL)]; exact h.1) ?_
    replace h := h.2
    refine zj_iaload dX11_pairs_63 (zk_241 hL) (by rw [(zl_241 hL)]; exact h.1) ?_
    replace h := h.2
    refine zj_iastore dX11_pairs_64 (zk_246 hL) (by rw [(zl_246 hL)]; exact h.1) (fun v1 ev1 => ?_)
    replace h := h.2 v1 ev1
    refine zj_iinc (y := x3 + 1) (ls2 := [.ref 223, .int x1, .int x2, .int (x3 + 1)]) dX11_pairs_65 rfl rfl (by decide) rfl rfl ?_
    refine zj_goto (tgt := 33) dX11_pairs_68 (by decide) ?_
    exact h
theorem sg_X11_partner_0 {G : z_G} {d : Nat} {S : z_Shp} {v : z_Dat} {Q : Option Value → z_Shp → z_Dat → Prop} {x1 : Int32} (hL : z_L S)
    (h : ∀ v1, v1 = z_u v 223 0 0 → (((0 ≤ x1 ∧ x1 ≤ ((v1 223 42) - 1)) → ((vp_in x1 14) ∧ (Q (some (.int (v1 248 x1.toNatClampNeg))) S v1))) ∧ (¬ (0 ≤ x1 ∧ x1 ≤ ((v1 223 42) - 1)) → (Q (some (.int (-1))) S v1)))) :
    z_J G (d + 1) mX11_partner (0, [.ref 223, .int x1], [], S, v) Q := by
  refine zj_aload_n dX11_partner_0 rfl rfl ?_
  refine zj_iconst (x := 0) dX11_partner_1 rfl ?_
  refine zj_putI (ci := 11) (j := 0) dX11_partner_2 wf_X11_1 (by decide) (by decide) (zk_223 hL) rfl rfl rfl rfl (fun v1 ev1 => ?_)
  replace h := h v1 ev1
  refine zj_iload_n dX11_partner_5 rfl rfl ?_
  refine zj_iconst (x := 0) dX11_partner_6 rfl ?_
  refine zj_aload_n dX11_partner_7 rfl rfl ?_
  refine zj_getI (ci := 11) (j := 42) dX11_partner_8 wf_X11_305 (by decide) (by decide) (zk_223 hL) rfl ?_
  refine zj_iconst (x := 1) dX11_partner_11 rfl ?_
  refine zj_isub dX11_partner_12 ?_
  refine zj_callS (M' := mX11_isIn) (avs := [.int x1, .int 0, .int ((v1 223 42) - 1)]) (st := []) dX11_partner_13 wm_X11_isIn wl_X11_144 wt_X11_isIn rfl (by decide) rfl (Nat.le_of_ble_eq_true rfl) (Nat.le_of_ble_eq_true rfl) ⟨Or.inl (z_k0 (zk_223 hL)), trivial⟩ trivial (hp_X11_isIn (fun c => ?_) (fun c => ?_))
  · replace h := h.1 c
    refine zj_if_eq (tgt := 28) dX11_partner_16 (by decide) (fun q => absurd q (by decide)) (fun _ => ?_)
    refine zj_aload_n dX11_partner_19 rfl rfl ?_
    refine zj_getR (ci := 11) (j := 41) dX11_partner_20 wf_X11_88 (by decide) (by decide) (zk_223 hL) rfl (zr_223_41 hL) ?_
    refine zj_iload_n dX11_partner_23 rfl rfl ?_
    refine zj_iaload dX11_partner_24 (zk_248 hL) (by rw [(zl_248 hL)]; exact h.1) ?_
    replace h := h.2
    refine zj_goto (tgt := 29) dX11_partner_25 (by decide) ?_
    exact zj_iret dX11_partner_29 rfl rfl h
  · replace h := h.2 c
    refine zj_if_eq (tgt := 28) dX11_partner_16 (by decide) (fun _ => ?_) (fun q => absurd (by decide) q)
    refine zj_iconst (x := (-1)) dX11_partner_28 rfl ?_
    exact zj_iret dX11_partner_29 rfl rfl h
theorem sg_X11_peek_0 {G : z_G} {d : Nat} {S : z_Shp} {v : z_Dat} {Q : Option Value → z_Shp → z_Dat → Prop} (hL : z_L S)
    (h : ((v 223 9) ≤ (v 223 19) → (((v 223 9) ≤ (v 223 19) → (Q (some (.int (-1))) S v)) ∧ (¬ (v 223 9) ≤ (v 223 19) → ((vp_in (v 223 19) 240) ∧ (Q (some (.int ((v 229 (v 223 19).toNatClampNeg) &&& 255))) S v))))) ∧ (¬ (v 223 9) ≤ (v 223 19) → ((vp_in (v 223 19) 240) ∧ ((¬ (v 229 (v 223 19).toNatClampNeg) = 32 → (((v 223 9) ≤ (v 223 19) → (Q (some (.int (-1))) S v)) ∧ (¬ (v 223 9) ≤ (v 223 19) → ((vp_in (v 223 19) 240) ∧ (Q (some (.int ((v 229 (v 223 19).toNatClampNeg) &&& 255))) S v))))) ∧ ((v 229 (v 223 19).toNatClampNeg) = 32 → (∀ v1, v1 = z_u v 223 19 ((v 223 19) + 1) → (z_J G d mX11_peek (0, [.ref 223], [], S, v1) Q))))))) :
    z_J G d mX11_peek (0, [.ref 223], [], S, v) Q := by
  refine zj_aload_n dX11_peek_0 rfl rfl ?_
  refine zj_getI (ci := 11) (j := 19) dX11_peek_1 wf_X11_187 (by decide) (by decide) (zk_223 hL) rfl ?_
  refine zj_aload_n dX11_peek_4 rfl rfl ?_
  refine zj_getI (ci := 11) (j := 9) dX11_peek_5 wf_X11_190 (by decide) (by decide) (zk_223 hL) rfl ?_
  refine zj_icmp_ge (tgt := 38) dX11_peek_8 (by decide) (fun c => ?_) (fun c => ?_)
  · replace h := h.1 c
    refine zj_aload_n dX11_peek_38 rfl rfl ?_
    refine zj_getI (ci := 11) (j := 19) dX11_peek_39 wf_X11_187 (by decide) (by decide) (zk_223 hL) rfl ?_
    refine zj_aload_n dX11_peek_42 rfl rfl ?_
    refine zj_getI (ci := 11) (j := 9) dX11_peek_43 wf_X11_190 (by decide) (by decide) (zk_223 hL) rfl ?_
    refine zj_icmp_ge (tgt := 65) dX11_peek_46 (by decide) (fun c => ?_) (fun c => ?_)
    · replace h := h.1 c
      refine zj_iconst (x := (-1)) dX11_peek_65 rfl ?_
      exact zj_iret dX11_peek_66 rfl rfl h
    · replace h := h.2 c
      refine zj_aload_n dX11_peek_49 rfl rfl ?_
      refine zj_getR (ci := 11) (j := 7) dX11_peek_50 wf_X11_30 (by decide) (by decide) (zk_223 hL) rfl (zr_223_7 hL) ?_
      refine zj_aload_n dX11_peek_53 rfl rfl ?_
      refine zj_getI (ci := 11) (j := 19) dX11_peek_54 wf_X11_187 (by decide) (by decide) (zk_223 hL) rfl ?_
      refine zj_baload dX11_peek_57 (zk_229 hL) (by rw [(zl_229 hL)]; exact h.1) ?_
      replace h := h.2
      refine zj_sipush (x := 255) dX11_peek_58 rfl ?_
      refine zj_iand dX11_peek_61 ?_
      refine zj_goto (tgt := 66) dX11_peek_62 (by decide) ?_
      exact zj_iret dX11_peek_66 rfl rfl h
  · replace h := h.2 c
    refine zj_aload_n dX11_peek_11 rfl rfl ?_
    refine zj_getR (ci := 11) (j := 7) dX11_peek_12 wf_X11_30 (by decide) (by decide) (zk_223 hL) rfl (zr_223_7 hL) ?_
    refine zj_aload_n dX11_peek_15 rfl rfl ?_
    refine zj_getI (ci := 11) (j := 19) dX11_peek_16 wf_X11_187 (by decide) (by decide) (zk_223 hL) rfl ?_
    refine zj_baload dX11_peek_19 (zk_229 hL) (by rw [(zl_229 hL)]; exact h.1) ?_
    replace h := h.2
    refine zj_bipush (x := 32) dX11_peek_20 rfl ?_
    refine zj_icmp_ne (tgt := 38) dX11_peek_22 (by decide) (fun c => ?_) (fun c => ?_)
    · replace h := h.1 c
      refine zj_aload_n dX11_peek_38 rfl rfl ?_
      refine zj_getI (ci := 11) (j := 19) dX11_peek_39 wf_X11_187 (by decide) (by decide) (zk_223 hL) rfl ?_
      refine zj_aload_n dX11_peek_42 rfl rfl ?_
      refine zj_getI (ci := 11) (j := 9) dX11_peek_43 wf_X11_190 (by decide) (by decide) (zk_223 hL) rfl ?_
      refine zj_icmp_ge (tgt := 65) dX11_peek_46 (by decide) (fun c => ?_) (fun c => ?_)
      · replace h := h.1 c
        refine zj_iconst (x := (-1)) dX11_peek_65 rfl ?_
        exact zj_iret dX11_peek_66 rfl rfl h
      · replace h := h.2 c
        refine zj_aload_n dX11_peek_49 rfl rfl ?_
        refine zj_getR (ci := 11) (j := 7) dX11_peek_50 wf_X11_30 (by decide) (by decide) (zk_223 hL) rfl (zr_223_7 hL) ?_
        refine zj_aload_n dX11_peek_53 rfl rfl ?_
        refine zj_getI (ci := 11) (j := 19) dX11_peek_54 wf_X11_187 (by decide) (by decide) (zk_223 hL) rfl ?_
        refine zj_baload dX11_peek_57 (zk_229 hL) (by rw [(zl_229 hL)]; exact h.1) ?_
        replace h := h.2
        refine zj_sipush (x := 255) dX11_peek_58 rfl ?_
        refine zj_iand dX11_peek_61 ?_
        refine zj_goto (tgt := 66) dX11_peek_62 (by decide) ?_
        exact zj_iret dX11_peek_66 rfl rfl h
    · replace h := h.2 c
      refine zj_aload_n dX11_peek_25 rfl rfl ?_
      refine zj_dup dX11_peek_26 rfl ?_
      refine zj_getI (ci := 11) (j := 19) dX11_peek_27 wf_X11_187 (by decide) (by decide) (zk_223 hL) rfl ?_
      refine zj_iconst (x := 1) dX11_peek_30 rfl ?_
      refine zj_iadd dX11_peek_31 ?_
      refine zj_putI (ci := 11) (j := 19) dX11_peek_32 wf_X11_187 (by decide) (by decide) (zk_223 hL) rfl rfl rfl rfl (fun v1 ev1 => ?_)
      replace h := h v1 ev1
      refine zj_goto (tgt := 0) dX11_peek_35 (by decide) ?_
      exact h
theorem sg_X11_peeledAt_0 {G : z_G} {d : Nat} {S : z_Shp} {v : z_Dat} {Q : Option Value → z_Shp → z_Dat → Prop} {x1 : Int32} (hL : z_L S)
    (h : ∀ v1, v1 = z_u v 223 0 0 → (((v1 223 56) = 0 → (((0 ≤ x1 ∧ x1 ≤ (-1)) → ((vp_in x1 109) ∧ (Q (some (.int (v1 257 x1.toNatClampNeg))) S v1))) ∧ (¬ (0 ≤ x1 ∧ x1 ≤ (-1)) → (Q (some (.int (-1))) S v1)))) ∧ (¬ (v1 223 56) = 0 → (((0 ≤ x1 ∧ x1 ≤ ((v1 256 3) - 1)) → ((vp_in x1 109) ∧ (Q (some (.int (v1 257 x1.toNatClampNeg))) S v1))) ∧ (¬ (0 ≤ x1 ∧ x1 ≤ ((v1 256 3) - 1)) → (Q (some (.int (-1))) S v1)))))) :
    z_J G (d + 1) mX11_peeledAt (0, [.ref 223, .int x1], [], S, v) Q := by
  refine zj_aload_n dX11_peeledAt_0 rfl rfl ?_
  refine zj_iconst (x := 0) dX11_peeledAt_1 rfl ?_
  refine zj_putI (ci := 11) (j := 0) dX11_peeledAt_2 wf_X11_1 (by decide) (by decide) (zk_223 hL) rfl rfl rfl rfl (fun v1 ev1 => ?_)
  replace h := h v1 ev1
  refine zj_iload_n dX11_peeledAt_5 rfl rfl ?_
  refine zj_iconst (x := 0) dX11_peeledAt_6 rfl ?_
  refine zj_aload_n dX11_peeledAt_7 rfl rfl ?_
  refine zj_getI (ci := 11) (j := 56) dX11_peeledAt_8 wf_X11_342 (by decide) (by decide) (zk_223 hL) rfl ?_
  refine zj_if_eq (tgt := 25) dX11_peeledAt_11 (by decide) (fun c => ?_) (fun c => ?_)
  · replace h := h.1 c
    refine zj_iconst (x := (-1)) dX11_peeledAt_25 rfl ?_
    refine zj_callS (M' := mX11_isIn) (avs := [.int x1, .int 0, .int (-1)]) (st := []) dX11_peeledAt_26 wm_X11_isIn wl_X11_144 wt_X11_isIn rfl (by decide) rfl (Nat.le_of_ble_eq_true rfl) (Nat.le_of_ble_eq_true rfl) ⟨Or.inl (z_k0 (zk_223 hL)), trivial⟩ trivial (hp_X11_isIn (fun c => ?_) (fun c => ?_))
    · replace h := h.1 c
      refine zj_if_eq (tgt := 41) dX11_peeledAt_29 (by decide) (fun q => absurd q (by decide)) (fun _ => ?_)
      refine zj_aload_n dX11_peeledAt_32 rfl rfl ?_
      refine zj_getR (ci := 11) (j := 55) dX11_peeledAt_33 wf_X11_115 (by decide) (by decide) (zk_223 hL) rfl (zr_223_55 hL) ?_
      refine zj_iload_n dX11_peeledAt_36 rfl rfl ?_
      refine zj_iaload dX11_peeledAt_37 (zk_257 hL) (by rw [(zl_257 hL)]; exact h.1) ?_
      replace h := h.2
      refine zj_goto (tgt := 42) dX11_peeledAt_38 (by decide) ?_
      exact zj_iret dX11_peeledAt_42 rfl rfl h
    · replace h := h.2 c
      refine zj_if_eq (tgt := 41) dX11_peeledAt_29 (by decide) (fun _ => ?_) (fun q => absurd (by decide) q)
      refine zj_iconst (x := (-1)) dX11_peeledAt_41 rfl ?_
      exact zj_iret dX11_peeledAt_42 rfl rfl h
  · replace h := h.2 c
    refine zj_aload_n dX11_peeledAt_14 rfl rfl ?_
    refine zj_getR (ci := 11) (j := 54) dX11_peeledAt_15 wf_X11_112 (by decide) (by decide) (zk_223 hL) rfl (zr_223_54 hL) ?_
    refine zj_iconst (x := 3) dX11_peeledAt_18 rfl ?_
    refine zj_iaload dX11_peeledAt_19 (zk_256 hL) (by rw [(zl_256 hL)]; exact z_vin (by decide)) ?_
    refine zj_iconst (x := 1) dX11_peeledAt_20 rfl ?_
    refine zj_isub dX11_peeledAt_21 ?_
    refine zj_goto (tgt := 26) dX11_peeledAt_22 (by decide) ?_
    refine zj_callS (M' := mX11_isIn) (avs := [.int x1, .int 0, .int ((v1 256 3) - 1)]) (st := []) dX11_peeledAt_26 wm_X11_isIn wl_X11_144 wt_X11_isIn rfl (by decide) rfl (Nat.le_of_ble_eq_true rfl) (Nat.le_of_ble_eq_true rfl) ⟨Or.inl (z_k0 (zk_223 hL)), trivial⟩ trivial (hp_X11_isIn (fun c => ?_) (fun c => ?_))
    · replace h := h.1 c
      refine zj_if_eq (tgt := 41) dX11_peeledAt_29 (by decide) (fun q => absurd q (by decide)) (fun _ => ?_)
      refine zj_aload_n dX11_peeledAt_32 rfl rfl ?_
      refine zj_getR (ci := 11) (j := 55) dX11_peeledAt_33 wf_X11_115 (by decide) (by decide) (zk_223 hL) rfl (zr_223_55 hL) ?_
      refine zj_iload_n dX11_peeledAt_36 rfl rfl ?_
      refine zj_iaload dX11_peeledAt_37 (zk_257 hL) (by rw [(zl_257 hL)]; exact h.1) ?_
      replace h := h.2
      refine zj_goto (tgt := 42) dX11_peeledAt_38 (by decide) ?_
      exact zj_iret dX11_peeledAt_42 rfl rfl h
    · replace h := h.2 c
      refine zj_if_eq (tgt := 41) dX11_peeledAt_29 (by decide) (fun _ => ?_) (fun q => absurd (by decide) q)
      refine zj_iconst (x := (-1)) dX11_peeledAt_41 rfl ?_
      exact zj_iret dX11_peeledAt_42 rfl rfl h
theorem sg_X11_peels_0 {G : z_G} {d : Nat} {S : z_Shp} {v : z_Dat} {Q : Option Value → z_Shp → z_Dat → Prop} (hL : z_L S)
    (h : ∀ v1, v1 = z_u v 223 53 0 → (z_J G d mX11_peels (7, [.ref 223, .int 0, .null, .null, .null], [], S, v1) Q)) :
    z_J G d mX11_peels (0, [.ref 223, .null, .null, .null, .null], [], S, v) Q := by
  refine zj_aload_n dX11_peels_0 rfl rfl ?_
  refine zj_iconst (x := 0) dX11_peels_1 rfl ?_
  refine zj_putI (ci := 11) (j := 53) dX11_peels_2 wf_X11_333 (by decide) (by decide) (zk_223 hL) rfl rfl rfl rfl (fun v1 ev1 => ?_)
  replace h := h v1 ev1
  refine zj_iconst (x := 0) dX11_peels_5 rfl ?_
  refine zj_istore_n (ls2 := [.ref 223, .int 0, .null, .null, .null]) dX11_peels_6 rfl (by decide) rfl rfl ?_
  exact h
theorem sg_X11_peels_7 {G : z_G} {d : Nat} {S : z_Shp} {v : z_Dat} {Q : Option Value → z_Shp → z_Dat → Prop} {x1 : Int32} (hL : z_L S)
    (h : ((v 223 52) ≤ x1 → (Q none S v)) ∧ (¬ (v 223 52) ≤ x1 → ((vp_in x1 109) ∧ ((vp_in (v 252 x1.toNatClampNeg) 321) ∧ (z_J G d mX11_side (0, [.ref 223, .int (v 238 (v 252 x1.toNatClampNeg).toNatClampNeg), .int (v 252 x1.toNatClampNeg), .null, .null, .null], [], S, v) (fun r S1 v1 => r = none ∧ S1 = S ∧ ((vp_in (v1 223 32) 109) ∧ (((v1 255 (v1 223 32).toNatClampNeg) = 0 → (z_J G (d + 1) mX11_peels (61, [.ref 223, .int x1, .int (v 252 x1.toNatClampNeg), .int 0, .int 0], [], S, v1) Q)) ∧ (¬ (v1 255 (v1 223 32).toNatClampNeg) = 0 → ((vp_in (v 252 x1.toNatClampNeg) 321) ∧ (z_J G d mX11_side (0, [.ref 223, .int (v1 239 (v 252 x1.toNatClampNeg).toNatClampNeg), .int (v 252 x1.toNatClampNeg), .null, .null, .null], [], S, v1) (fun r S1 v2 => r = none ∧ S1 = S ∧ (z_J G (d + 1) mX11_peels (61, [.ref 223, .int x1, .int (v 252 x1.toNatClampNeg), .int 0, .int 0], [], S, v2) Q))))))))))))) :
    z_J G (d + 1) mX11_peels (7, [.ref 223, .int x1, .null, .null, .null], [], S, v) Q := by
  refine zj_iload_n dX11_peels_7 rfl rfl ?_
  refine zj_aload_n dX11_peels_8 rfl rfl ?_
  refine zj_getI (ci := 11) (j := 52) dX11_peels_9 wf_X11_327 (by decide) (by decide) (zk_223 hL) rfl ?_
  refine zj_icmp_ge (tgt := 132) dX11_peels_12 (by decide) (fun c => ?_) (fun c => ?_)
  · replace h := h.1 c
    exact zj_vret dX11_peels_132 rfl h
  · replace h := h.2 c
    refine zj_aload_n dX11_peels_15 rfl rfl ?_
    refine zj_getR (ci := 11) (j := 46) dX11_peels_16 wf_X11_100 (by decide) (by decide) (zk_223 hL) rfl (zr_223_46 hL) ?_
    refine zj_iload_n dX11_peels_19 rfl rfl ?_
    refine zj_iaload dX11_peels_20 (zk_252 hL) (by rw [(zl_252 hL)]; exact h.1) ?_
    replace h := h.2
    refine zj_istore_n (ls2 := [.ref 223, .int x1, .int (v 252 x1.toNatClampNeg), .null, .null]) dX11_peels_21 rfl (by decide) rfl rfl ?_
    refine zj_aload_n dX11_peels_22 rfl rfl ?_
    refine zj_aload_n dX11_peels_23 rfl rfl ?_
    refine zj_getR (ci := 11) (j := 26) dX11_peels_24 wf_X11_58 (by decide) (by decide) (zk_223 hL) rfl (zr_223_26 hL) ?_
    refine zj_iload_n dX11_peels_27 rfl rfl ?_
    refine zj_iaload dX11_peels_28 (zk_238 hL) (by rw [(zl_238 hL)]; exact h.1) ?_
    replace h := h.2
    refine zj_iload_n dX11_peels_29 rfl rfl ?_
    refine zj_callV (M' := mX11_side) (avs := [.int (v 238 (v 252 x1.toNatClampNeg).toNatClampNeg), .int (v 252 x1.toNatClampNeg)]) (st := []) (ci := 11) dX11_peels_30 wm_X11_side wl_X11_336 wi_X11_side ws_X11_side (by decide) (zk_223 hL) rfl rfl (by decide) rfl (Nat.le_of_ble_eq_true rfl) (Nat.le_of_ble_eq_true rfl) ⟨Or.inl (z_k0 (zk_223 hL)), trivial⟩ trivial (z_J.mono h (fun r S1 v1 hq => ?_))
    obtain ⟨rfl, rfl, h⟩ := hq
    refine zj_aload_n dX11_peels_33 rfl rfl ?_
    refine zj_getR (ci := 11) (j := 49) dX11_peels_34 wf_X11_109 (by decide) (by decide) (zk_223 hL) rfl (zr_223_49 hL) ?_
    refine zj_aload_n dX11_peels_37 rfl rfl ?_
    refine zj_getI (ci := 11) (j := 32) dX11_peels_38 wf_X11_254 (by decide) (by decide) (zk_223 hL) rfl ?_
    refine zj_zaload dX11_peels_41 (zk_255 hL) (by rw [(zl_255 hL)]; exact h.1) ?_
    replace h := h.2
    refine zj_if_eq (tgt := 56) dX11_peels_42 (by decide) (fun c => ?_) (fun c => ?_)
    · replace h := h.1 c
      refine zj_iconst (x := 0) dX11_peels_56 rfl ?_
      refine zj_istore_n (ls2 := [.ref 223, .int x1, .int (v 252 x1.toNatClampNeg), .int 0, .null]) dX11_peels_57 rfl (by decide) rfl rfl ?_
      refine zj_iconst (x := 0) dX11_peels_58 rfl ?_
      refine zj_istore (ls2 := [.ref 223, .int x1, .int (v 252 x1.toNatClampNeg), .int 0, .int 0]) dX11_peels_59 (by decide) rfl rfl ?_
      exact h
    · replace h := h.2 c
      refine zj_aload_n dX11_peels_45 rfl rfl ?_
      refine zj_aload_n dX11_peels_46 rfl rfl ?_
      refine zj_getR (ci := 11) (j := 27) dX11_peels_47 wf_X11_61 (by decide) (by decide) (zk_223 hL) rfl (zr_223_27 hL) ?_
      refine zj_iload_n dX11_peels_50 rfl rfl ?_
      refine zj_iaload dX11_peels_51 (zk_239 hL) (by rw [(zl_239 hL)]; exact h.1) ?_
      replace h := h.2
      refine zj_iload_n dX11_peels_52 rfl rfl ?_
      refine zj_callV (M' := mX11_side) (avs := [.int (v1 239 (v 252 x1.toNatClampNeg).toNatClampNeg), .int (v 252 x1.toNatClampNeg)]) (st := []) (ci := 11) dX11_peels_53 wm_X11_side wl_X11_336 wi_X11_side ws_X11_side (by decide) (zk_223 hL) rfl rfl (by decide) rfl (Nat.le_of_ble_eq_true rfl) (Nat.le_of_ble_eq_true rfl) ⟨Or.inl (z_k0 (zk_223 hL)), trivial⟩ trivial (z_J.mono h (fun r S1 v2 hq => ?_))
      obtain ⟨rfl, rfl, h⟩ := hq
      refine zj_iconst (x := 0) dX11_peels_56 rfl ?_
      refine zj_istore_n (ls2 := [.ref 223, .int x1, .int (v 252 x1.toNatClampNeg), .int 0, .null]) dX11_peels_57 rfl (by decide) rfl rfl ?_
      refine zj_iconst (x := 0) dX11_peels_58 rfl ?_
      refine zj_istore (ls2 := [.ref 223, .int x1, .int (v 252 x1.toNatClampNeg), .int 0, .int 0]) dX11_peels_59 (by decide) rfl rfl ?_
      exact h
theorem sg_X11_peels_61 {G : z_G} {d : Nat} {S : z_Shp} {v : z_Dat} {Q : Option Value → z_Shp → z_Dat → Prop} {x1 : Int32} {x2 : Int32} {x3 : Int32} {x4 : Int32} (hL : z_L S)
    (h : ((v 223 33) ≤ x4 → ((¬ x3 = 0 → (vp_in (v 223 53) 109 ∧ (∀ v1, v1 = z_u v 253 (v 223 53).toNatClampNeg x2 → (∀ v2, v2 = z_u v1 223 53 ((v1 223 53) + 1) → (z_J G d mX11_peels (7, [.ref 223, .int (x1 + 1), .null, .null, .null], [], S, v2) Q))))) ∧ (x3 = 0 → (z_J G d mX11_peels (7, [.ref 223, .int (x1 + 1), .null, .null, .null], [], S, v) Q)))) ∧ (¬ (v 223 33) ≤ x4 → ((vp_in x4 108) ∧ ((vp_in (v 242 x4.toNatClampNeg) 109) ∧ (((v 255 (v 242 x4.toNatClampNeg).toNatClampNeg) = 0 → (z_J G d mX11_peels (61, [.ref 223, .int x1, .int x2, .int (x3 ^^^ 0), .int (x4 + 1)], [], S, v) Q)) ∧ (¬ (v 255 (v 242 x4.toNatClampNeg).toNatClampNeg) = 0 → (z_J G d mX11_peels (61, [.ref 223, .int x1, .int x2, .int (x3 ^^^ 1), .int (x4 + 1)], [], S, v) Q))))))) :
    z_J G d mX11_peels (61, [.ref 223, .int x1, .int x2, .int x3, .int x4], [], S, v) Q := by
  refine zj_iload dX11_peels_61 rfl ?_
  refine zj_aload_n dX11_peels_63 rfl rfl ?_
  refine zj_getI (ci := 11) (j := 33) dX11_peels_64 wf_X11_257 (by decide) (by decide) (zk_223 hL) rfl ?_
  refine zj_icmp_ge (tgt := 99) dX11_peels_67 (by decide) (fun c => ?_) (fun c => ?_)
  · replace h := h.1 c
    refine zj_iload_n dX11_peels_99 rfl rfl ?_
    refine zj_if_ne (tgt := 106) dX11_peels_100 (by decide) (fun c => ?_) (fun c => ?_)
    · replace h := h.1 c
      refine zj_aload_n dX11_peels_106 rfl rfl ?_
      refine zj_getR (ci := 11) (j := 47) dX11_peels_107 wf_X11_103 (by decide) (by decide) (zk_223 hL) rfl (zr_223_47 hL) ?_
      refine zj_aload_n dX11_peels_110 rfl rfl ?_
      refine zj_getI (ci := 11) (j := 53) dX11_peels_111 wf_X11_333 (by decide) (by decide) (zk_223 hL) rfl ?_
      refine zj_iload_n dX11_peels_114 rfl rfl ?_
      refine zj_iastore dX11_peels_115 (zk_253 hL) (by rw [(zl_253 hL)]; exact h.1) (fun v1 ev1 => ?_)
      replace h := h.2 v1 ev1
      refine zj_aload_n dX11_peels_116 rfl rfl ?_
      refine zj_dup dX11_peels_117 rfl ?_
      refine zj_getI (ci := 11) (j := 53) dX11_peels_118 wf_X11_333 (by decide) (by decide) (zk_223 hL) rfl ?_
      refine zj_iconst (x := 1) dX11_peels_121 rfl ?_
      refine zj_iadd dX11_peels_122 ?_
      refine zj_putI (ci := 11) (j := 53) dX11_peels_123 wf_X11_333 (by decide) (by decide) (zk_223 hL) rfl rfl rfl rfl (fun v2 ev2 => ?_)
      replace h := h v2 ev2
      refine zj_iinc (y := x1 + 1) (ls2 := [.ref 223, .int (x1 + 1), .int x2, .int x3, .int x4]) dX11_peels_126 rfl rfl (by decide) rfl rfl ?_
      refine zj_goto (tgt := 7) dX11_peels_129 (by decide) ?_
      refine zj_forget (ls2 := [.ref 223, .int (x1 + 1), .null, .null, .null]) ⟨Or.inr rfl, Or.inr rfl, Or.inl rfl, Or.inl rfl, Or.inl rfl, trivial⟩ ?_
      exact h
    · replace h := h.2 c
      refine zj_goto (tgt := 126) dX11_peels_103 (by decide) ?_
      refine zj_iinc (y := x1 + 1) (ls2 := [.ref 223, .int (x1 + 1), .int x2, .int x3, .int x4]) dX11_peels_126 rfl rfl (by decide) rfl rfl ?_
      refine zj_goto (tgt := 7) dX11_peels_129 (by decide) ?_
      refine zj_forget (ls2 := [.ref 223, .int (x1 + 1), .null, .null, .null]) ⟨Or.inr rfl, Or.inr rfl, Or.inl rfl, Or.inl rfl, Or.inl rfl, trivial⟩ ?_
      exact h
  · replace h := h.2 c
    refine zj_iload_n dX11_peels_70 rfl rfl ?_
    refine zj_aload_n dX11_peels_71 rfl rfl ?_
    refine zj_getR (ci := 11) (j := 49) dX11_peels_72 wf_X11_109 (by decide) (by decide) (zk_223 hL) rfl (zr_223_49 hL) ?_
    refine zj_aload_n dX11_peels_75 rfl rfl ?_
    refine zj_getR (ci := 11) (j := 30) dX11_peels_76 wf_X11_70 (by decide) (by decide) (zk_223 hL) rfl (zr_223_30 hL) ?_
    refine zj_iload dX11_peels_79 rfl ?_
    refine zj_iaload dX11_peels_81 (zk_242 hL) (by rw [(zl_242 hL)]; exact h.1) ?_
    replace h := h.2
    refine zj_zaload dX11_peels_82 (zk_255 hL) (by rw [(zl_255 hL)]; exact h.1) ?_
    replace h := h.2
    refine zj_if_eq (tgt := 90) dX11_peels_83 (by decide) (fun c => ?_) (fun c => ?_)
    · replace h := h.1 c
      refine zj_iconst (x := 0) dX11_peels_90 rfl ?_
      refine zj_ixor dX11_peels_91 ?_
      refine zj_istore_n (ls2 := [.ref 223, .int x1, .int x2, .int (x3 ^^^ 0), .int x4]) dX11_peels_92 rfl (by decide) rfl rfl ?_
      refine zj_iinc (y := x4 + 1) (ls2 := [.ref 223, .int x1, .int x2, .int (x3 ^^^ 0), .int (x4 + 1)]) dX11_peels_93 rfl rfl (by decide) rfl rfl ?_
      refine zj_goto (tgt := 61) dX11_peels_96 (by decide) ?_
      exact h
    · replace h := h.2 c
      refine zj_iconst (x := 1) dX11_peels_86 rfl ?_
      refine zj_goto (tgt := 91) dX11_peels_87 (by decide) ?_
      refine zj_ixor dX11_peels_91 ?_
      refine zj_istore_n (ls2 := [.ref 223, .int x1, .int x2, .int (x3 ^^^ 1), .int x4]) dX11_peels_92 rfl (by decide) rfl rfl ?_
      refine zj_iinc (y := x4 + 1) (ls2 := [.ref 223, .int x1, .int x2, .int (x3 ^^^ 1), .int (x4 + 1)]) dX11_peels_93 rfl rfl (by decide) rfl rfl ?_
      refine zj_goto (tgt := 61) dX11_peels_96 (by decide) ?_
      exact h
theorem sg_X11_press_0 {G : z_G} {d : Nat} {S : z_Shp} {v : z_Dat} {Q : Option Value → z_Shp → z_Dat → Prop} {x1 : Int32} {x2 : Int32} (hL : z_L S)
    (h : ∀ v1, v1 = z_u v 223 0 0 → (z_J G d mX11_isCheck (0, [.ref 223, .int x1, .int x2], [], S, v1) (fun r S1 v2 => ∃ y1 : Int32, r = some (.int y1) ∧ S1 = S ∧ ((¬ y1 = 0 → (z_J G d mX11_keeps (0, [.ref 223, .null], [], S, v2) (fun r S1 v3 => r = none ∧ S1 = S ∧ ((vp_in ((3 : Int32) - x1) 71) ∧ ((vp_in (((12 : Int32) * x1) + x2) 24) ∧ (vp_in ((3 : Int32) - x1) 71 ∧ (∀ v4, v4 = z_u v3 224 ((3 : Int32) - x1).toNatClampNeg ((v3 224 ((3 : Int32) - x1).toNatClampNeg) ^^^ (v3 232 (((12 : Int32) * x1) + x2).toNatClampNeg)) → ((vp_in ((3 : Int32) - x1) 71) ∧ (z_J G d mX11_logical (0, [.ref 223, .int ((1 : Int32) - x1), .int (v4 224 ((3 : Int32) - x1).toNatClampNeg)], [], S, v4) (fun r S1 v5 => ∃ y2 : Int32, r = some (.int y2) ∧ S1 = S ∧ (Q (some (.int y2)) S v5))))))))))) ∧ (y1 = 0 → (Q (some (.int (-1))) S v2)))))) :
    z_J G (d + 1) mX11_press (0, [.ref 223, .int x1, .int x2], [], S, v) Q := by
  refine zj_aload_n dX11_press_0 rfl rfl ?_
  refine zj_iconst (x := 0) dX11_press_1 rfl ?_
  refine zj_putI (ci := 11) (j := 0) dX11_press_2 wf_X11_1 (by decide) (by decide) (zk_223 hL) rfl rfl rfl rfl (fun v1 ev1 => ?_)
  replace h := h v1 ev1
  refine zj_aload_n dX11_press_5 rfl rfl ?_
  refine zj_iload_n dX11_press_6 rfl rfl ?_
  refine zj_iload_n dX11_press_7 rfl rfl ?_
  refine zj_callV (M' := mX11_isCheck) (avs := [.int x1, .int x2]) (st := []) (ci := 11) dX11_press_8 wm_X11_isCheck wl_X11_394 wi_X11_isCheck ws_X11_isCheck (by decide) (zk_223 hL) rfl rfl (by decide) rfl (Nat.le_of_ble_eq_true rfl) (Nat.le_of_ble_eq_true rfl) ⟨Or.inl (z_k0 (zk_223 hL)), trivial⟩ trivial (z_J.mono h (fun r S1 v2 hq => ?_))
  obtain ⟨y1, rfl, rfl, h⟩ := hq
  refine zj_if_ne (tgt := 16) dX11_press_11 (by decide) (fun c => ?_) (fun c => ?_)
  · replace h := h.1 c
    refine zj_aload_n dX11_press_16 rfl rfl ?_
    refine zj_callV (M' := mX11_keeps) (avs := []) (st := []) (ci := 11) dX11_press_17 wm_X11_keeps wl_X11_242 wi_X11_keeps ws_X11_keeps (by decide) (zk_223 hL) rfl rfl (by decide) rfl (Nat.le_of_ble_eq_true rfl) (Nat.le_of_ble_eq_true rfl) ⟨Or.inl (z_k0 (zk_223 hL)), trivial⟩ trivial (z_J.mono h (fun r S1 v3 hq => ?_))
    obtain ⟨rfl, rfl, h⟩ := hq
    refine zj_aload_n dX11_press_20 rfl rfl ?_
    refine zj_getR (ci := 11) (j := 1) dX11_press_21 wf_X11_13 (by decide) (by decide) (zk_223 hL) rfl (zr_223_1 hL) ?_
    refine zj_iconst (x := 3) dX11_press_24 rfl ?_
    refine zj_iload_n dX11_press_25 rfl rfl ?_
    refine zj_isub dX11_press_26 ?_
    refine zj_dup2 dX11_press_27 rfl rfl ?_
    refine zj_iaload dX11_press_28 (zk_224 hL) (by rw [(zl_224 hL)]; exact h.1) ?_
    replace h := h.2
    refine zj_aload_n dX11_press_29 rfl rfl ?_
    refine zj_getR (ci := 11) (j := 12) dX11_press_30 wf_X11_40 (by decide) (by decide) (zk_223 hL) rfl (zr_223_12 hL) ?_
    refine zj_bipush (x := 12) dX11_press_33 rfl ?_
    refine zj_iload_n dX11_press_35 rfl rfl ?_
    refine zj_imul dX11_press_36 ?_
    refine zj_iload_n dX11_press_37 rfl rfl ?_
    refine zj_iadd dX11_press_38 ?_
    refine zj_iaload dX11_press_39 (zk_232 hL) (by rw [(zl_232 hL)]; exact h.1) ?_
    replace h := h.2
    refine zj_ixor dX11_press_40 ?_
    refine zj_iastore dX11_press_41 (zk_224 hL) (by rw [(zl_224 hL)]; exact h.1) (fun v4 ev4 => ?_)
    replace h := h.2 v4 ev4
    refine zj_aload_n dX11_press_42 rfl rfl ?_
    refine zj_iconst (x := 1) dX11_press_43 rfl ?_
    refine zj_iload_n dX11_press_44 rfl rfl ?_
    refine zj_isub dX11_press_45 ?_
    refine zj_aload_n dX11_press_46 rfl rfl ?_
    refine zj_getR (ci := 11) (j := 1) dX11_press_47 wf_X11_13 (by decide) (by decide) (zk_223 hL) rfl (zr_223_1 hL) ?_
    refine zj_iconst (x := 3) dX11_press_50 rfl ?_
    refine zj_iload_n dX11_press_51 rfl rfl ?_
    refine zj_isub dX11_press_52 ?_
    refine zj_iaload dX11_press_53 (zk_224 hL) (by rw [(zl_224 hL)]; exact h.1) ?_
    replace h := h.2
    refine zj_callV (M' := mX11_logical) (avs := [.int ((1 : Int32) - x1), .int (v4 224 ((3 : Int32) - x1).toNatClampNeg)]) (st := []) (ci := 11) dX11_press_54 wm_X11_logical wl_X11_370 wi_X11_logical ws_X11_logical (by decide) (zk_223 hL) rfl rfl (by decide) rfl (Nat.le_of_ble_eq_true rfl) (Nat.le_of_ble_eq_true rfl) ⟨Or.inl (z_k0 (zk_223 hL)), trivial⟩ trivial (z_J.mono h (fun r S1 v5 hq => ?_))
    obtain ⟨y2, rfl, rfl, h⟩ := hq
    exact zj_iret dX11_press_57 rfl rfl h
  · replace h := h.2 c
    refine zj_iconst (x := (-1)) dX11_press_14 rfl ?_
    exact zj_iret dX11_press_15 rfl rfl h
theorem sg_X11_qubit_0 {G : z_G} {d : Nat} {S : z_Shp} {v : z_Dat} {Q : Option Value → z_Shp → z_Dat → Prop} {x1 : Int32} {x2 : Int32} (hL : z_L S)
    (h : ((0 ≤ x1 ∧ x1 ≤ (((v 224 0) * (v 224 0)) - 1)) → (((0 ≤ x2 ∧ x2 ≤ 2) → (z_J G d mX11_throwsIf (0, [.ref 223, .int 0], [], S, v) (fun r S1 v1 => ∃ y1 : Int32, r = some (.int y1) ∧ S1 = S ∧ ((y1 = 0 → ((¬ x2 = 0 → ((vp_in (((25 : Int32) * (x2 - 1)) + x1) 50) ∧ (Q (some (.int (v1 233 (((25 : Int32) * (x2 - 1)) + x1).toNatClampNeg))) S v1))) ∧ (x2 = 0 → ((vp_in ((22 : Int32) + x1) 71) ∧ (Q (some (.int (v1 224 ((22 : Int32) + x1).toNatClampNeg))) S v1))))) ∧ (¬ y1 = 0 → (Q (some (.int 0)) S v1)))))) ∧ (¬ (0 ≤ x2 ∧ x2 ≤ 2) → (z_J G d mX11_throwsIf (0, [.ref 223, .int 1], [], S, v) (fun r S1 v2 => ∃ y2 : Int32, r = some (.int y2) ∧ S1 = S ∧ ((y2 = 0 → ((¬ x2 = 0 → ((vp_in (((25 : Int32) * (x2 - 1)) + x1) 50) ∧ (Q (some (.int (v2 233 (((25 : Int32) * (x2 - 1)) + x1).toNatClampNeg))) S v2))) ∧ (x2 = 0 → ((vp_in ((22 : Int32) + x1) 71) ∧ (Q (some (.int (v2 224 ((22 : Int32) + x1).toNatClampNeg))) S v2))))) ∧ (¬ y2 = 0 → (Q (some (.int 0)) S v2)))))))) ∧ (¬ (0 ≤ x1 ∧ x1 ≤ (((v 224 0) * (v 224 0)) - 1)) → (z_J G d mX11_throwsIf (0, [.ref 223, .int 1], [], S, v) (fun r S1 v3 => ∃ y3 : Int32, r = some (.int y3) ∧ S1 = S ∧ ((y3 = 0 → ((¬ x2 = 0 → ((vp_in (((25 : Int32) * (x2 - 1)) + x1) 50) ∧ (Q (some (.int (v3 233 (((25 : Int32) * (x2 - 1)) + x1).toNatClampNeg))) S v3))) ∧ (x2 = 0 → ((vp_in ((22 : Int32) + x1) 71) ∧ (Q (some (.int (v3 224 ((22 : Int32) + x1).toNatClampNeg))) S v3))))) ∧ (¬ y3 = 0 → (Q (some (.int 0)) S v3))))))) :
    z_J G (d + 1) mX11_qubit (0, [.ref 223, .int x1, .int x2], [], S, v) Q := by
  refine zj_aload_n dX11_qubit_0 rfl rfl ?_
  refine zj_iload_n dX11_qubit_1 rfl rfl ?_
  refine zj_iconst (x := 0) dX11_qubit_2 rfl ?_
  refine zj_aload_n dX11_qubit_3 rfl rfl ?_
  refine zj_callV (M' := mX11_qubits) (avs := []) (st := [.int 0, .int x1, .ref 223]) (ci := 11) dX11_qubit_4 wm_X11_qubits wl_X11_148 wi_X11_qubits ws_X11_qubits (by decide) (zk_223 hL) rfl rfl (by decide) rfl (Nat.le_of_ble_eq_true rfl) (Nat.le_of_ble_eq_true rfl) ⟨Or.inl (z_k0 (zk_223 hL)), trivial⟩ ⟨Or.inl (z_k0 (zk_223 hL)), trivial⟩ (hp_X11_qubits hL ?_)
  refine zj_iconst (x := 1) dX11_qubit_7 rfl ?_
  refine zj_isub dX11_qubit_8 ?_
  refine zj_callS (M' := mX11_isIn) (avs := [.int x1, .int 0, .int (((v 224 0) * (v 224 0)) - 1)]) (st := [.ref 223]) dX11_qubit_9 wm_X11_isIn wl_X11_144 wt_X11_isIn rfl (by decide) rfl (Nat.le_of_ble_eq_true rfl) (Nat.le_of_ble_eq_true rfl) ⟨Or.inl (z_k0 (zk_223 hL)), trivial⟩ ⟨Or.inl (z_k0 (zk_223 hL)), trivial⟩ (hp_X11_isIn (fun c => ?_) (fun c => ?_))
  · replace h := h.1 c
    refine zj_if_eq (tgt := 24) dX11_qubit_12 (by decide) (fun q => absurd q (by decide)) (fun _ => ?_)
    refine zj_iload_n dX11_qubit_15 rfl rfl ?_
    refine zj_iconst (x := 0) dX11_qubit_16 rfl ?_
    refine zj_iconst (x := 2) dX11_qubit_17 rfl ?_
    refine zj_callS (M' := mX11_isIn) (avs := [.int x2, .int 0, .int 2]) (st := [.ref 223]) dX11_qubit_18 wm_X11_isIn wl_X11_144 wt_X11_isIn rfl (by decide) rfl (Nat.le_of_ble_eq_true rfl) (Nat.le_of_ble_eq_true rfl) ⟨Or.inl (z_k0 (zk_223 hL)), trivial⟩ ⟨Or.inl (z_k0 (zk_223 hL)), trivial⟩ (hp_X11_isIn (fun c => ?_) (fun c => ?_))
    · replace h := h.1 c
      refine zj_if_ne (tgt := 28) dX11_qubit_21 (by decide) (fun _ => ?_) (fun q => absurd q (by decide))
      refine zj_iconst (x := 0) dX11_qubit_28 rfl ?_
      refine zj_callV (M' := mX11_throwsIf) (avs := [.int 0]) (st := []) (ci := 11) dX11_qubit_29 wm_X11_throwsIf wl_X11_285 wi_X11_throwsIf ws_X11_throwsIf (by decide) (zk_223 hL) rfl rfl (by decide) rfl (Nat.le_of_ble_eq_true rfl) (Nat.le_of_ble_eq_true rfl) ⟨Or.inl (z_k0 (zk_223 hL)), trivial⟩ trivial (z_J.mono h (fun r S1 v1 hq => ?_))
      obtain ⟨y1, rfl, rfl, h⟩ := hq
      refine zj_if_eq (tgt := 37) dX11_qubit_32 (by decide) (fun c => ?_) (fun c => ?_)
      · replace h := h.1 c
        refine zj_iload_n dX11_qubit_37 rfl rfl ?_
        refine zj_if_ne (tgt := 53) dX11_qubit_38 (by decide) (fun c => ?_) (fun c => ?_)
        · replace h := h.1 c
          refine zj_aload_n dX11_qubit_53 rfl rfl ?_
          refine zj_getR (ci := 11) (j := 13) dX11_qubit_54 wf_X11_43 (by decide) (by decide) (zk_223 hL) rfl (zr_223_13 hL) ?_
          refine zj_bipush (x := 25) dX11_qubit_57 rfl ?_
          refine zj_iload_n dX11_qubit_59 rfl rfl ?_
          refine zj_iconst (x := 1) dX11_qubit_60 rfl ?_
          refine zj_isub dX11_qubit_61 ?_
          refine zj_imul dX11_qubit_62 ?_
          refine zj_iload_n dX11_qubit_63 rfl rfl ?_
          refine zj_iadd dX11_qubit_64 ?_
          refine zj_iaload dX11_qubit_65 (zk_233 hL) (by rw [(zl_233 hL)]; exact h.1) ?_
          replace h := h.2
          exact zj_iret dX11_qubit_66 rfl rfl h
        · replace h := h.2 c
          refine zj_aload_n dX11_qubit_41 rfl rfl ?_
          refine zj_getR (ci := 11) (j := 1) dX11_qubit_42 wf_X11_13 (by decide) (by decide) (zk_223 hL) rfl (zr_223_1 hL) ?_
          refine zj_bipush (x := 22) dX11_qubit_45 rfl ?_
          refine zj_iload_n dX11_qubit_47 rfl rfl ?_
          refine zj_iadd dX11_qubit_48 ?_
          refine zj_iaload dX11_qubit_49 (zk_224 hL) (by rw [(zl_224 hL)]; exact h.1) ?_
          replace h := h.2
          refine zj_goto (tgt := 66) dX11_qubit_50 (by decide) ?_
          exact zj_iret dX11_qubit_66 rfl rfl h
      · replace h := h.2 c
        refine zj_iconst (x := 0) dX11_qubit_35 rfl ?_
        exact zj_iret dX11_qubit_36 rfl rfl h
    · replace h := h.2 c
      refine zj_if_ne (tgt := 28) dX11_qubit_21 (by decide) (fun q => absurd (by decide) q) (fun _ => ?_)
      refine zj_iconst (x := 1) dX11_qubit_24 rfl ?_
      refine zj_goto (tgt := 29) dX11_qubit_25 (by decide) ?_
      refine zj_callV (M' := mX11_throwsIf) (avs := [.int 1]) (st := []) (ci := 11) dX11_qubit_29 wm_X11_throwsIf wl_X11_285 wi_X11_throwsIf ws_X11_throwsIf (by decide) (zk_223 hL) rfl rfl (by decide) rfl (Nat.le_of_ble_eq_true rfl) (Nat.le_of_ble_eq_true rfl) ⟨Or.inl (z_k0 (zk_223 hL)), trivial⟩ trivial (z_J.mono h (fun r S1 v2 hq => ?_))
      obtain ⟨y2, rfl, rfl, h⟩ := hq
      refine zj_if_eq (tgt := 37) dX11_qubit_32 (by decide) (fun c => ?_) (fun c => ?_)
      · replace h := h.1 c
        refine zj_iload_n dX11_qubit_37 rfl rfl ?_
        refine zj_if_ne (tgt := 53) dX11_qubit_38 (by decide) (fun c => ?_) (fun c => ?_)
        · replace h := h.1 c
          refine zj_aload_n dX11_qubit_53 rfl rfl ?_
          refine zj_getR (ci := 11) (j := 13) dX11_qubit_54 wf_X11_43 (by decide) (by decide) (zk_223 hL) rfl (zr_223_13 hL) ?_
          refine zj_bipush (x := 25) dX11_qubit_57 rfl ?_
          refine zj_iload_n dX11_qubit_59 rfl rfl ?_
          refine zj_iconst (x := 1) dX11_qubit_60 rfl ?_
          refine zj_isub dX11_qubit_61 ?_
          refine zj_imul dX11_qubit_62 ?_
          refine zj_iload_n dX11_qubit_63 rfl rfl ?_
          refine zj_iadd dX11_qubit_64 ?_
          refine zj_iaload dX11_qubit_65 (zk_233 hL) (by rw [(zl_233 hL)]; exact h.1) ?_
          replace h := h.2
          exact zj_iret dX11_qubit_66 rfl rfl h
        · replace h := h.2 c
          refine zj_aload_n dX11_qubit_41 rfl rfl ?_
          refine zj_getR (ci := 11) (j := 1) dX11_qubit_42 wf_X11_13 (by decide) (by decide) (zk_223 hL) rfl (zr_223_1 hL) ?_
          refine zj_bipush (x := 22) dX11_qubit_45 rfl ?_
          refine zj_iload_n dX11_qubit_47 rfl rfl ?_
          refine zj_iadd dX11_qubit_48 ?_
          refine zj_iaload dX11_qubit_49 (zk_224 hL) (by rw [(zl_224 hL)]; exact h.1) ?_
          replace h := h.2
          refine zj_goto (tgt := 66) dX11_qubit_50 (by decide) ?_
          exact zj_iret dX11_qubit_66 rfl rfl h
      · replace h := h.2 c
        refine zj_iconst (x := 0) dX11_qubit_35 rfl ?_
        exact zj_iret dX11_qubit_36 rfl rfl h
  · replace h := h.2 c
    refine zj_if_eq (tgt := 24) dX11_qubit_12 (by decide) (fun _ => ?_) (fun q => absurd (by decide) q)
    refine zj_iconst (x := 1) dX11_qubit_24 rfl ?_
    refine zj_goto (tgt := 29) dX11_qubit_25 (by decide) ?_
    refine zj_callV (M' := mX11_throwsIf) (avs := [.int 1]) (st := []) (ci := 11) dX11_qubit_29 wm_X11_throwsIf wl_X11_285 wi_X11_throwsIf ws_X11_throwsIf (by decide) (zk_223 hL) rfl rfl (by decide) rfl (Nat.le_of_ble_eq_true rfl) (Nat.le_of_ble_eq_true rfl) ⟨Or.inl (z_k0 (zk_223 hL)), trivial⟩ trivial (z_J.mono h (fun r S1 v3 hq => ?_))
    obtain ⟨y3, rfl, rfl, h⟩ := hq
    refine zj_if_eq (tgt := 37) dX11_qubit_32 (by decide) (fun c => ?_) (fun c => ?_)
    · replace h := h.1 c
      refine zj_iload_n dX11_qubit_37 rfl rfl ?_
      refine zj_if_ne (tgt := 53) dX11_qubit_38 (by decide) (fun c => ?_) (fun c => ?_)
      · replace h := h.1 c
        refine zj_aload_n dX11_qubit_53 rfl rfl ?_
        refine zj_getR (ci := 11) (j := 13) dX11_qubit_54 wf_X11_43 (by decide) (by decide) (zk_223 hL) rfl (zr_223_13 hL) ?_
        refine zj_bipush (x := 25) dX11_qubit_57 rfl ?_
        refine zj_iload_n dX11_qubit_59 rfl rfl ?_
        refine zj_iconst (x := 1) dX11_qubit_60 rfl ?_
        refine zj_isub dX11_qubit_61 ?_
        refine zj_imul dX11_qubit_62 ?_
        refine zj_iload_n dX11_qubit_63 rfl rfl ?_
        refine zj_iadd dX11_qubit_64 ?_
        refine zj_iaload dX11_qubit_65 (zk_233 hL) (by rw [(zl_233 hL)]; exact h.1) ?_
        replace h := h.2
        exact zj_iret dX11_qubit_66 rfl rfl h
      · replace h := h.2 c
        refine zj_aload_n dX11_qubit_41 rfl rfl ?_
        refine zj_getR (ci := 11) (j := 1) dX11_qubit_42 wf_X11_13 (by decide) (by decide) (zk_223 hL) rfl (zr_223_1 hL) ?_
        refine zj_bipush (x := 22) dX11_qubit_45 rfl ?_
        refine zj_iload_n dX11_qubit_47 rfl rfl ?_
        refine zj_iadd dX11_qubit_48 ?_
        refine zj_iaload dX11_qubit_49 (zk_224 hL) (by rw [(zl_224 hL)]; exact h.1) ?_
        replace h := h.2
        refine zj_goto (tgt := 66) dX11_qubit_50 (by decide) ?_
        exact zj_iret dX11_qubit_66 rfl rfl h
    · replace h := h.2 c
      refine zj_iconst (x := 0) dX11_qubit_35 rfl ?_
      exact zj_iret dX11_qubit_36 rfl rfl h
theorem sg_X11_reading_0 {G : z_G} {d : Nat} {S : z_Shp} {v : z_Dat} {Q : Option Value → z_Shp → z_Dat → Prop} {x1 : Int32} {x2 : Int32} (hL : z_L S)
    (h : ∀ v1, v1 = z_u v 223 0 0 → (((x1 = 0 ∨ x1 = 1) → (((0 ≤ x2 ∧ x2 ≤ ((v1 224 1) - 1)) → ((vp_in (((6 : Int32) + ((8 : Int32) * x1)) + x2) 71) ∧ (Q (some (.int (v1 224 (((6 : Int32) + ((8 : Int32) * x1)) + x2).toNatClampNeg))) S v1))) ∧ (¬ (0 ≤ x2 ∧ x2 ≤ ((v1 224 1) - 1)) → (Q (some (.int (-1))) S v1)))) ∧ (¬ (x1 = 0 ∨ x1 = 1) → (Q (some (.int (-1))) S v1)))) :
    z_J G (d + 1) mX11_reading (0, [.ref 223, .int x1, .int x2], [], S, v) Q := by
  refine zj_aload_n dX11_reading_0 rfl rfl ?_
  refine zj_iconst (x := 0) dX11_reading_1 rfl ?_
  refine zj_putI (ci := 11) (j := 0) dX11_reading_2 wf_X11_1 (by decide) (by decide) (zk_223 hL) rfl rfl rfl rfl (fun v1 ev1 => ?_)
  replace h := h v1 ev1
  refine zj_iload_n dX11_reading_5 rfl rfl ?_
  refine zj_callS (M' := mX11_isKind) (avs := [.int x1]) (st := []) dX11_reading_6 wm_X11_isKind wl_X11_165 wt_X11_isKind rfl (by decide) rfl (Nat.le_of_ble_eq_true rfl) (Nat.le_of_ble_eq_true rfl) ⟨Or.inl (z_k0 (zk_223 hL)), trivial⟩ trivial (hp_X11_isKind (fun c => ?_) (fun c => ?_))
  · replace h := h.1 c
    refine zj_if_eq (tgt := 45) dX11_reading_9 (by decide) (fun q => absurd q (by decide)) (fun _ => ?_)
    refine zj_iload_n dX11_reading_12 rfl rfl ?_
    refine zj_iconst (x := 0) dX11_reading_13 rfl ?_
    refine zj_aload_n dX11_reading_14 rfl rfl ?_
    refine zj_getR (ci := 11) (j := 1) dX11_reading_15 wf_X11_13 (by decide) (by decide) (zk_223 hL) rfl (zr_223_1 hL) ?_
    refine zj_iconst (x := 1) dX11_reading_18 rfl ?_
    refine zj_iaload dX11_reading_19 (zk_224 hL) (by rw [(zl_224 hL)]; exact z_vin (by decide)) ?_
    refine zj_iconst (x := 1) dX11_reading_20 rfl ?_
    refine zj_isub dX11_reading_21 ?_
    refine zj_callS (M' := mX11_isIn) (avs := [.int x2, .int 0, .int ((v1 224 1) - 1)]) (st := []) dX11_reading_22 wm_X11_isIn wl_X11_144 wt_X11_isIn rfl (by decide) rfl (Nat.le_of_ble_eq_true rfl) (Nat.le_of_ble_eq_true rfl) ⟨Or.inl (z_k0 (zk_223 hL)), trivial⟩ trivial (hp_X11_isIn (fun c => ?_) (fun c => ?_))
    · replace h := h.1 c
      refine zj_if_eq (tgt := 45) dX11_reading_25 (by decide) (fun q => absurd q (by decide)) (fun _ => ?_)
      refine zj_aload_n dX11_reading_28 rfl rfl ?_
      refine zj_getR (ci := 11) (j := 1) dX11_reading_29 wf_X11_13 (by decide) (by decide) (zk_223 hL) rfl (zr_223_1 hL) ?_
      refine zj_bipush (x := 6) dX11_reading_32 rfl ?_
      refine zj_bipush (x := 8) dX11_reading_34 rfl ?_
      refine zj_iload_n dX11_reading_36 rfl rfl ?_
      refine zj_imul dX11_reading_37 ?_
      refine zj_iadd dX11_reading_38 ?_
      refine zj_iload_n dX11_reading_39 rfl rfl ?_
      refine zj_iadd dX11_reading_40 ?_
      refine zj_iaload dX11_reading_41 (zk_224 hL) (by rw [(zl_224 hL)]; exact h.1) ?_
      replace h := h.2
      refine zj_goto (tgt := 46) dX11_reading_42 (by decide) ?_
      exact zj_iret dX11_reading_46 rfl rfl h
    · replace h := h.2 c
      refine zj_if_eq (tgt := 45) dX11_reading_25 (by decide) (fun _ => ?_) (fun q => absurd (by decide) q)
      refine zj_iconst (x := (-1)) dX11_reading_45 rfl ?_
      exact zj_iret dX11_reading_46 rfl rfl h
  · replace h := h.2 c
    refine zj_if_eq (tgt := 45) dX11_reading_9 (by decide) (fun _ => ?_) (fun q => absurd (by decide) q)
    refine zj_iconst (x := (-1)) dX11_reading_45 rfl ?_
    exact zj_iret dX11_reading_46 rfl rfl h
theorem sg_X11_reads_0 {G : z_G} {d : Nat} {S : z_Shp} {v : z_Dat} {Q : Option Value → z_Shp → z_Dat → Prop} (hL : z_L S)
    (h : ∀ v1, v1 = z_u v 223 19 0 → (∀ v2, v2 = z_u v1 223 17 0 → (∀ v3, v3 = z_u v2 223 18 0 → (z_J G d mX11_reads (15, [.ref 223, .null, .null], [], S, v3) Q)))) :
    z_J G d mX11_reads (0, [.ref 223, .null, .null], [], S, v) Q := by
  refine zj_aload_n dX11_reads_0 rfl rfl ?_
  refine zj_iconst (x := 0) dX11_reads_1 rfl ?_
  refine zj_putI (ci := 11) (j := 19) dX11_reads_2 wf_X11_187 (by decide) (by decide) (zk_223 hL) rfl rfl rfl rfl (fun v1 ev1 => ?_)
  replace h := h v1 ev1
  refine zj_aload_n dX11_reads_5 rfl rfl ?_
  refine zj_iconst (x := 0) dX11_reads_6 rfl ?_
  refine zj_putI (ci := 11) (j := 17) dX11_reads_7 wf_X11_214 (by decide) (by decide) (zk_223 hL) rfl rfl rfl rfl (fun v2 ev2 => ?_)
  replace h := h v2 ev2
  refine zj_aload_n dX11_reads_10 rfl rfl ?_
  refine zj_iconst (x := 0) dX11_reads_11 rfl ?_
  refine zj_putI (ci := 11) (j := 18) dX11_reads_12 wf_X11_217 (by decide) (by decide) (zk_223 hL) rfl rfl rfl rfl (fun v3 ev3 => ?_)
  replace h := h v3 ev3
  exact h
theorem sg_X11_reads_15 {G : z_G} {d : Nat} {S : z_Shp} {v : z_Dat} {Q : Option Value → z_Shp → z_Dat → Prop} (hL : z_L S)
    (h : z_J G d mX11_peek (0, [.ref 223], [], S, v) (fun r S1 v1 => ∃ y1 : Int32, r = some (.int y1) ∧ S1 = S ∧ ((¬ y1 = (-1) → ((¬ y1 = 93 → (z_J G d mX11_step (0, [.ref 223, .null, .null, .null], [], S, v1) (fun r S1 v2 => ∃ y2 : Int32, r = some (.int y2) ∧ S1 = S ∧ ((¬ y2 = 0 → ((vp_in ((4 : Int32) * (v1 223 17)) 128) ∧ ((¬ (v2 234 ((4 : Int32) * (v1 223 17)).toNatClampNeg) = 7 → (z_J G d mX11_sign (0, [.ref 223, .int 59], [], S, v2) (fun r S1 v3 => ∃ y3 : Int32, r = some (.int y3) ∧ S1 = S ∧ ((¬ y3 = 0 → (z_J G (d + 1) mX11_reads (15, [.ref 223, .null, .null], [], S, v3) Q)) ∧ (y3 = 0 → (Q (some (.int 0)) S v3)))))) ∧ ((v2 234 ((4 : Int32) * (v1 223 17)).toNatClampNeg) = 7 → (vp_in (v2 223 18) 2 ∧ (∀ v4, v4 = z_u v2 235 (v2 223 18).toNatClampNeg (v1 223 17) → (∀ v5, v5 = z_u v4 223 18 ((v4 223 18) + 1) → (z_J G (d + 1) mX11_reads (15, [.ref 223, .null, .null], [], S, v5) Q)))))))) ∧ (y2 = 0 → (Q (some (.int 0)) S v2)))))) ∧ (y1 = 93 → (((v1 223 18) ≤ 0 → (z_J G d mX11_step (0, [.ref 223, .null, .null, .null], [], S, v1) (fun r S1 v6 => ∃ y4 : Int32, r = some (.int y4) ∧ S1 = S ∧ ((¬ y4 = 0 → ((vp_in ((4 : Int32) * (v1 223 17)) 128) ∧ ((¬ (v6 234 ((4 : Int32) * (v1 223 17)).toNatClampNeg) = 7 → (z_J G d mX11_sign (0, [.ref 223, .int 59], [], S, v6) (fun r S1 v7 => ∃ y5 : Int32, r = some (.int y5) ∧ S1 = S ∧ ((¬ y5 = 0 → (z_J G (d + 1) mX11_reads (15, [.ref 223, .null, .null], [], S, v7) Q)) ∧ (y5 = 0 → (Q (some (.int 0)) S v7)))))) ∧ ((v6 234 ((4 : Int32) * (v1 223 17)).toNatClampNeg) = 7 → (vp_in (v6 223 18) 2 ∧ (∀ v8, v8 = z_u v6 235 (v6 223 18).toNatClampNeg (v1 223 17) → (∀ v9, v9 = z_u v8 223 18 ((v8 223 18) + 1) → (z_J G (d + 1) mX11_reads (15, [.ref 223, .null, .null], [], S, v9) Q)))))))) ∧ (y4 = 0 → (Q (some (.int 0)) S v6)))))) ∧ (¬ (v1 223 18) ≤ 0 → (∀ v10, v10 = z_u v1 223 19 ((v1 223 19) + 1) → (∀ v11, v11 = z_u v10 223 18 ((v10 223 18) - 1) → ((vp_in (v11 223 18) 2) ∧ (vp_in (((4 : Int32) * (v11 235 (v11 223 18).toNatClampNeg)) + 2) 128 ∧ (∀ v12, v12 = z_u v11 234 (((4 : Int32) * (v11 235 (v11 223 18).toNatClampNeg)) + 2).toNatClampNeg (v11 223 17) → (z_J G d mX11_sign (0, [.ref 223, .int 59], [], S, v12) (fun r S1 v13 => ∃ y6 : Int32, r = some (.int y6) ∧ S1 = S ∧ ((¬ y6 = 0 → (z_J G (d + 1) mX11_reads (15, [.ref 223, .null, .null], [], S, v13) Q)) ∧ (y6 = 0 → (Q (some (.int 0)) S v13))))))))))))))) ∧ (y1 = (-1) → (((v1 223 18) = 0 → (Q (some (.int 1)) S v1)) ∧ (¬ (v1 223 18) = 0 → (z_J G d mX11_bad (0, [.ref 223, .int 1, .int (v1 223 9)], [], S, v1) (fun r S1 v14 => ∃ y7 : Int32, r = some (.int y7) ∧ S1 = S ∧ ((y7 = 0 → (Q (some (.int 0)) S v14)) ∧ (¬ y7 = 0 → (Q (some (.int 1)) S v14))))))))))) :
    z_J G (d + 1) mX11_reads (15, [.ref 223, .null, .null], [], S, v) Q := by
  refine zj_aload_n dX11_reads_15 rfl rfl ?_
  refine zj_callV (M' := mX11_peek) (avs := []) (st := []) (ci := 11) dX11_reads_16 wm_X11_peek wl_X11_199 wi_X11_peek ws_X11_peek (by decide) (zk_223 hL) rfl rfl (by decide) rfl (Nat.le_of_ble_eq_true rfl) (Nat.le_of_ble_eq_true rfl) ⟨Or.inl (z_k0 (zk_223 hL)), trivial⟩ trivial (z_J.mono h (fun r S1 v1 hq => ?_))
  obtain ⟨y1, rfl, rfl, h⟩ := hq
  refine zj_istore_n (ls2 := [.ref 223, .int y1, .null]) dX11_reads_19 rfl (by decide) rfl rfl ?_
  refine zj_iload_n dX11_reads_20 rfl rfl ?_
  refine zj_iconst (x := (-1)) dX11_reads_21 rfl ?_
  refine zj_icmp_ne (tgt := 50) dX11_reads_22 (by decide) (fun c => ?_) (fun c => ?_)
  · replace h := h.1 c
    refine zj_iload_n dX11_reads_50 rfl rfl ?_
    refine zj_bipush (x := 93) dX11_reads_51 rfl ?_
    refine zj_icmp_ne (tgt := 116) dX11_reads_53 (by decide) (fun c => ?_) (fun c => ?_)
    · replace h := h.1 c
      refine zj_aload_n dX11_reads_116 rfl rfl ?_
      refine zj_getI (ci := 11) (j := 17) dX11_reads_117 wf_X11_214 (by decide) (by decide) (zk_223 hL) rfl ?_
      refine zj_istore_n (ls2 := [.ref 223, .int y1, .int (v1 223 17)]) dX11_reads_120 rfl (by decide) rfl rfl ?_
      refine zj_aload_n dX11_reads_121 rfl rfl ?_
      refine zj_callV (M' := mX11_step) (avs := []) (st := []) (ci := 11) dX11_reads_122 wm_X11_step wl_X11_229 wi_X11_step ws_X11_step (by decide) (zk_223 hL) rfl rfl (by decide) rfl (Nat.le_of_ble_eq_true rfl) (Nat.le_of_ble_eq_true rfl) ⟨Or.inl (z_k0 (zk_223 hL)), trivial⟩ trivial (z_J.mono h (fun r S1 v2 hq => ?_))
      obtain ⟨y2, rfl, rfl, h⟩ := hq
      refine zj_if_ne (tgt := 130) dX11_reads_125 (by decide) (fun c => ?_) (fun c => ?_)
      · replace h := h.1 c
        refine zj_aload_n dX11_reads_130 rfl rfl ?_
        refine zj_getR (ci := 11) (j := 15) dX11_reads_131 wf_X11_46 (by decide) (by decide) (zk_223 hL) rfl (zr_223_15 hL) ?_
        refine zj_iconst (x := 4) dX11_reads_134 rfl ?_
        refine zj_iload_n dX11_reads_135 rfl rfl ?_
        refine zj_imul dX11_reads_136 ?_
        refine zj_iaload dX11_reads_137 (zk_234 hL) (by rw [(zl_234 hL)]; exact h.1) ?_
        replace h := h.2
        refine zj_bipush (x := 7) dX11_reads_138 rfl ?_
        refine zj_icmp_ne (tgt := 166) dX11_reads_140 (by decide) (fun c => ?_) (fun c => ?_)
        · replace h := h.1 c
          refine zj_aload_n dX11_reads_166 rfl rfl ?_
          refine zj_bipush (x := 59) dX11_reads_167 rfl ?_
          refine zj_callV (M' := mX11_sign) (avs := [.int 59]) (st := []) (ci := 11) dX11_reads_169 wm_X11_sign wl_X11_226 wi_X11_sign ws_X11_sign (by decide) (zk_223 hL) rfl rfl (by decide) rfl (Nat.le_of_ble_eq_true rfl) (Nat.le_of_ble_eq_true rfl) ⟨Or.inl (z_k0 (zk_223 hL)), trivial⟩ trivial (z_J.mono h (fun r S1 v3 hq => ?_))
          obtain ⟨y3, rfl, rfl, h⟩ := hq
          refine zj_if_ne (tgt := 177) dX11_reads_172 (by decide) (fun c => ?_) (fun c => ?_)
          · replace h := h.1 c
            refine zj_goto (tgt := 15) dX11_reads_177 (by decide) ?_
            refine zj_forget (ls2 := [.ref 223, .null, .null]) ⟨Or.inr rfl, Or.inl rfl, Or.inl rfl, trivial⟩ ?_
            exact h
          · replace h := h.2 c
            refine zj_iconst (x := 0) dX11_reads_175 rfl ?_
            exact zj_iret dX11_reads_176 rfl (by decide) h
        · replace h := h.2 c
          refine zj_aload_n dX11_reads_143 rfl rfl ?_
          refine zj_getR (ci := 11) (j := 16) dX11_reads_144 wf_X11_49 (by decide) (by decide) (zk_223 hL) rfl (zr_223_16 hL) ?_
          refine zj_aload_n dX11_reads_147 rfl rfl ?_
          refine zj_getI (ci := 11) (j := 18) dX11_reads_148 wf_X11_217 (by decide) (by decide) (zk_223 hL) rfl ?_
          refine zj_iload_n dX11_reads_151 rfl rfl ?_
          refine zj_iastore dX11_reads_152 (zk_235 hL) (by rw [(zl_235 hL)]; exact h.1) (fun v4 ev4 => ?_)
          replace h := h.2 v4 ev4
          refine zj_aload_n dX11_reads_153 rfl rfl ?_
          refine zj_dup dX11_reads_154 rfl ?_
          refine zj_getI (ci := 11) (j := 18) dX11_reads_155 wf_X11_217 (by decide) (by decide) (zk_223 hL) rfl ?_
          refine zj_iconst (x := 1) dX11_reads_158 rfl ?_
          refine zj_iadd dX11_reads_159 ?_
          refine zj_putI (ci := 11) (j := 18) dX11_reads_160 wf_X11_217 (by decide) (by decide) (zk_223 hL) rfl rfl rfl rfl (fun v5 ev5 => ?_)
          replace h := h v5 ev5
          refine zj_goto (tgt := 177) dX11_reads_163 (by decide) ?_
          refine zj_goto (tgt := 15) dX11_reads_177 (by decide) ?_
          refine zj_forget (ls2 := [.ref 223, .null, .null]) ⟨Or.inr rfl, Or.inl rfl, Or.inl rfl, trivial⟩ ?_
          exact h
      · replace h := h.2 c
        refine zj_iconst (x := 0) dX11_reads_128 rfl ?_
        exact zj_iret dX11_reads_129 rfl (by decide) h
    · replace h := h.2 c
      refine zj_aload_n dX11_reads_56 rfl rfl ?_
      refine zj_getI (ci := 11) (j := 18) dX11_reads_57 wf_X11_217 (by decide) (by decide) (zk_223 hL) rfl ?_
      refine zj_if_le (tgt := 116) dX11_reads_60 (by decide) (fun c => ?_) (fun c => ?_)
      · replace h := h.1 c
        refine zj_aload_n dX11_reads_116 rfl rfl ?_
        refine zj_getI (ci := 11) (j := 17) dX11_reads_117 wf_X11_214 (by decide) (by decide) (zk_223 hL) rfl ?_
        refine zj_istore_n (ls2 := [.ref 223, .int y1, .int (v1 223 17)]) dX11_reads_120 rfl (by decide) rfl rfl ?_
        refine zj_aload_n dX11_reads_121 rfl rfl ?_
        refine zj_callV (M' := mX11_step) (avs := []) (st := []) (ci := 11) dX11_reads_122 wm_X11_step wl_X11_229 wi_X11_step ws_X11_step (by decide) (zk_223 hL) rfl rfl (by decide) rfl (Nat.le_of_ble_eq_true rfl) (Nat.le_of_ble_eq_true rfl) ⟨Or.inl (z_k0 (zk_223 hL)), trivial⟩ trivial (z_J.mono h (fun r S1 v6 hq => ?_))
        obtain ⟨y4, rfl, rfl, h⟩ := hq
        refine zj_if_ne (tgt := 130) dX11_reads_125 (by decide) (fun c => ?_) (fun c => ?_)
        · replace h := h.1 c
          refine zj_aload_n dX11_reads_130 rfl rfl ?_
          refine zj_getR (ci := 11) (j := 15) dX11_reads_131 wf_X11_46 (by decide) (by decide) (zk_223 hL) rfl (zr_223_15 hL) ?_
          refine zj_iconst (x := 4) dX11_reads_134 rfl ?_
          refine zj_iload_n dX11_reads_135 rfl rfl ?_
          refine zj_imul dX11_reads_136 ?_
          refine zj_iaload dX11_reads_137 (zk_234 hL) (by rw [(zl_234 hL)]; exact h.1) ?_
          replace h := h.2
          refine zj_bipush (x := 7) dX11_reads_138 rfl ?_
          refine zj_icmp_ne (tgt := 166) dX11_reads_140 (by decide) (fun c => ?_) (fun c => ?_)
          · replace h := h.1 c
            refine zj_aload_n dX11_reads_166 rfl rfl ?_
            refine zj_bipush (x := 59) dX11_reads_167 rfl ?_
            refine zj_callV (M' := mX11_sign) (avs := [.int 59]) (st := []) (ci := 11) dX11_reads_169 wm_X11_sign wl_X11_226 wi_X11_sign ws_X11_sign (by decide) (zk_223 hL) rfl rfl (by decide) rfl (Nat.le_of_ble_eq_true rfl) (Nat.le_of_ble_eq_true rfl) ⟨Or.inl (z_k0 (zk_223 hL)), trivial⟩ trivial (z_J.mono h (fun r S1 v7 hq => ?_))
            obtain ⟨y5, rfl, rfl, h⟩ := hq
            refine zj_if_ne (tgt := 177) dX11_reads_172 (by decide) (fun c => ?_) (fun c => ?_)
            · replace h := h.1 c
              refine zj_goto (tgt := 15) dX11_reads_177 (by decide) ?_
              refine zj_forget (ls2 := [.ref 223, .null, .null]) ⟨Or.inr rfl, Or.inl rfl, Or.inl rfl, trivial⟩ ?_
              exact h
            · replace h := h.2 c
              refine zj_iconst (x := 0) dX11_reads_175 rfl ?_
              exact zj_iret dX11_reads_176 rfl (by decide) h
          · replace h := h.2 c
            refine zj_aload_n dX11_reads_143 rfl rfl ?_
            refine zj_getR (ci := 11) (j := 16) dX11_reads_144 wf_X11_49 (by decide) (by decide) (zk_223 hL) rfl (zr_223_16 hL) ?_
            refine zj_aload_n dX11_reads_147 rfl rfl ?_
            refine zj_getI (ci := 11) (j := 18) dX11_reads_148 wf_X11_217 (by decide) (by decide) (zk_223 hL) rfl ?_
            refine zj_iload_n dX11_reads_151 rfl rfl ?_
            refine zj_iastore dX11_reads_152 (zk_235 hL) (by rw [(zl_235 hL)]; exact h.1) (fun v8 ev8 => ?_)
            replace h := h.2 v8 ev8
            refine zj_aload_n dX11_reads_153 rfl rfl ?_
            refine zj_dup dX11_reads_154 rfl ?_
            refine zj_getI (ci := 11) (j := 18) dX11_reads_155 wf_X11_217 (by decide) (by decide) (zk_223 hL) rfl ?_
            refine zj_iconst (x := 1) dX11_reads_158 rfl ?_
            refine zj_iadd dX11_reads_159 ?_
            refine zj_putI (ci := 11) (j := 18) dX11_reads_160 wf_X11_217 (by decide) (by decide) (zk_223 hL) rfl rfl rfl rfl (fun v9 ev9 => ?_)
            replace h := h v9 ev9
            refine zj_goto (tgt := 177) dX11_reads_163 (by decide) ?_
            refine zj_goto (tgt := 15) dX11_reads_177 (by decide) ?_
            refine zj_forget (ls2 := [.ref 223, .null, .null]) ⟨Or.inr rfl, Or.inl rfl, Or.inl rfl, trivial⟩ ?_
            exact h
        · replace h := h.2 c
          refine zj_iconst (x := 0) dX11_reads_128 rfl ?_
          exact zj_iret dX11_reads_129 rfl (by decide) h
      · replace h := h.2 c
        refine zj_aload_n dX11_reads_63 rfl rfl ?_
        refine zj_dup dX11_reads_64 rfl ?_
        refine zj_getI (ci := 11) (j := 19) dX11_reads_65 wf_X11_187 (by decide) (by decide) (zk_223 hL) rfl ?_
        refine zj_iconst (x := 1) dX11_reads_68 rfl ?_
        refine zj_iadd dX11_reads_69 ?_
        refine zj_putI (ci := 11) (j := 19) dX11_reads_70 wf_X11_187 (by decide) (by decide) (zk_223 hL) rfl rfl rfl rfl (fun v10 ev10 => ?_)
        replace h := h v10 ev10
        refine zj_aload_n dX11_reads_73 rfl rfl ?_
        refine zj_dup dX11_reads_74 rfl ?_
        refine zj_getI (ci := 11) (j := 18) dX11_reads_75 wf_X11_217 (by decide) (by decide) (zk_223 hL) rfl ?_
        refine zj_iconst (x := 1) dX11_reads_78 rfl ?_
        refine zj_isub dX11_reads_79 ?_
        refine zj_putI (ci := 11) (j := 18) dX11_reads_80 wf_X11_217 (by decide) (by decide) (zk_223 hL) rfl rfl rfl rfl (fun v11 ev11 => ?_)
        replace h := h v11 ev11
        refine zj_aload_n dX11_reads_83 rfl rfl ?_
        refine zj_getR (ci := 11) (j := 15) dX11_reads_84 wf_X11_46 (by decide) (by decide) (zk_223 hL) rfl (zr_223_15 hL) ?_
        refine zj_iconst (x := 4) dX11_reads_87 rfl ?_
        refine zj_aload_n dX11_reads_88 rfl rfl ?_
        refine zj_getR (ci := 11) (j := 16) dX11_reads_89 wf_X11_49 (by decide) (by decide) (zk_223 hL) rfl (zr_223_16 hL) ?_
        refine zj_aload_n dX11_reads_92 rfl rfl ?_
        refine zj_getI (ci := 11) (j := 18) dX11_reads_93 wf_X11_217 (by decide) (by decide) (zk_223 hL) rfl ?_
        refine zj_iaload dX11_reads_96 (zk_235 hL) (by rw [(zl_235 hL)]; exact h.1) ?_
        replace h := h.2
        refine zj_imul dX11_reads_97 ?_
        refine zj_iconst (x := 2) dX11_reads_98 rfl ?_
        refine zj_iadd dX11_reads_99 ?_
        refine zj_aload_n dX11_reads_100 rfl rfl ?_
        refine zj_getI (ci := 11) (j := 17) dX11_reads_101 wf_X11_214 (by decide) (by decide) (zk_223 hL) rfl ?_
        refine zj_iastore dX11_reads_104 (zk_234 hL) (by rw [(zl_234 hL)]; exact h.1) (fun v12 ev12 => ?_)
        replace h := h.2 v12 ev12
        refine zj_aload_n dX11_reads_105 rfl rfl ?_
        refine zj_bipush (x := 59) dX11_reads_106 rfl ?_
        refine zj_callV (M' := mX11_sign) (avs := [.int 59]) (st := []) (ci := 11) dX11_reads_108 wm_X11_sign wl_X11_226 wi_X11_sign ws_X11_sign (by decide) (zk_223 hL) rfl rfl (by decide) rfl (Nat.le_of_ble_eq_true rfl) (Nat.le_of_ble_eq_true rfl) ⟨Or.inl (z_k0 (zk_223 hL)), trivial⟩ trivial (z_J.mono h (fun r S1 v13 hq => ?_))
        obtain ⟨y6, rfl, rfl, h⟩ := hq
        refine zj_if_ne (tgt := 15) dX11_reads_111 (by decide) (fun c => ?_) (fun c => ?_)
        · replace h := h.1 c
          refine zj_forget (ls2 := [.ref 223, .null, .null]) ⟨Or.inr rfl, Or.inl rfl, Or.inr rfl, trivial⟩ ?_
          exact h
        · replace h := h.2 c
          refine zj_iconst (x := 0) dX11_reads_114 rfl ?_
          exact zj_iret dX11_reads_115 rfl (by decide) h
  · replace h := h.2 c
    refine zj_aload_n dX11_reads_25 rfl rfl ?_
    refine zj_getI (ci := 11) (j := 18) dX11_reads_26 wf_X11_217 (by decide) (by decide) (zk_223 hL) rfl ?_
    refine zj_if_eq (tgt := 44) dX11_reads_29 (by decide) (fun c => ?_) (fun c => ?_)
    · replace h := h.1 c
      refine zj_iconst (x := 1) dX11_reads_44 rfl ?_
      refine zj_goto (tgt := 49) dX11_reads_45 (by decide) ?_
      exact zj_iret dX11_reads_49 rfl (by decide) h
    · replace h := h.2 c
      refine zj_aload_n dX11_reads_32 rfl rfl ?_
      refine zj_iconst (x := 1) dX11_reads_33 rfl ?_
      refine zj_aload_n dX11_reads_34 rfl rfl ?_
      refine zj_getI (ci := 11) (j := 9) dX11_reads_35 wf_X11_190 (by decide) (by decide) (zk_223 hL) rfl ?_
      refine zj_callV (M' := mX11_bad) (avs := [.int 1, .int (v1 223 9)]) (st := []) (ci := 11) dX11_reads_38 wm_X11_bad wl_X11_208 wi_X11_bad ws_X11_bad (by decide) (zk_223 hL) rfl rfl (by decide) rfl (Nat.le_of_ble_eq_true rfl) (Nat.le_of_ble_eq_true rfl) ⟨Or.inl (z_k0 (zk_223 hL)), trivial⟩ trivial (z_J.mono h (fun r S1 v14 hq => ?_))
      obtain ⟨y7, rfl, rfl, h⟩ := hq
      refine zj_if_eq (tgt := 48) dX11_reads_41 (by decide) (fun c => ?_) (fun c => ?_)
      · replace h := h.1 c
        refine zj_iconst (x := 0) dX11_reads_48 rfl ?_
        exact zj_iret dX11_reads_49 rfl (by decide) h
      · replace h := h.2 c
        refine zj_iconst (x := 1) dX11_reads_44 rfl ?_
        refine zj_goto (tgt := 49) dX11_reads_45 (by decide) ?_
        exact zj_iret dX11_reads_49 rfl (by decide) h
theorem sg_X11_restore_0 {G : z_G} {d : Nat} {S : z_Shp} {v : z_Dat} {Q : Option Value → z_Shp → z_Dat → Prop} {x1 : Int32} (hL : z_L S)
    (h : ∀ v1, v1 = z_u v 223 0 0 → (((0 ≤ x1 ∧ x1 ≤ 1) → ((vp_in x1 2) ∧ ((¬ (v1 228 x1.toNatClampNeg) = 0 → (z_J G d mX11_copies (0, [.ref 223, .ref 225, .int ((71 : Int32) * x1), .ref 224, .int 0, .null], [], S, v1) (fun r S1 v2 => r = none ∧ S1 = S ∧ (z_J G d mX11_lays (0, [.ref 223, .null, .null, .null, .null], [], S, v2) (fun r S1 v3 => r = none ∧ S1 = S ∧ (∀ v4, v4 = z_u v3 223 6 0 → (Q (some (.int 1)) S v4))))))) ∧ ((v1 228 x1.toNatClampNeg) = 0 → (Q (some (.int 0)) S v1))))) ∧ (¬ (0 ≤ x1 ∧ x1 ≤ 1) → (Q (some (.int 0)) S v1)))) :
    z_J G (d + 1) mX11_restore (0, [.ref 223, .int x1], [], S, v) Q := by
  refine zj_aload_n dX11_restore_0 rfl rfl ?_
  refine zj_iconst (x := 0) dX11_restore_1 rfl ?_
  refine zj_putI (ci := 11) (j := 0) dX11_restore_2 wf_X11_1 (by decide) (by decide) (zk_223 hL) rfl rfl rfl rfl (fun v1 ev1 => ?_)
  replace h := h v1 ev1
  refine zj_iload_n dX11_restore_5 rfl rfl ?_
  refine zj_iconst (x := 0) dX11_restore_6 rfl ?_
  refine zj_iconst (x := 1) dX11_restore_7 rfl ?_
  refine zj_callS (M' := mX11_isIn) (avs := [.int x1, .int 0, .int 1]) (st := []) dX11_restore_8 wm_X11_isIn wl_X11_144 wt_X11_isIn rfl (by decide) rfl (Nat.le_of_ble_eq_true rfl) (Nat.le_of_ble_eq_true rfl) ⟨Or.inl (z_k0 (zk_223 hL)), trivial⟩ trivial (hp_X11_isIn (fun c => ?_) (fun c => ?_))
  · replace h := h.1 c
    refine zj_if_eq (tgt := 23) dX11_restore_11 (by decide) (fun q => absurd q (by decide)) (fun _ => ?_)
    refine zj_aload_n dX11_restore_14 rfl rfl ?_
    refine zj_getR (ci := 11) (j := 5) dX11_restore_15 wf_X11_26 (by decide) (by decide) (zk_223 hL) rfl (zr_223_5 hL) ?_
    refine zj_iload_n dX11_restore_18 rfl rfl ?_
    refine zj_zaload dX11_restore_19 (zk_228 hL) (by rw [(zl_228 hL)]; exact h.1) ?_
    replace h := h.2
    refine zj_if_ne (tgt := 25) dX11_restore_20 (by decide) (fun c => ?_) (fun c => ?_)
    · replace h := h.1 c
      refine zj_aload_n dX11_restore_25 rfl rfl ?_
      refine zj_aload_n dX11_restore_26 rfl rfl ?_
      refine zj_getR (ci := 11) (j := 2) dX11_restore_27 wf_X11_17 (by decide) (by decide) (zk_223 hL) rfl (zr_223_2 hL) ?_
      refine zj_bipush (x := 71) dX11_restore_30 rfl ?_
      refine zj_iload_n dX11_restore_32 rfl rfl ?_
      refine zj_imul dX11_restore_33 ?_
      refine zj_aload_n dX11_restore_34 rfl rfl ?_
      refine zj_getR (ci := 11) (j := 1) dX11_restore_35 wf_X11_13 (by decide) (by decide) (zk_223 hL) rfl (zr_223_1 hL) ?_
      refine zj_iconst (x := 0) dX11_restore_38 rfl ?_
      refine zj_callV (M' := mX11_copies) (avs := [.ref 225, .int ((71 : Int32) * x1), .ref 224, .int 0]) (st := []) (ci := 11) dX11_restore_39 wm_X11_copies wl_X11_183 wi_X11_copies ws_X11_copies (by decide) (zk_223 hL) rfl rfl (by decide) rfl (Nat.le_of_ble_eq_true rfl) (Nat.le_of_ble_eq_true rfl) ⟨Or.inl (z_k0 (zk_223 hL)), trivial⟩ trivial (z_J.mono h (fun r S1 v2 hq => ?_))
      obtain ⟨rfl, rfl, h⟩ := hq
      refine zj_aload_n dX11_restore_42 rfl rfl ?_
      refine zj_callV (M' := mX11_lays) (avs := []) (st := []) (ci := 11) dX11_restore_43 wm_X11_lays wl_X11_131 wi_X11_lays ws_X11_lays (by decide) (zk_223 hL) rfl rfl (by decide) rfl (Nat.le_of_ble_eq_true rfl) (Nat.le_of_ble_eq_true rfl) ⟨Or.inl (z_k0 (zk_223 hL)), trivial⟩ trivial (z_J.mono h (fun r S1 v3 hq => ?_))
      obtain ⟨rfl, rfl, h⟩ := hq
      refine zj_aload_n dX11_restore_46 rfl rfl ?_
      refine zj_iconst (x := 0) dX11_restore_47 rfl ?_
      refine zj_putI (ci := 11) (j := 6) dX11_restore_48 wf_X11_180 (by decide) (by decide) (zk_223 hL) rfl rfl rfl rfl (fun v4 ev4 => ?_)
      replace h := h v4 ev4
      refine zj_iconst (x := 1) dX11_restore_51 rfl ?_
      exact zj_iret dX11_restore_52 rfl (by decide) h
    · replace h := h.2 c
      refine zj_iconst (x := 0) dX11_restore_23 rfl ?_
      exact zj_iret dX11_restore_24 rfl (by decide) h
  · replace h := h.2 c
    refine zj_if_eq (tgt := 23) dX11_restore_11 (by decide) (fun _ => ?_) (fun q => absurd (by decide) q)
    refine zj_iconst (x := 0) dX11_restore_23 rfl ?_
    exact zj_iret dX11_restore_24 rfl (by decide) h
theorem sg_X11_result_0 {G : z_G} {d : Nat} {S : z_Shp} {v : z_Dat} {Q : Option Value → z_Shp → z_Dat → Prop} {x1 : Int32} {x2 : Int32} (hL : z_L S)
    (h : ∀ v1, v1 = z_u v 223 0 0 → (z_J G d mX11_corrects (0, [.ref 223, .int x1, .int x2], [], S, v1) (fun r S1 v2 => ∃ y1 : Int32, r = some (.int y1) ∧ S1 = S ∧ ((y1 = 0 → (Q (some (.int (-1))) S v2)) ∧ (¬ y1 = 0 → ((vp_in ((2 : Int32) + x1) 71) ∧ (z_J G d mX11_logical (0, [.ref 223, .int x1, .int ((v2 224 ((2 : Int32) + x1).toNatClampNeg) ^^^ (v2 223 62))], [], S, v2) (fun r S1 v3 => ∃ y2 : Int32, r = some (.int y2) ∧ S1 = S ∧ (Q (some (.int y2)) S v3))))))))) :
    z_J G (d + 1) mX11_result (0, [.ref 223, .int x1, .int x2], [], S, v) Q := by
  refine zj_aload_n dX11_result_0 rfl rfl ?_
  refine zj_iconst (x := 0) dX11_result_1 rfl ?_
  refine zj_putI (ci := 11) (j := 0) dX11_result_2 wf_X11_1 (by decide) (by decide) (zk_223 hL) rfl rfl rfl rfl (fun v1 ev1 => ?_)
  replace h := h v1 ev1
  refine zj_aload_n dX11_result_5 rfl rfl ?_
  refine zj_iload_n dX11_result_6 rfl rfl ?_
  refine zj_iload_n dX11_result_7 rfl rfl ?_
  refine zj_callV (M' := mX11_corrects) (avs := [.int x1, .int x2]) (st := []) (ci := 11) dX11_result_8 wm_X11_corrects wl_X11_391 wi_X11_corrects ws_X11_corrects (by decide) (zk_223 hL) rfl rfl (by decide) rfl (Nat.le_of_ble_eq_true rfl) (Nat.le_of_ble_eq_true rfl) ⟨Or.inl (z_k0 (zk_223 hL)), trivial⟩ trivial (z_J.mono h (fun r S1 v2 hq => ?_))
  obtain ⟨y1, rfl, rfl, h⟩ := hq
  refine zj_if_eq (tgt := 35) dX11_result_11 (by decide) (fun c => ?_) (fun c => ?_)
  · replace h := h.1 c
    refine zj_iconst (x := (-1)) dX11_result_35 rfl ?_
    exact zj_iret dX11_result_36 rfl rfl h
  · replace h := h.2 c
    refine zj_aload_n dX11_result_14 rfl rfl ?_
    refine zj_iload_n dX11_result_15 rfl rfl ?_
    refine zj_aload_n dX11_result_16 rfl rfl ?_
    refine zj_getR (ci := 11) (j := 1) dX11_result_17 wf_X11_13 (by decide) (by decide) (zk_223 hL) rfl (zr_223_1 hL) ?_
    refine zj_iconst (x := 2) dX11_result_20 rfl ?_
    refine zj_iload_n dX11_result_21 rfl rfl ?_
    refine zj_iadd dX11_result_22 ?_
    refine zj_iaload dX11_result_23 (zk_224 hL) (by rw [(zl_224 hL)]; exact h.1) ?_
    replace h := h.2
    refine zj_aload_n dX11_result_24 rfl rfl ?_
    refine zj_getI (ci := 11) (j := 62) dX11_result_25 wf_X11_388 (by decide) (by decide) (zk_223 hL) rfl ?_
    refine zj_ixor dX11_result_28 ?_
    refine zj_callV (M' := mX11_logical) (avs := [.int x1, .int ((v2 224 ((2 : Int32) + x1).toNatClampNeg) ^^^ (v2 223 62))]) (st := []) (ci := 11) dX11_result_29 wm_X11_logical wl_X11_370 wi_X11_logical ws_X11_logical (by decide) (zk_223 hL) rfl rfl (by decide) rfl (Nat.le_of_ble_eq_true rfl) (Nat.le_of_ble_eq_true rfl) ⟨Or.inl (z_k0 (zk_223 hL)), trivial⟩ trivial (z_J.mono h (fun r S1 v3 hq => ?_))
    obtain ⟨y2, rfl, rfl, h⟩ := hq
    refine zj_goto (tgt := 36) dX11_result_32 (by decide) ?_
    exact zj_iret dX11_result_36 rfl rfl h
theorem sg_X11_round_0 {G : z_G} {d : Nat} {S : z_Shp} {v : z_Dat} {Q : Option Value → z_Shp → z_Dat → Prop}
    (h : z_J G d mX11_round (2, [.ref 223, .int 0], [], S, v) Q) :
    z_J G d mX11_round (0, [.ref 223, .null], [], S, v) Q := by
  refine zj_iconst (x := 0) dX11_round_0 rfl ?_
  refine zj_istore_n (ls2 := [.ref 223, .int 0]) dX11_round_1 rfl (by decide) rfl rfl ?_
  exact h
theorem sg_X11_round_2 {G : z_G} {d : Nat} {S : z_Shp} {v : z_Dat} {Q : Option Value → z_Shp → z_Dat → Prop} {x1 : Int32} (hL : z_L S)
    (h : (2 ≤ x1 → (∀ v1, v1 = z_u v 224 1 ((v 224 1) + 1) → (Q none S v1))) ∧ (¬ 2 ≤ x1 → ((vp_in ((2 : Int32) + x1) 71) ∧ (z_J G d mX11_loud (0, [.ref 223, .int x1, .int (v 224 ((2 : Int32) + x1).toNatClampNeg), .null, .null], [], S, v) (fun r S1 v2 => ∃ y1 : Int32, r = some (.int y1) ∧ S1 = S ∧ ((vp_in ((4 : Int32) + x1) 71) ∧ (vp_in (((6 : Int32) + ((8 : Int32) * x1)) + (v 224 1)) 71 ∧ (∀ v3, v3 = z_u v2 224 (((6 : Int32) + ((8 : Int32) * x1)) + (v 224 1)).toNatClampNeg (y1 ^^^ (v2 224 ((4 : Int32) + x1).toNatClampNeg)) → (vp_in ((4 : Int32) + x1) 71 ∧ (∀ v4, v4 = z_u v3 224 ((4 : Int32) + x1).toNatClampNeg 0 → (z_J G (d + 1) mX11_round (2, [.ref 223, .int (x1 + 1)], [], S, v4) Q))))))))))) :
    z_J G (d + 1) mX11_round (2, [.ref 223, .int x1], [], S, v) Q := by
  refine zj_iload_n dX11_round_2 rfl rfl ?_
  refine zj_iconst (x := 2) dX11_round_3 rfl ?_
  refine zj_icmp_ge (tgt := 63) dX11_round_4 (by decide) (fun c => ?_) (fun c => ?_)
  · replace h := h.1 c
    refine zj_aload_n dX11_round_63 rfl rfl ?_
    refine zj_getR (ci := 11) (j := 1) dX11_round_64 wf_X11_13 (by decide) (by decide) (zk_223 hL) rfl (zr_223_1 hL) ?_
    refine zj_iconst (x := 1) dX11_round_67 rfl ?_
    refine zj_dup2 dX11_round_68 rfl rfl ?_
    refine zj_iaload dX11_round_69 (zk_224 hL) (by rw [(zl_224 hL)]; exact z_vin (by decide)) ?_
    refine zj_iconst (x := 1) dX11_round_70 rfl ?_
    refine zj_iadd dX11_round_71 ?_
    refine zj_iastore dX11_round_72 (zk_224 hL) (by rw [(zl_224 hL)]; exact z_vin (by decide)) (fun v1 ev1 => ?_)
    replace h := h v1 ev1
    exact zj_vret dX11_round_73 rfl h
  · replace h := h.2 c
    refine zj_aload_n dX11_round_7 rfl rfl ?_
    refine zj_getR (ci := 11) (j := 1) dX11_round_8 wf_X11_13 (by decide) (by decide) (zk_223 hL) rfl (zr_223_1 hL) ?_
    refine zj_bipush (x := 6) dX11_round_11 rfl ?_
    refine zj_bipush (x := 8) dX11_round_13 rfl ?_
    refine zj_iload_n dX11_round_15 rfl rfl ?_
    refine zj_imul dX11_round_16 ?_
    refine zj_iadd dX11_round_17 ?_
    refine zj_aload_n dX11_round_18 rfl rfl ?_
    refine zj_getR (ci := 11) (j := 1) dX11_round_19 wf_X11_13 (by decide) (by decide) (zk_223 hL) rfl (zr_223_1 hL) ?_
    refine zj_iconst (x := 1) dX11_round_22 rfl ?_
    refine zj_iaload dX11_round_23 (zk_224 hL) (by rw [(zl_224 hL)]; exact z_vin (by decide)) ?_
    refine zj_iadd dX11_round_24 ?_
    refine zj_aload_n dX11_round_25 rfl rfl ?_
    refine zj_iload_n dX11_round_26 rfl rfl ?_
    refine zj_aload_n dX11_round_27 rfl rfl ?_
    refine zj_getR (ci := 11) (j := 1) dX11_round_28 wf_X11_13 (by decide) (by decide) (zk_223 hL) rfl (zr_223_1 hL) ?_
    refine zj_iconst (x := 2) dX11_round_31 rfl ?_
    refine zj_iload_n dX11_round_32 rfl rfl ?_
    refine zj_iadd dX11_round_33 ?_
    refine zj_iaload dX11_round_34 (zk_224 hL) (by rw [(zl_224 hL)]; exact h.1) ?_
    replace h := h.2
    refine zj_callV (M' := mX11_loud) (avs := [.int x1, .int (v 224 ((2 : Int32) + x1).toNatClampNeg)]) (st := [.int (((6 : Int32) + ((8 : Int32) * x1)) + (v 224 1)), .ref 224]) (ci := 11) dX11_round_35 wm_X11_loud wl_X11_177 wi_X11_loud ws_X11_loud (by decide) (zk_223 hL) rfl rfl (by decide) rfl (Nat.le_of_ble_eq_true rfl) (Nat.le_of_ble_eq_true rfl) ⟨Or.inl (z_k0 (zk_223 hL)), trivial⟩ ⟨Or.inl (z_k0 (zk_224 hL)), trivial⟩ (z_J.mono h (fun r S1 v2 hq => ?_))
    obtain ⟨y1, rfl, rfl, h⟩ := hq
    refine zj_aload_n dX11_round_38 rfl rfl ?_
    refine zj_getR (ci := 11) (j := 1) dX11_round_39 wf_X11_13 (by decide) (by decide) (zk_223 hL) rfl (zr_223_1 hL) ?_
    refine zj_iconst (x := 4) dX11_round_42 rfl ?_
    refine zj_iload_n dX11_round_43 rfl rfl ?_
    refine zj_iadd dX11_round_44 ?_
    refine zj_iaload dX11_round_45 (zk_224 hL) (by rw [(zl_224 hL)]; exact h.1) ?_
    replace h := h.2
    refine zj_ixor dX11_round_46 ?_
    refine zj_iastore dX11_round_47 (zk_224 hL) (by rw [(zl_224 hL)]; exact h.1) (fun v3 ev3 => ?_)
    replace h := h.2 v3 ev3
    refine zj_aload_n dX11_round_48 rfl rfl ?_
    refine zj_getR (ci := 11) (j := 1) dX11_round_49 wf_X11_13 (by decide) (by decide) (zk_223 hL) rfl (zr_223_1 hL) ?_
    refine zj_iconst (x := 4) dX11_round_52 rfl ?_
    refine zj_iload_n dX11_round_53 rfl rfl ?_
    refine zj_iadd dX11_round_54 ?_
    refine zj_iconst (x := 0) dX11_round_55 rfl ?_
    refine zj_iastore dX11_round_56 (zk_224 hL) (by rw [(zl_224 hL)]; exact h.1) (fun v4 ev4 => ?_)
    replace h := h.2 v4 ev4
    refine zj_iinc (y := x1 + 1) (ls2 := [.ref 223, .int (x1 + 1)]) dX11_round_57 rfl rfl (by decide) rfl rfl ?_
    refine zj_goto (tgt := 2) dX11_round_60 (by decide) ?_
    exact h
theorem sg_X11_rowOrColumn_0 {G : z_G} {d : Nat} {S : z_Shp} {v : z_Dat} {Q : Option Value → z_Shp → z_Dat → Prop} {x1 : Int32}
    (h : z_J G d mX11_rowOrColumn (4, [.ref 223, .int x1, .int 0, .int 0], [], S, v) Q) :
    z_J G d mX11_rowOrColumn (0, [.ref 223, .int x1, .null, .null], [], S, v) Q := by
  refine zj_iconst (x := 0) dX11_rowOrColumn_0 rfl ?_
  refine zj_istore_n (ls2 := [.ref 223, .int x1, .int 0, .null]) dX11_rowOrColumn_1 rfl (by decide) rfl rfl ?_
  refine zj_iconst (x := 0) dX11_rowOrColumn_2 rfl ?_
  refine zj_istore_n (ls2 := [.ref 223, .int x1, .int 0, .int 0]) dX11_rowOrColumn_3 rfl (by decide) rfl rfl ?_
  exact h
theorem sg_X11_rowOrColumn_4 {G : z_G} {d : Nat} {S : z_Shp} {v : z_Dat} {Q : Option Value → z_Shp → z_Dat → Prop} {x1 : Int32} {x2 : Int32} {x3 : Int32} (hL : z_L S)
    (h : ((v 224 0) ≤ x3 → (Q (some (.int x2)) S v)) ∧ (¬ (v 224 0) ≤ x3 → ((x1 = 0 → (z_J G (d + 1) mX11_rowOrColumn (4, [.ref 223, .int x1, .int (x2 ||| ((1 : Int32) <<< (((v 224 0) * x3) &&& 31))), .int (x3 + 1)], [], S, v) Q)) ∧ (¬ x1 = 0 → (z_J G (d + 1) mX11_rowOrColumn (4, [.ref 223, .int x1, .int (x2 ||| ((1 : Int32) <<< (x3 &&& 31))), .int (x3 + 1)], [], S, v) Q))))) :
    z_J G (d + 1) mX11_rowOrColumn (4, [.ref 223, .int x1, .int x2, .int x3], [], S, v) Q := by
  refine zj_iload_n dX11_rowOrColumn_4 rfl rfl ?_
  refine zj_aload_n dX11_rowOrColumn_5 rfl rfl ?_
  refine zj_callV (M' := mX11_d) (avs := []) (st := [.int x3]) (ci := 11) dX11_rowOrColumn_6 wm_X11_d wl_X11_140 wi_X11_d ws_X11_d (by decide) (zk_223 hL) rfl rfl (by decide) rfl (Nat.le_of_ble_eq_true rfl) (Nat.le_of_ble_eq_true rfl) ⟨Or.inl (z_k0 (zk_223 hL)), trivial⟩ trivial (hp_X11_d hL ?_)
  refine zj_icmp_ge (tgt := 37) dX11_rowOrColumn_9 (by decide) (fun c => ?_) (fun c => ?_)
  · replace h := h.1 c
    refine zj_iload_n dX11_rowOrColumn_37 rfl rfl ?_
    exact zj_iret dX11_rowOrColumn_38 rfl rfl h
  · replace h := h.2 c
    refine zj_iload_n dX11_rowOrColumn_12 rfl rfl ?_
    refine zj_iconst (x := 1) dX11_rowOrColumn_13 rfl ?_
    refine zj_iload_n dX11_rowOrColumn_14 rfl rfl ?_
    refine zj_if_eq (tgt := 22) dX11_rowOrColumn_15 (by decide) (fun c => ?_) (fun c => ?_)
    · replace h := h.1 c
      refine zj_aload_n dX11_rowOrColumn_22 rfl rfl ?_
      refine zj_callV (M' := mX11_d) (avs := []) (st := [.int 1, .int x2]) (ci := 11) dX11_rowOrColumn_23 wm_X11_d wl_X11_140 wi_X11_d ws_X11_d (by decide) (zk_223 hL) rfl rfl (by decide) rfl (Nat.le_of_ble_eq_true rfl) (Nat.le_of_ble_eq_true rfl) ⟨Or.inl (z_k0 (zk_223 hL)), trivial⟩ trivial (hp_X11_d hL ?_)
      refine zj_iload_n dX11_rowOrColumn_26 rfl rfl ?_
      refine zj_imul dX11_rowOrColumn_27 ?_
      refine zj_ishl dX11_rowOrColumn_28 ?_
      refine zj_ior dX11_rowOrColumn_29 ?_
      refine zj_istore_n (ls2 := [.ref 223, .int x1, .int (x2 ||| ((1 : Int32) <<< (((v 224 0) * x3) &&& 31))), .int x3]) dX11_rowOrColumn_30 rfl (by decide) rfl rfl ?_
      refine zj_iinc (y := x3 + 1) (ls2 := [.ref 223, .int x1, .int (x2 ||| ((1 : Int32) <<< (((v 224 0) * x3) &&& 31))), .int (x3 + 1)]) dX11_rowOrColumn_31 rfl rfl (by decide) rfl rfl ?_
      refine zj_goto (tgt := 4) dX11_rowOrColumn_34 (by decide) ?_
      exact h
    · replace h := h.2 c
      refine zj_iload_n dX11_rowOrColumn_18 rfl rfl ?_
      refine zj_goto (tgt := 28) dX11_rowOrColumn_19 (by decide) ?_
      refine zj_ishl dX11_rowOrColumn_28 ?_
      refine zj_ior dX11_rowOrColumn_29 ?_
      refine zj_istore_n (ls2 := [.ref 223, .int x1, .int (x2 ||| ((1 : Int32) <<< (x3 &&& 31))), .int x3]) dX11_rowOrColumn_30 rfl (by decide) rfl rfl ?_
      refine zj_iinc (y := x3 + 1) (ls2 := [.ref 223, .int x1, .int (x2 ||| ((1 : Int32) <<< (x3 &&& 31))), .int (x3 + 1)]) dX11_rowOrColumn_31 rfl rfl (by decide) rfl rfl ?_
      refine zj_goto (tgt := 4) dX11_rowOrColumn_34 (by decide) ?_
      exact h
theorem sg_X11_side_0 {G : z_G} {d : Nat} {S : z_Shp} {v : z_Dat} {Q : Option Value → z_Shp → z_Dat → Prop} {x1 : Int32} {x2 : Int32}
    (h : z_J G d mX11_side (2, [.ref 223, .int x1, .int x2, .int 0, .null, .null], [], S, v) Q) :
    z_J G d mX11_side (0, [.ref 223, .int x1, .int x2, .null, .null, .null], [], S, v) Q := by
  refine zj_iconst (x := 0) dX11_side_0 rfl ?_
  refine zj_istore_n (ls2 := [.ref 223, .int x1, .int x2, .int 0, .null, .null]) dX11_side_1 rfl (by decide) rfl rfl ?_
  exact h
theorem sg_X11_side_2 {G : z_G} {d : Nat} {S : z_Shp} {v : z_Dat} {Q : Option Value → z_Shp → z_Dat → Prop} {x1 : Int32} {x2 : Int32} {x3 : Int32} (hL : z_L S)
    (h : ((v 223 32) < x3 → (z_J G d mX11_side (34, [.ref 223, .int x1, .int x2, .int 1, .null, .null], [], S, v) Q)) ∧ (¬ (v 223 32) < x3 → ((¬ x3 = x1 → (vp_in x3 109 ∧ (∀ v1, v1 = z_u v 255 x3.toNatClampNeg (vp_nar .boolean 0) → (z_J G d mX11_side (2, [.ref 223, .int x1, .int x2, .int (x3 + 1), .null, .null], [], S, v1) Q)))) ∧ (x3 = x1 → (vp_in x3 109 ∧ (∀ v2, v2 = z_u v 255 x3.toNatClampNeg (vp_nar .boolean 1) → (z_J G d mX11_side (2, [.ref 223, .int x1, .int x2, .int (x3 + 1), .null, .null], [], S, v2) Q))))))) :
    z_J G d mX11_side (2, [.ref 223, .int x1, .int x2, .int x3, .null, .null], [], S, v) Q := by
  refine zj_iload_n dX11_side_2 rfl rfl ?_
  refine zj_aload_n dX11_side_3 rfl rfl ?_
  refine zj_getI (ci := 11) (j := 32) dX11_side_4 wf_X11_254 (by decide) (by decide) (zk_223 hL) rfl ?_
  refine zj_icmp_gt (tgt := 32) dX11_side_7 (by decide) (fun c => ?_) (fun c => ?_)
  · replace h := h.1 c
    refine zj_iconst (x := 1) dX11_side_32 rfl ?_
    refine zj_istore_n (ls2 := [.ref 223, .int x1, .int x2, .int 1, .null, .null]) dX11_side_33 rfl (by decide) rfl rfl ?_
    exact h
  · replace h := h.2 c
    refine zj_aload_n dX11_side_10 rfl rfl ?_
    refine zj_getR (ci := 11) (j := 49) dX11_side_11 wf_X11_109 (by decide) (by decide) (zk_223 hL) rfl (zr_223_49 hL) ?_
    refine zj_iload_n dX11_side_14 rfl rfl ?_
    refine zj_iload_n dX11_side_15 rfl rfl ?_
    refine zj_iload_n dX11_side_16 rfl rfl ?_
    refine zj_icmp_ne (tgt := 24) dX11_side_17 (by decide) (fun c => ?_) (fun c => ?_)
    · replace h := h.1 c
      refine zj_iconst (x := 0) dX11_side_24 rfl ?_
      refine zj_zastore dX11_side_25 (zk_255 hL) (by rw [(zl_255 hL)]; exact h.1) (fun v1 ev1 => ?_)
      replace h := h.2 v1 ev1
      refine zj_iinc (y := x3 + 1) (ls2 := [.ref 223, .int x1, .int x2, .int (x3 + 1), .null, .null]) dX11_side_26 rfl rfl (by decide) rfl rfl ?_
      refine zj_goto (tgt := 2) dX11_side_29 (by decide) ?_
      exact h
    · replace h := h.2 c
      refine zj_iconst (x := 1) dX11_side_20 rfl ?_
      refine zj_goto (tgt := 25) dX11_side_21 (by decide) ?_
      refine zj_zastore dX11_side_25 (zk_255 hL) (by rw [(zl_255 hL)]; exact h.1) (fun v2 ev2 => ?_)
      replace h := h.2 v2 ev2
      refine zj_iinc (y := x3 + 1) (ls2 := [.ref 223, .int x1, .int x2, .int (x3 + 1), .null, .null]) dX11_side_26 rfl rfl (by decide) rfl rfl ?_
      refine zj_goto (tgt := 2) dX11_side_29 (by decide) ?_
      exact h
theorem sg_X11_side_34 {G : z_G} {d : Nat} {S : z_Shp} {v : z_Dat} {Q : Option Value → z_Shp → z_Dat → Prop} {x1 : Int32} {x2 : Int32} {x3 : Int32}
    (h : (x3 = 0 → (Q none S v)) ∧ (¬ x3 = 0 → (z_J G d mX11_side (43, [.ref 223, .int x1, .int x2, .int 0, .int 0, .null], [], S, v) Q))) :
    z_J G d mX11_side (34, [.ref 223, .int x1, .int x2, .int x3, .null, .null], [], S, v) Q := by
  refine zj_iload_n dX11_side_34 rfl rfl ?_
  refine zj_if_eq (tgt := 134) dX11_side_35 (by decide) (fun c => ?_) (fun c => ?_)
  · replace h := h.1 c
    exact zj_vret dX11_side_134 rfl h
  · replace h := h.2 c
    refine zj_iconst (x := 0) dX11_side_38 rfl ?_
    refine zj_istore_n (ls2 := [.ref 223, .int x1, .int x2, .int 0, .null, .null]) dX11_side_39 rfl (by decide) rfl rfl ?_
    refine zj_iconst (x := 0) dX11_side_40 rfl ?_
    refine zj_istore (ls2 := [.ref 223, .int x1, .int x2, .int 0, .int 0, .null]) dX11_side_41 (by decide) rfl rfl ?_
    exact h
theorem sg_X11_side_43 {G : z_G} {d : Nat} {S : z_Shp} {v : z_Dat} {Q : Option Value → z_Shp → z_Dat → Prop} {x1 : Int32} {x2 : Int32} {x3 : Int32} {x4 : Int32} (hL : z_L S)
    (h : ((v 223 52) ≤ x4 → (z_J G d mX11_side (34, [.ref 223, .int x1, .int x2, .int x3, .null, .null], [], S, v) Q)) ∧ (¬ (v 223 52) ≤ x4 → ((vp_in x4 109) ∧ (((v 252 x4.toNatClampNeg) = x2 → (z_J G d mX11_side (43, [.ref 223, .int x1, .int x2, .int x3, .int (x4 + 1), .null], [], S, v) Q)) ∧ (¬ (v 252 x4.toNatClampNeg) = x2 → ((vp_in (v 252 x4.toNatClampNeg) 321) ∧ ((vp_in (v 238 (v 252 x4.toNatClampNeg).toNatClampNeg) 109) ∧ ((vp_in (v 252 x4.toNatClampNeg) 321) ∧ ((vp_in (v 239 (v 252 x4.toNatClampNeg).toNatClampNeg) 109) ∧ ((¬ (v 255 (v 238 (v 252 x4.toNatClampNeg).toNatClampNeg).toNatClampNeg) = (v 255 (v 239 (v 252 x4.toNatClampNeg).toNatClampNeg).toNatClampNeg) → ((vp_in (v 252 x4.toNatClampNeg) 321) ∧ (vp_in (v 238 (v 252 x4.toNatClampNeg).toNatClampNeg) 109 ∧ (∀ v1, v1 = z_u v 255 (v 238 (v 252 x4.toNatClampNeg).toNatClampNeg).toNatClampNeg (vp_nar .boolean 1) → ((vp_in (v 252 x4.toNatClampNeg) 321) ∧ (vp_in (v1 239 (v 252 x4.toNatClampNeg).toNatClampNeg) 109 ∧ (∀ v2, v2 = z_u v1 255 (v1 239 (v 252 x4.toNatClampNeg).toNatClampNeg).toNatClampNeg (vp_nar .boolean 1) → (z_J G d mX11_side (43, [.ref 223, .int x1, .int x2, .int 1, .int (x4 + 1), .null], [], S, v2) Q)))))))) ∧ ((v 255 (v 238 (v 252 x4.toNatClampNeg).toNatClampNeg).toNatClampNeg) = (v 255 (v 239 (v 252 x4.toNatClampNeg).toNatClampNeg).toNatClampNeg) → (z_J G d mX11_side (43, [.ref 223, .int x1, .int x2, .int x3, .int (x4 + 1), .null], [], S, v) Q)))))))))))) :
    z_J G d mX11_side (43, [.ref 223, .int x1, .int x2, .int x3, .int x4, .null], [], S, v) Q := by
  refine zj_iload dX11_side_43 rfl ?_
  refine zj_aload_n dX11_side_45 rfl rfl ?_
  refine zj_getI (ci := 11) (j := 52) dX11_side_46 wf_X11_327 (by decide) (by decide) (zk_223 hL) rfl ?_
  refine zj_icmp_ge (tgt := 131) dX11_side_49 (by decide) (fun c => ?_) (fun c => ?_)
  · replace h := h.1 c
    refine zj_goto (tgt := 34) dX11_side_131 (by decide) ?_
    refine zj_forget (ls2 := [.ref 223, .int x1, .int x2, .int x3, .null, .null]) ⟨Or.inr rfl, Or.inr rfl, Or.inr rfl, Or.inr rfl, Or.inl rfl, Or.inr rfl, trivial⟩ ?_
    exact h
  · replace h := h.2 c
    refine zj_aload_n dX11_side_52 rfl rfl ?_
    refine zj_getR (ci := 11) (j := 46) dX11_side_53 wf_X11_100 (by decide) (by decide) (zk_223 hL) rfl (zr_223_46 hL) ?_
    refine zj_iload dX11_side_56 rfl ?_
    refine zj_iaload dX11_side_58 (zk_252 hL) (by rw [(zl_252 hL)]; exact h.1) ?_
    replace h := h.2
    refine zj_istore (ls2 := [.ref 223, .int x1, .int x2, .int x3, .int x4, .int (v 252 x4.toNatClampNeg)]) dX11_side_59 (by decide) rfl rfl ?_
    refine zj_iload dX11_side_61 rfl ?_
    refine zj_iload_n dX11_side_63 rfl rfl ?_
    refine zj_icmp_eq (tgt := 125) dX11_side_64 (by decide) (fun c => ?_) (fun c => ?_)
    · replace h := h.1 c
      refine zj_iinc (y := x4 + 1) (ls2 := [.ref 223, .int x1, .int x2, .int x3, .int (x4 + 1), .int (v 252 x4.toNatClampNeg)]) dX11_side_125 rfl rfl (by decide) rfl rfl ?_
      refine zj_goto (tgt := 43) dX11_side_128 (by decide) ?_
      refine zj_forget (ls2 := [.ref 223, .int x1, .int x2, .int x3, .int (x4 + 1), .null]) ⟨Or.inr rfl, Or.inr rfl, Or.inr rfl, Or.inr rfl, Or.inr rfl, Or.inl rfl, trivial⟩ ?_
      exact h
    · replace h := h.2 c
      refine zj_aload_n dX11_side_67 rfl rfl ?_
      refine zj_getR (ci := 11) (j := 49) dX11_side_68 wf_X11_109 (by decide) (by decide) (zk_223 hL) rfl (zr_223_49 hL) ?_
      refine zj_aload_n dX11_side_71 rfl rfl ?_
      refine zj_getR (ci := 11) (j := 26) dX11_side_72 wf_X11_58 (by decide) (by decide) (zk_223 hL) rfl (zr_223_26 hL) ?_
      refine zj_iload dX11_side_75 rfl ?_
      refine zj_iaload dX11_side_77 (zk_238 hL) (by rw [(zl_238 hL)]; exact h.1) ?_
      replace h := h.2
      refine zj_zaload dX11_side_78 (zk_255 hL) (by rw [(zl_255 hL)]; exact h.1) ?_
      replace h := h.2
      refine zj_aload_n dX11_side_79 rfl rfl ?_
      refine zj_getR (ci := 11) (j := 49) dX11_side_80 wf_X11_109 (by decide) (by decide) (zk_223 hL) rfl (zr_223_49 hL) ?_
      refine zj_aload_n dX11_side_83 rfl rfl ?_
      refine zj_getR (ci := 11) (j := 27) dX11_side_84 wf_X11_61 (by decide) (by decide) (zk_223 hL) rfl (zr_223_27 hL) ?_
      refine zj_iload dX11_side_87 rfl ?_
      refine zj_iaload dX11_side_89 (zk_239 hL) (by rw [(zl_239 hL)]; exact h.1) ?_
      replace h := h.2
      refine zj_zaload dX11_side_90 (zk_255 hL) (by rw [(zl_255 hL)]; exact h.1) ?_
      replace h := h.2
      refine zj_icmp_ne (tgt := 97) dX11_side_91 (by decide) (fun c => ?_) (fun c => ?_)
      · replace h := h.1 c
        refine zj_aload_n dX11_side_97 rfl rfl ?_
        refine zj_getR (ci := 11) (j := 49) dX11_side_98 wf_X11_109 (by decide) (by decide) (zk_223 hL) rfl (zr_223_49 hL) ?_
        refine zj_aload_n dX11_side_101 rfl rfl ?_
        refine zj_getR (ci := 11) (j := 26) dX11_side_102 wf_X11_58 (by decide) (by decide) (zk_223 hL) rfl (zr_223_26 hL) ?_
        refine zj_iload dX11_side_105 rfl ?_
        refine zj_iaload dX11_side_107 (zk_238 hL) (by rw [(zl_238 hL)]; exact h.1) ?_
        replace h := h.2
        refine zj_iconst (x := 1) dX11_side_108 rfl ?_
        refine zj_zastore dX11_side_109 (zk_255 hL) (by rw [(zl_255 hL)]; exact h.1) (fun v1 ev1 => ?_)
        replace h := h.2 v1 ev1
        refine zj_aload_n dX11_side_110 rfl rfl ?_
        refine zj_getR (ci := 11) (j := 49) dX11_side_111 wf_X11_109 (by decide) (by decide) (zk_223 hL) rfl (zr_223_49 hL) ?_
        refine zj_aload_n dX11_side_114 rfl rfl ?_
        refine zj_getR (ci := 11) (j := 27) dX11_side_115 wf_X11_61 (by decide) (by decide) (zk_223 hL) rfl (zr_223_27 hL) ?_
        refine zj_iload dX11_side_118 rfl ?_
        refine zj_iaload dX11_side_120 (zk_239 hL) (by rw [(zl_239 hL)]; exact h.1) ?_
        replace h := h.2
        refine zj_iconst (x := 1) dX11_side_121 rfl ?_
        refine zj_zastore dX11_side_122 (zk_255 hL) (by rw [(zl_255 hL)]; exact h.1) (fun v2 ev2 => ?_)
        replace h := h.2 v2 ev2
        refine zj_iconst (x := 1) dX11_side_123 rfl ?_
        refine zj_istore_n (ls2 := [.ref 223, .int x1, .int x2, .int 1, .int x4, .int (v 252 x4.toNatClampNeg)]) dX11_side_124 rfl (by decide) rfl rfl ?_
        refine zj_iinc (y := x4 + 1) (ls2 := [.ref 223, .int x1, .int x2, .int 1, .int (x4 + 1), .int (v 252 x4.toNatClampNeg)]) dX11_side_125 rfl rfl (by decide) rfl rfl ?_
        refine zj_goto (tgt := 43) dX11_side_128 (by decide) ?_
        refine zj_forget (ls2 := [.ref 223, .int x1, .int x2, .int 1, .int (x4 + 1), .null]) ⟨Or.inr rfl, Or.inr rfl, Or.inr rfl, Or.inr rfl, Or.inr rfl, Or.inl rfl, trivial⟩ ?_
        exact h
      · replace h := h.2 c
        refine zj_goto (tgt := 125) dX11_side_94 (by decide) ?_
        refine zj_iinc (y := x4 + 1) (ls2 := [.ref 223, .int x1, .int x2, .int x3, .int (x4 + 1), .int (v 252 x4.toNatClampNeg)]) dX11_side_125 rfl rfl (by decide) rfl rfl ?_
        refine zj_goto (tgt := 43) dX11_side_128 (by decide) ?_
        refine zj_forget (ls2 := [.ref 223, .int x1, .int x2, .int x3, .int (x4 + 1), .null]) ⟨Or.inr rfl, Or.inr rfl, Or.inr rfl, Or.inr rfl, Or.inr rfl, Or.inl rfl, trivial⟩ ?_
        exact h
