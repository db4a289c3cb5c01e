theorem sg_X11_sign_0 {G : z_G} {d : Nat} {S : z_Shp} {v : z_Dat} {Q : Option Value → z_Shp → z_Dat → Prop} {x1 : Int32} (hL : z_L S)
    (h : z_J G d mX11_peek (0, [.ref 223], [], S, v) (fun r S1 v1 => ∃ y1 : Int32, r = some (.int y1) ∧ S1 = S ∧ ((y1 = x1 → (∀ v2, v2 = z_u v1 223 19 ((v1 223 19) + 1) → (Q (some (.int 1)) S v2))) ∧ (¬ y1 = x1 → (z_J G d mX11_bad (0, [.ref 223, .int 1, .int (v1 223 19)], [], S, v1) (fun r S1 v3 => ∃ y2 : Int32, r = some (.int y2) ∧ S1 = S ∧ (narrow .boolean (.int y2) = .int y2 ∧ Q (some (.int y2)) S v3))))))) :
    z_J G (d + 1) mX11_sign (0, [.ref 223, .int x1], [], S, v) Q := by
  refine zj_aload_n dX11_sign_0 rfl rfl ?_
  refine zj_callV (M' := mX11_peek) (avs := []) (st := []) (ci := 11) dX11_sign_1 wm_X11_peek wl_X11_199 wi_X11_peek ws_X11_peek (by decide) (zk_223 hL) rfl rfl (by decide) rfl (Nat.le_of_ble_eq_true rfl) (Nat.le_of_ble_eq_true rfl) ⟨Or.inl (z_k0 (zk_223 hL)), trivial⟩ trivial (z_J.mono h (fun r S1 v1 hq => ?_))
  obtain ⟨y1, rfl, rfl, h⟩ := hq
  refine zj_iload_n dX11_sign_4 rfl rfl ?_
  refine zj_icmp_eq (tgt := 18) dX11_sign_5 (by decide) (fun c => ?_) (fun c => ?_)
  · replace h := h.1 c
    refine zj_aload_n dX11_sign_18 rfl rfl ?_
    refine zj_dup dX11_sign_19 rfl ?_
    refine zj_getI (ci := 11) (j := 19) dX11_sign_20 wf_X11_187 (by decide) (by decide) (zk_223 hL) rfl ?_
    refine zj_iconst (x := 1) dX11_sign_23 rfl ?_
    refine zj_iadd dX11_sign_24 ?_
    refine zj_putI (ci := 11) (j := 19) dX11_sign_25 wf_X11_187 (by decide) (by decide) (zk_223 hL) rfl rfl rfl rfl (fun v2 ev2 => ?_)
    replace h := h v2 ev2
    refine zj_iconst (x := 1) dX11_sign_28 rfl ?_
    exact zj_iret dX11_sign_29 rfl (by decide) h
  · replace h := h.2 c
    refine zj_aload_n dX11_sign_8 rfl rfl ?_
    refine zj_iconst (x := 1) dX11_sign_9 rfl ?_
    refine zj_aload_n dX11_sign_10 rfl rfl ?_
    refine zj_getI (ci := 11) (j := 19) dX11_sign_11 wf_X11_187 (by decide) (by decide) (zk_223 hL) rfl ?_
    refine zj_callV (M' := mX11_bad) (avs := [.int 1, .int (v1 223 19)]) (st := []) (ci := 11) dX11_sign_14 wm_X11_bad wl_X11_208 wi_X11_bad ws_X11_bad (by decide) (zk_223 hL) rfl rfl (by decide) rfl (Nat.le_of_ble_eq_true rfl) (Nat.le_of_ble_eq_true rfl) ⟨Or.inl (z_k0 (zk_223 hL)), trivial⟩ trivial (z_J.mono h (fun r S1 v3 hq => ?_))
    obtain ⟨y2, rfl, rfl, h⟩ := hq
    exact zj_iret dX11_sign_17 rfl h.1 h.2
theorem sg_X11_signOf_0 {G : z_G} {d : Nat} {S : z_Shp} {v : z_Dat} {Q : Option Value → z_Shp → z_Dat → Prop} {x1 : Int32} {x2 : Int32} (hL : z_L S)
    (h : (¬ (x1 - x1 / 2 * 2) = 1 → ((¬ (x1 - x1 / 2 * 2) = 0 → (Q (some (.int 32)) S v)) ∧ ((x1 - x1 / 2 * 2) = 0 → ((¬ (x2 - x2 / 2 * 2) = 0 → (Q (some (.int 32)) S v)) ∧ ((x2 - x2 / 2 * 2) = 0 → (z_J G d mX11_kindOn (0, [.ref 223, .int (x1 / 2), .int (x2 / 2), .null, .null, .null], [], S, v) (fun r S1 v1 => ∃ y1 : Int32, r = some (.int y1) ∧ S1 = S ∧ ((0 ≤ y1 → (z_J G d mX11_bitsOn (0, [.ref 223, .int (x1 / 2), .int (x2 / 2), .null, .null, .null], [], S, v1) (fun r S1 v2 => ∃ y2 : Int32, r = some (.int y2) ∧ S1 = S ∧ ((vp_in ((2 : Int32) + y1) 71) ∧ ((¬ ((z_pc (y2 &&& (v2 224 ((2 : Int32) + y1).toNatClampNeg))) - (z_pc (y2 &&& (v2 224 ((2 : Int32) + y1).toNatClampNeg))) / 2 * 2) = 1 → ((¬ y1 = 0 → (Q (some (.int ((112 : Int32) - 0))) S v2)) ∧ (y1 = 0 → (Q (some (.int ((98 : Int32) - 0))) S v2)))) ∧ (((z_pc (y2 &&& (v2 224 ((2 : Int32) + y1).toNatClampNeg))) - (z_pc (y2 &&& (v2 224 ((2 : Int32) + y1).toNatClampNeg))) / 2 * 2) = 1 → ((¬ y1 = 0 → (Q (some (.int ((112 : Int32) - 32))) S v2)) ∧ (y1 = 0 → (Q (some (.int ((98 : Int32) - 32))) S v2))))))))) ∧ (¬ 0 ≤ y1 → (Q (some (.int 32)) S v1)))))))))) ∧ ((x1 - x1 / 2 * 2) = 1 → ((¬ (x2 - x2 / 2 * 2) = 1 → ((¬ (x1 - x1 / 2 * 2) = 0 → (Q (some (.int 32)) S v)) ∧ ((x1 - x1 / 2 * 2) = 0 → ((¬ (x2 - x2 / 2 * 2) = 0 → (Q (some (.int 32)) S v)) ∧ ((x2 - x2 / 2 * 2) = 0 → (z_J G d mX11_kindOn (0, [.ref 223, .int (x1 / 2), .int (x2 / 2), .null, .null, .null], [], S, v) (fun r S1 v3 => ∃ y3 : Int32, r = some (.int y3) ∧ S1 = S ∧ ((0 ≤ y3 → (z_J G d mX11_bitsOn (0, [.ref 223, .int (x1 / 2), .int (x2 / 2), .null, .null, .null], [], S, v3) (fun r S1 v4 => ∃ y4 : Int32, r = some (.int y4) ∧ S1 = S ∧ ((vp_in ((2 : Int32) + y3) 71) ∧ ((¬ ((z_pc (y4 &&& (v4 224 ((2 : Int32) + y3).toNatClampNeg))) - (z_pc (y4 &&& (v4 224 ((2 : Int32) + y3).toNatClampNeg))) / 2 * 2) = 1 → ((¬ y3 = 0 → (Q (some (.int ((112 : Int32) - 0))) S v4)) ∧ (y3 = 0 → (Q (some (.int ((98 : Int32) - 0))) S v4)))) ∧ (((z_pc (y4 &&& (v4 224 ((2 : Int32) + y3).toNatClampNeg))) - (z_pc (y4 &&& (v4 224 ((2 : Int32) + y3).toNatClampNeg))) / 2 * 2) = 1 → ((¬ y3 = 0 → (Q (some (.int ((112 : Int32) - 32))) S v4)) ∧ (y3 = 0 → (Q (some (.int ((98 : Int32) - 32))) S v4))))))))) ∧ (¬ 0 ≤ y3 → (Q (some (.int 32)) S v3)))))))))) ∧ ((x2 - x2 / 2 * 2) = 1 → ((((((v 224 2) >>> ((((v 224 0) * (x1 / 2)) + (x2 / 2)) &&& 31)) &&& 1) = 1) → ((((((v 224 3) >>> ((((v 224 0) * (x1 / 2)) + (x2 / 2)) &&& 31)) &&& 1) = 1) → ((¬ ((1 : Int32) + 2) = 0 → ((¬ ((1 : Int32) + 2) = 1 → ((¬ ((1 : Int32) + 2) = 2 → (Q (some (.int 42)) S v)) ∧ (((1 : Int32) + 2) = 2 → (Q (some (.int 45)) S v)))) ∧ (((1 : Int32) + 2) = 1 → (Q (some (.int 43)) S v)))) ∧ (((1 : Int32) + 2) = 0 → (Q (some (.int 46)) S v)))) ∧ (¬ ((((v 224 3) >>> ((((v 224 0) * (x1 / 2)) + (x2 / 2)) &&& 31)) &&& 1) = 1) → ((¬ ((1 : Int32) + 0) = 0 → ((¬ ((1 : Int32) + 0) = 1 → ((¬ ((1 : Int32) + 0) = 2 → (Q (some (.int 42)) S v)) ∧ (((1 : Int32) + 0) = 2 → (Q (some (.int 45)) S v)))) ∧ (((1 : Int32) + 0) = 1 → (Q (some (.int 43)) S v)))) ∧ (((1 : Int32) + 0) = 0 → (Q (some (.int 46)) S v)))))) ∧ (¬ ((((v 224 2) >>> ((((v 224 0) * (x1 / 2)) + (x2 / 2)) &&& 31)) &&& 1) = 1) → ((((((v 224 3) >>> ((((v 224 0) * (x1 / 2)) + (x2 / 2)) &&& 31)) &&& 1) = 1) → ((¬ ((0 : Int32) + 2) = 0 → ((¬ ((0 : Int32) + 2) = 1 → ((¬ ((0 : Int32) + 2) = 2 → (Q (some (.int 42)) S v)) ∧ (((0 : Int32) + 2) = 2 → (Q (some (.int 45)) S v)))) ∧ (((0 : Int32) + 2) = 1 → (Q (some (.int 43)) S v)))) ∧ (((0 : Int32) + 2) = 0 → (Q (some (.int 46)) S v)))) ∧ (¬ ((((v 224 3) >>> ((((v 224 0) * (x1 / 2)) + (x2 / 2)) &&& 31)) &&& 1) = 1) → ((¬ ((0 : Int32) + 0) = 0 → ((¬ ((0 : Int32) + 0) = 1 → ((¬ ((0 : Int32) + 0) = 2 → (Q (some (.int 42)) S v)) ∧ (((0 : Int32) + 0) = 2 → (Q (some (.int 45)) S v)))) ∧ (((0 : Int32) + 0) = 1 → (Q (some (.int 43)) S v)))) ∧ (((0 : Int32) + 0) = 0 → (Q (some (.int 46)) S v))))))))))) :
    z_J G (d + 1) mX11_signOf (0, [.ref 223, .int x1, .int x2, .null, .null], [], S, v) Q := by
  refine zj_iload_n dX11_signOf_0 rfl rfl ?_
  refine zj_iconst (x := 2) dX11_signOf_1 rfl ?_
  refine zj_irem dX11_signOf_2 (by decide) ?_
  refine zj_iconst (x := 1) dX11_signOf_3 rfl ?_
  refine zj_icmp_ne (tgt := 101) dX11_signOf_4 (by decide) (fun c => ?_) (fun c => ?_)
  · replace h := h.1 c
    refine zj_iload_n dX11_signOf_101 rfl rfl ?_
    refine zj_iconst (x := 2) dX11_signOf_102 rfl ?_
    refine zj_irem dX11_signOf_103 (by decide) ?_
    refine zj_if_ne (tgt := 126) dX11_signOf_104 (by decide) (fun c => ?_) (fun c => ?_)
    · replace h := h.1 c
      refine zj_iconst (x := (-1)) dX11_signOf_126 rfl ?_
      refine zj_istore_n (ls2 := [.ref 223, .int x1, .int x2, .int (-1), .null]) dX11_signOf_127 rfl (by decide) rfl rfl ?_
      refine zj_iload_n dX11_signOf_128 rfl rfl ?_
      refine zj_if_ge (tgt := 135) dX11_signOf_129 (by decide) (fun q => absurd q (by decide)) (fun _ => ?_)
      refine zj_bipush (x := 32) dX11_signOf_132 rfl ?_
      exact zj_iret dX11_signOf_134 rfl rfl h
    · replace h := h.2 c
      refine zj_iload_n dX11_signOf_107 rfl rfl ?_
      refine zj_iconst (x := 2) dX11_signOf_108 rfl ?_
      refine zj_irem dX11_signOf_109 (by decide) ?_
      refine zj_if_ne (tgt := 126) dX11_signOf_110 (by decide) (fun c => ?_) (fun c => ?_)
      · replace h := h.1 c
        refine zj_iconst (x := (-1)) dX11_signOf_126 rfl ?_
        refine zj_istore_n (ls2 := [.ref 223, .int x1, .int x2, .int (-1), .null]) dX11_signOf_127 rfl (by decide) rfl rfl ?_
        refine zj_iload_n dX11_signOf_128 rfl rfl ?_
        refine zj_if_ge (tgt := 135) dX11_signOf_129 (by decide) (fun q => absurd q (by decide)) (fun _ => ?_)
        refine zj_bipush (x := 32) dX11_signOf_132 rfl ?_
        exact zj_iret dX11_signOf_134 rfl rfl h
      · replace h := h.2 c
        refine zj_aload_n dX11_signOf_113 rfl rfl ?_
        refine zj_iload_n dX11_signOf_114 rfl rfl ?_
        refine zj_iconst (x := 2) dX11_signOf_115 rfl ?_
        refine zj_idiv dX11_signOf_116 (by decide) ?_
        refine zj_iload_n dX11_signOf_117 rfl rfl ?_
        refine zj_iconst (x := 2) dX11_signOf_118 rfl ?_
        refine zj_idiv dX11_signOf_119 (by decide) ?_
        refine zj_callV (M' := mX11_kindOn) (avs := [.int (x1 / 2), .int (x2 / 2)]) (st := []) (ci := 11) dX11_signOf_120 wm_X11_kindOn wl_X11_154 wi_X11_kindOn ws_X11_kindOn (by decide) (zk_223 hL) rfl rfl (by decide) rfl (Nat.le_of_ble_eq_true rfl) (Nat.le_of_ble_eq_true rfl) ⟨Or.inl (z_k0 (zk_223 hL)), trivial⟩ trivial (z_J.mono h (fun r S1 v1 hq => ?_))
        obtain ⟨y1, rfl, rfl, h⟩ := hq
        refine zj_goto (tgt := 127) dX11_signOf_123 (by decide) ?_
        refine zj_istore_n (ls2 := [.ref 223, .int x1, .int x2, .int y1, .null]) dX11_signOf_127 rfl (by decide) rfl rfl ?_
        refine zj_iload_n dX11_signOf_128 rfl rfl ?_
        refine zj_if_ge (tgt := 135) dX11_signOf_129 (by decide) (fun c => ?_) (fun c => ?_)
        · replace h := h.1 c
          refine zj_aload_n dX11_signOf_135 rfl rfl ?_
          refine zj_iload_n dX11_signOf_136 rfl rfl ?_
          refine zj_iconst (x := 2) dX11_signOf_137 rfl ?_
          refine zj_idiv dX11_signOf_138 (by decide) ?_
          refine zj_iload_n dX11_signOf_139 rfl rfl ?_
          refine zj_iconst (x := 2) dX11_signOf_140 rfl ?_
          refine zj_idiv dX11_signOf_141 (by decide) ?_
          refine zj_callV (M' := mX11_bitsOn) (avs := [.int (x1 / 2), .int (x2 / 2)]) (st := []) (ci := 11) dX11_signOf_142 wm_X11_bitsOn wl_X11_158 wi_X11_bitsOn ws_X11_bitsOn (by decide) (zk_223 hL) rfl rfl (by decide) rfl (Nat.le_of_ble_eq_true rfl) (Nat.le_of_ble_eq_true rfl) ⟨Or.inl (z_k0 (zk_223 hL)), trivial⟩ trivial (z_J.mono h (fun r S1 v2 hq => ?_))
          obtain ⟨y2, rfl, rfl, h⟩ := hq
          refine zj_aload_n dX11_signOf_145 rfl rfl ?_
          refine zj_getR (ci := 11) (j := 1) dX11_signOf_146 wf_X11_13 (by decide) (by decide) (zk_223 hL) rfl (zr_223_1 hL) ?_
          refine zj_iconst (x := 2) dX11_signOf_149 rfl ?_
          refine zj_iload_n dX11_signOf_150 rfl rfl ?_
          refine zj_iadd dX11_signOf_151 ?_
          refine zj_iaload dX11_signOf_152 (zk_224 hL) (by rw [(zl_224 hL)]; exact h.1) ?_
          replace h := h.2
          refine zj_iand dX11_signOf_153 ?_
          refine zj_callS (M' := mX11_bits) (avs := [.int (y2 &&& (v2 224 ((2 : Int32) + y1).toNatClampNeg))]) (st := []) dX11_signOf_154 wm_X11_bits wl_X11_169 wt_X11_bits rfl (by decide) rfl (Nat.le_of_ble_eq_true rfl) (Nat.le_of_ble_eq_true rfl) ⟨Or.inl (z_k0 (zk_223 hL)), trivial⟩ trivial (hp_X11_bits ?_)
          refine zj_iconst (x := 2) dX11_signOf_157 rfl ?_
          refine zj_irem dX11_signOf_158 (by decide) ?_
          refine zj_iconst (x := 1) dX11_signOf_159 rfl ?_
          refine zj_icmp_ne (tgt := 167) dX11_signOf_160 (by decide) (fun c => ?_) (fun c => ?_)
          · replace h := h.1 c
            refine zj_iconst (x := 0) dX11_signOf_167 rfl ?_
            refine zj_istore (ls2 := [.ref 223, .int x1, .int x2, .int y1, .int 0]) dX11_signOf_168 (by decide) rfl rfl ?_
            refine zj_iload_n dX11_signOf_170 rfl rfl ?_
            refine zj_if_ne (tgt := 179) dX11_signOf_171 (by decide) (fun c => ?_) (fun c => ?_)
            · replace h := h.1 c
              refine zj_bipush (x := 112) dX11_signOf_179 rfl ?_
              refine zj_iload dX11_signOf_181 rfl ?_
              refine zj_if_eq (tgt := 191) dX11_signOf_183 (by decide) (fun _ => ?_) (fun q => absurd (by decide) q)
              refine zj_iconst (x := 0) dX11_signOf_191 rfl ?_
              refine zj_isub dX11_signOf_192 ?_
              exact zj_iret dX11_signOf_193 rfl rfl h
            · replace h := h.2 c
              refine zj_bipush (x := 98) dX11_signOf_174 rfl ?_
              refine zj_goto (tgt := 181) dX11_signOf_176 (by decide) ?_
              refine zj_iload dX11_signOf_181 rfl ?_
              refine zj_if_eq (tgt := 191) dX11_signOf_183 (by decide) (fun _ => ?_) (fun q => absurd (by decide) q)
              refine zj_iconst (x := 0) dX11_signOf_191 rfl ?_
              refine zj_isub dX11_signOf_192 ?_
              exact zj_iret dX11_signOf_193 rfl rfl h
          · replace h := h.2 c
            refine zj_iconst (x := 1) dX11_signOf_163 rfl ?_
            refine zj_goto (tgt := 168) dX11_signOf_164 (by decide) ?_
            refine zj_istore (ls2 := [.ref 223, .int x1, .int x2, .int y1, .int 1]) dX11_signOf_168 (by decide) rfl rfl ?_
            refine zj_iload_n dX11_signOf_170 rfl rfl ?_
            refine zj_if_ne (tgt := 179) dX11_signOf_171 (by decide) (fun c => ?_) (fun c => ?_)
            · replace h := h.1 c
              refine zj_bipush (x := 112) dX11_signOf_179 rfl ?_
              refine zj_iload dX11_signOf_181 rfl ?_
              refine zj_if_eq (tgt := 191) dX11_signOf_183 (by decide) (fun q => absurd q (by decide)) (fun _ => ?_)
              refine zj_bipush (x := 32) dX11_signOf_186 rfl ?_
              refine zj_goto (tgt := 192) dX11_signOf_188 (by decide) ?_
              refine zj_isub dX11_signOf_192 ?_
              exact zj_iret dX11_signOf_193 rfl rfl h
            · replace h := h.2 c
              refine zj_bipush (x := 98) dX11_signOf_174 rfl ?_
              refine zj_goto (tgt := 181) dX11_signOf_176 (by decide) ?_
              refine zj_iload dX11_signOf_181 rfl ?_
              refine zj_if_eq (tgt := 191) dX11_signOf_183 (by decide) (fun q => absurd q (by decide)) (fun _ => ?_)
              refine zj_bipush (x := 32) dX11_signOf_186 rfl ?_
              refine zj_goto (tgt := 192) dX11_signOf_188 (by decide) ?_
              refine zj_isub dX11_signOf_192 ?_
              exact zj_iret dX11_signOf_193 rfl rfl h
        · replace h := h.2 c
          refine zj_bipush (x := 32) dX11_signOf_132 rfl ?_
          exact zj_iret dX11_signOf_134 rfl rfl h
  · replace h := h.2 c
    refine zj_iload_n dX11_signOf_7 rfl rfl ?_
    refine zj_iconst (x := 2) dX11_signOf_8 rfl ?_
    refine zj_irem dX11_signOf_9 (by decide) ?_
    refine zj_iconst (x := 1) dX11_signOf_10 rfl ?_
    refine zj_icmp_ne (tgt := 101) dX11_signOf_11 (by decide) (fun c => ?_) (fun c => ?_)
    · replace h := h.1 c
      refine zj_iload_n dX11_signOf_101 rfl rfl ?_
      refine zj_iconst (x := 2) dX11_signOf_102 rfl ?_
      refine zj_irem dX11_signOf_103 (by decide) ?_
      refine zj_if_ne (tgt := 126) dX11_signOf_104 (by decide) (fun c => ?_) (fun c => ?_)
      · replace h := h.1 c
        refine zj_iconst (x := (-1)) dX11_signOf_126 rfl ?_
        refine zj_istore_n (ls2 := [.ref 223, .int x1, .int x2, .int (-1), .null]) dX11_signOf_127 rfl (by decide) rfl rfl ?_
        refine zj_iload_n dX11_signOf_128 rfl rfl ?_
        refine zj_if_ge (tgt := 135) dX11_signOf_129 (by decide) (fun q => absurd q (by decide)) (fun _ => ?_)
        refine zj_bipush (x := 32) dX11_signOf_132 rfl ?_
        exact zj_iret dX11_signOf_134 rfl rfl h
      · replace h := h.2 c
        refine zj_iload_n dX11_signOf_107 rfl rfl ?_
        refine zj_iconst (x := 2) dX11_signOf_108 rfl ?_
        refine zj_irem dX11_signOf_109 (by decide) ?_
        refine zj_if_ne (tgt := 126) dX11_signOf_110 (by decide) (fun c => ?_) (fun c => ?_)
        · replace h := h.1 c
          refine zj_iconst (x := (-1)) dX11_signOf_126 rfl ?_
          refine zj_istore_n (ls2 := [.ref 223, .int x1, .int x2, .int (-1), .null]) dX11_signOf_127 rfl (by decide) rfl rfl ?_
          refine zj_iload_n dX11_signOf_128 rfl rfl ?_
          refine zj_if_ge (tgt := 135) dX11_signOf_129 (by decide) (fun q => absurd q (by decide)) (fun _ => ?_)
          refine zj_bipush (x := 32) dX11_signOf_132 rfl ?_
          exact zj_iret dX11_signOf_134 rfl rfl h
        · replace h := h.2 c
          refine zj_aload_n dX11_signOf_113 rfl rfl ?_
          refine zj_iload_n dX11_signOf_114 rfl rfl ?_
          refine zj_iconst (x := 2) dX11_signOf_115 rfl ?_
          refine zj_idiv dX11_signOf_116 (by decide) ?_
          refine zj_iload_n dX11_signOf_117 rfl rfl ?_
          refine zj_iconst (x := 2) dX11_signOf_118 rfl ?_
          refine zj_idiv dX11_signOf_119 (by decide) ?_
          refine zj_callV (M' := mX11_kindOn) (avs := [.int (x1 / 2), .int (x2 / 2)]) (st := []) (ci := 11) dX11_signOf_120 wm_X11_kindOn wl_X11_154 wi_X11_kindOn ws_X11_kindOn (by decide) (zk_223 hL) rfl rfl (by decide) rfl (Nat.le_of_ble_eq_true rfl) (Nat.le_of_ble_eq_true rfl) ⟨Or.inl (z_k0 (zk_223 hL)), trivial⟩ trivial (z_J.mono h (fun r S1 v3 hq => ?_))
          obtain ⟨y3, rfl, rfl, h⟩ := hq
          refine zj_goto (tgt := 127) dX11_signOf_123 (by decide) ?_
          refine zj_istore_n (ls2 := [.ref 223, .int x1, .int x2, .int y3, .null]) dX11_signOf_127 rfl (by decide) rfl rfl ?_
          refine zj_iload_n dX11_signOf_128 rfl rfl ?_
          refine zj_if_ge (tgt := 135) dX11_signOf_129 (by decide) (fun c => ?_) (fun c => ?_)
          · replace h := h.1 c
            refine zj_aload_n dX11_signOf_135 rfl rfl ?_
            refine zj_iload_n dX11_signOf_136 rfl rfl ?_
            refine zj_iconst (x := 2) dX11_signOf_137 rfl ?_
            refine zj_idiv dX11_signOf_138 (by decide) ?_
            refine zj_iload_n dX11_signOf_139 rfl rfl ?_
            refine zj_iconst (x := 2) dX11_signOf_140 rfl ?_
            refine zj_idiv dX11_signOf_141 (by decide) ?_
            refine zj_callV (M' := mX11_bitsOn) (avs := [.int (x1 / 2), .int (x2 / 2)]) (st := []) (ci := 11) dX11_signOf_142 wm_X11_bitsOn wl_X11_158 wi_X11_bitsOn ws_X11_bitsOn (by decide) (zk_223 hL) rfl rfl (by decide) rfl (Nat.le_of_ble_eq_true rfl) (Nat.le_of_ble_eq_true rfl) ⟨Or.inl (z_k0 (zk_223 hL)), trivial⟩ trivial (z_J.mono h (fun r S1 v4 hq => ?_))
            obtain ⟨y4, rfl, rfl, h⟩ := hq
            refine zj_aload_n dX11_signOf_145 rfl rfl ?_
            refine zj_getR (ci := 11) (j := 1) dX11_signOf_146 wf_X11_13 (by decide) (by decide) (zk_223 hL) rfl (zr_223_1 hL) ?_
            refine zj_iconst (x := 2) dX11_signOf_149 rfl ?_
            refine zj_iload_n dX11_signOf_150 rfl rfl ?_
            refine zj_iadd dX11_signOf_151 ?_
            refine zj_iaload dX11_signOf_152 (zk_224 hL) (by rw [(zl_224 hL)]; exact h.1) ?_
            replace h := h.2
            refine zj_iand dX11_signOf_153 ?_
            refine zj_callS (M' := mX11_bits) (avs := [.int (y4 &&& (v4 224 ((2 : Int32) + y3).toNatClampNeg))]) (st := []) dX11_signOf_154 wm_X11_bits wl_X11_169 wt_X11_bits rfl (by decide) rfl (Nat.le_of_ble_eq_true rfl) (Nat.le_of_ble_eq_true rfl) ⟨Or.inl (z_k0 (zk_223 hL)), trivial⟩ trivial (hp_X11_bits ?_)
            refine zj_iconst (x := 2) dX11_signOf_157 rfl ?_
            refine zj_irem dX11_signOf_158 (by decide) ?_
            refine zj_iconst (x := 1) dX11_signOf_159 rfl ?_
            refine zj_icmp_ne (tgt := 167) dX11_signOf_160 (by decide) (fun c => ?_) (fun c => ?_)
            · replace h := h.1 c
              refine zj_iconst (x := 0) dX11_signOf_167 rfl ?_
              refine zj_istore (ls2 := [.ref 223, .int x1, .int x2, .int y3, .int 0]) dX11_signOf_168 (by decide) rfl rfl ?_
              refine zj_iload_n dX11_signOf_170 rfl rfl ?_
              refine zj_if_ne (tgt := 179) dX11_signOf_171 (by decide) (fun c => ?_) (fun c => ?_)
              · replace h := h.1 c
                refine zj_bipush (x := 112) dX11_signOf_179 rfl ?_
                refine zj_iload dX11_signOf_181 rfl ?_
                refine zj_if_eq (tgt := 191) dX11_signOf_183 (by decide) (fun _ => ?_) (fun q => absurd (by decide) q)
                refine zj_iconst (x := 0) dX11_signOf_191 rfl ?_
                refine zj_isub dX11_signOf_192 ?_
                exact zj_iret dX11_signOf_193 rfl rfl h
              · replace h := h.2 c
                refine zj_bipush (x := 98) dX11_signOf_174 rfl ?_
                refine zj_goto (tgt := 181) dX11_signOf_176 (by decide) ?_
                refine zj_iload dX11_signOf_181 rfl ?_
                refine zj_if_eq (tgt := 191) dX11_signOf_183 (by decide) (fun _ => ?_) (fun q => absurd (by decide) q)
                refine zj_iconst (x := 0) dX11_signOf_191 rfl ?_
                refine zj_isub dX11_signOf_192 ?_
                exact zj_iret dX11_signOf_193 rfl rfl h
            · replace h := h.2 c
              refine zj_iconst (x := 1) dX11_signOf_163 rfl ?_
              refine zj_goto (tgt := 168) dX11_signOf_164 (by decide) ?_
              refine zj_istore (ls2 := [.ref 223, .int x1, .int x2, .int y3, .int 1]) dX11_signOf_168 (by decide) rfl rfl ?_
              refine zj_iload_n dX11_signOf_170 rfl rfl ?_
              refine zj_if_ne (tgt := 179) dX11_signOf_171 (by decide) (fun c => ?_) (fun c => ?_)
              · replace h := h.1 c
                refine zj_bipush (x := 112) dX11_signOf_179 rfl ?_
                refine zj_iload dX11_signOf_181 rfl ?_
                refine zj_if_eq (tgt := 191) dX11_signOf_183 (by decide) (fun q => absurd q (by decide)) (fun _ => ?_)
                refine zj_bipush (x := 32) dX11_signOf_186 rfl ?_
                refine zj_goto (tgt := 192) dX11_signOf_188 (by decide) ?_
                refine zj_isub dX11_signOf_192 ?_
                exact zj_iret dX11_signOf_193 rfl rfl h
              · replace h := h.2 c
                refine zj_bipush (x := 98) dX11_signOf_174 rfl ?_
                refine zj_goto (tgt := 181) dX11_signOf_176 (by decide) ?_
                refine zj_iload dX11_signOf_181 rfl ?_
                refine zj_if_eq (tgt := 191) dX11_signOf_183 (by decide) (fun q => absurd q (by decide)) (fun _ => ?_)
                refine zj_bipush (x := 32) dX11_signOf_186 rfl ?_
                refine zj_goto (tgt := 192) dX11_signOf_188 (by decide) ?_
                refine zj_isub dX11_signOf_192 ?_
                exact zj_iret dX11_signOf_193 rfl rfl h
          · replace h := h.2 c
            refine zj_bipush (x := 32) dX11_signOf_132 rfl ?_
            exact zj_iret dX11_signOf_134 rfl rfl h
    · replace h := h.2 c
      refine zj_aload_n dX11_signOf_14 rfl rfl ?_
      refine zj_callV (M' := mX11_d) (avs := []) (st := []) (ci := 11) dX11_signOf_15 wm_X11_d wl_X11_140 wi_X11_d ws_X11_d (by decide) (zk_223 hL) rfl rfl (by decide) rfl (Nat.le_of_ble_eq_true rfl) (Nat.le_of_ble_eq_true rfl) ⟨Or.inl (z_k0 (zk_223 hL)), trivial⟩ trivial (hp_X11_d hL ?_)
      refine zj_iload_n dX11_signOf_18 rfl rfl ?_
      refine zj_iconst (x := 2) dX11_signOf_19 rfl ?_
      refine zj_idiv dX11_signOf_20 (by decide) ?_
      refine zj_imul dX11_signOf_21 ?_
      refine zj_iload_n dX11_signOf_22 rfl rfl ?_
      refine zj_iconst (x := 2) dX11_signOf_23 rfl ?_
      refine zj_idiv dX11_signOf_24 (by decide) ?_
      refine zj_iadd dX11_signOf_25 ?_
      refine zj_istore_n (ls2 := [.ref 223, .int x1, .int x2, .int (((v 224 0) * (x1 / 2)) + (x2 / 2)), .null]) dX11_signOf_26 rfl (by decide) rfl rfl ?_
      refine zj_aload_n dX11_signOf_27 rfl rfl ?_
      refine zj_getR (ci := 11) (j := 1) dX11_signOf_28 wf_X11_13 (by decide) (by decide) (zk_223 hL) rfl (zr_223_1 hL) ?_
      refine zj_iconst (x := 2) dX11_signOf_31 rfl ?_
      refine zj_iaload dX11_signOf_32 (zk_224 hL) (by rw [(zl_224 hL)]; exact z_vin (by decide)) ?_
      refine zj_iload_n dX11_signOf_33 rfl rfl ?_
      refine zj_callS (M' := mX11_bitOf) (avs := [.int (v 224 2), .int (((v 224 0) * (x1 / 2)) + (x2 / 2))]) (st := []) dX11_signOf_34 wm_X11_bitOf wl_X11_161 wt_X11_bitOf rfl (by decide) rfl (Nat.le_of_ble_eq_true rfl) (Nat.le_of_ble_eq_true rfl) ⟨Or.inl (z_k0 (zk_223 hL)), trivial⟩ trivial (hp_X11_bitOf (fun c => ?_) (fun c => ?_))
      · replace h := h.1 c
        refine zj_if_eq (tgt := 44) dX11_signOf_37 (by decide) (fun q => absurd q (by decide)) (fun _ => ?_)
        refine zj_iconst (x := 1) dX11_signOf_40 rfl ?_
        refine zj_goto (tgt := 45) dX11_signOf_41 (by decide) ?_
        refine zj_aload_n dX11_signOf_45 rfl rfl ?_
        refine zj_getR (ci := 11) (j := 1) dX11_signOf_46 wf_X11_13 (by decide) (by decide) (zk_223 hL) rfl (zr_223_1 hL) ?_
        refine zj_iconst (x := 3) dX11_signOf_49 rfl ?_
        refine zj_iaload dX11_signOf_50 (zk_224 hL) (by rw [(zl_224 hL)]; exact z_vin (by decide)) ?_
        refine zj_iload_n dX11_signOf_51 rfl rfl ?_
        refine zj_callS (M' := mX11_bitOf) (avs := [.int (v 224 3), .int (((v 224 0) * (x1 / 2)) + (x2 / 2))]) (st := [.int 1]) dX11_signOf_52 wm_X11_bitOf wl_X11_161 wt_X11_bitOf rfl (by decide) rfl (Nat.le_of_ble_eq_true rfl) (Nat.le_of_ble_eq_true rfl) ⟨Or.inl (z_k0 (zk_223 hL)), trivial⟩ trivial (hp_X11_bitOf (fun c => ?_) (fun c => ?_))
        · replace h := h.1 c
          refine zj_if_eq (tgt := 62) dX11_signOf_55 (by decide) (fun q => absurd q (by decide)) (fun _ => ?_)
          refine zj_iconst (x := 2) dX11_signOf_58 rfl ?_
          refine zj_goto (tgt := 63) dX11_signOf_59 (by decide) ?_
          refine zj_iadd dX11_signOf_63 ?_
          refine zj_istore (ls2 := [.ref 223, .int x1, .int x2, .int (((v 224 0) * (x1 / 2)) + (x2 / 2)), .int ((1 : Int32) + 2)]) dX11_signOf_64 (by decide) rfl rfl ?_
          refine zj_iload dX11_signOf_66 rfl ?_
          refine zj_if_ne (tgt := 76) dX11_signOf_68 (by decide) (fun c => ?_) (fun c => ?_)
          · replace h := h.1 c
            refine zj_iload dX11_signOf_76 rfl ?_
            refine zj_iconst (x := 1) dX11_signOf_78 rfl ?_
            refine zj_icmp_ne (tgt := 87) dX11_signOf_79 (by decide) (fun c => ?_) (fun c => ?_)
            · replace h := h.1 c
              refine zj_iload dX11_signOf_87 rfl ?_
              refine zj_iconst (x := 2) dX11_signOf_89 rfl ?_
              refine zj_icmp_ne (tgt := 98) dX11_signOf_90 (by decide) (fun c => ?_) (fun c => ?_)
              · replace h := h.1 c
                refine zj_bipush (x := 42) dX11_signOf_98 rfl ?_
                exact zj_iret dX11_signOf_100 rfl rfl h
              · replace h := h.2 c
                refine zj_bipush (x := 45) dX11_signOf_93 rfl ?_
                refine zj_goto (tgt := 100) dX11_signOf_95 (by decide) ?_
                exact zj_iret dX11_signOf_100 rfl rfl h
            · replace h := h.2 c
              refine zj_bipush (x := 43) dX11_signOf_82 rfl ?_
              refine zj_goto (tgt := 100) dX11_signOf_84 (by decide) ?_
              exact zj_iret dX11_signOf_100 rfl rfl h
          · replace h := h.2 c
            refine zj_bipush (x := 46) dX11_signOf_71 rfl ?_
            refine zj_goto (tgt := 100) dX11_signOf_73 (by decide) ?_
            exact zj_iret dX11_signOf_100 rfl rfl h
        · replace h := h.2 c
          refine zj_if_eq (tgt := 62) dX11_signOf_55 (by decide) (fun _ => ?_) (fun q => absurd (by decide) q)
          refine zj_iconst (x := 0) dX11_signOf_62 rfl ?_
          refine zj_iadd dX11_signOf_63 ?_
          refine zj_istore (ls2 := [.ref 223, .int x1, .int x2, .int (((v 224 0) * (x1 / 2)) + (x2 / 2)), .int ((1 : Int32) + 0)]) dX11_signOf_64 (by decide) rfl rfl ?_
          refine zj_iload dX11_signOf_66 rfl ?_
          refine zj_if_ne (tgt := 76) dX11_signOf_68 (by decide) (fun c => ?_) (fun c => ?_)
          · replace h := h.1 c
            refine zj_iload dX11_signOf_76 rfl ?_
            refine zj_iconst (x := 1) dX11_signOf_78 rfl ?_
            refine zj_icmp_ne (tgt := 87) dX11_signOf_79 (by decide) (fun c => ?_) (fun c => ?_)
            · replace h := h.1 c
              refine zj_iload dX11_signOf_87 rfl ?_
              refine zj_iconst (x := 2) dX11_signOf_89 rfl ?_
              refine zj_icmp_ne (tgt := 98) dX11_signOf_90 (by decide) (fun c => ?_) (fun c => ?_)
              · replace h := h.1 c
                refine zj_bipush (x := 42) dX11_signOf_98 rfl ?_
                exact zj_iret dX11_signOf_100 rfl rfl h
              · replace h := h.2 c
                refine zj_bipush (x := 45) dX11_signOf_93 rfl ?_
                refine zj_goto (tgt := 100) dX11_signOf_95 (by decide) ?_
                exact zj_iret dX11_signOf_100 rfl rfl h
            · replace h := h.2 c
              refine zj_bipush (x := 43) dX11_signOf_82 rfl ?_
              refine zj_goto (tgt := 100) dX11_signOf_84 (by decide) ?_
              exact zj_iret dX11_signOf_100 rfl rfl h
          · replace h := h.2 c
            refine zj_bipush (x := 46) dX11_signOf_71 rfl ?_
            refine zj_goto (tgt := 100) dX11_signOf_73 (by decide) ?_
            exact zj_iret dX11_signOf_100 rfl rfl h
      · replace h := h.2 c
        refine zj_if_eq (tgt := 44) dX11_signOf_37 (by decide) (fun _ => ?_) (fun q => absurd (by decide) q)
        refine zj_iconst (x := 0) dX11_signOf_44 rfl ?_
        refine zj_aload_n dX11_signOf_45 rfl rfl ?_
        refine zj_getR (ci := 11) (j := 1) dX11_signOf_46 wf_X11_13 (by decide) (by decide) (zk_223 hL) rfl (zr_223_1 hL) ?_
        refine zj_iconst (x := 3) dX11_signOf_49 rfl ?_
        refine zj_iaload dX11_signOf_50 (zk_224 hL) (by rw [(zl_224 hL)]; exact z_vin (by decide)) ?_
        refine zj_iload_n dX11_signOf_51 rfl rfl ?_
        refine zj_callS (M' := mX11_bitOf) (avs := [.int (v 224 3), .int (((v 224 0) * (x1 / 2)) + (x2 / 2))]) (st := [.int 0]) dX11_signOf_52 wm_X11_bitOf wl_X11_161 wt_X11_bitOf rfl (by decide) rfl (Nat.le_of_ble_eq_true rfl) (Nat.le_of_ble_eq_true rfl) ⟨Or.inl (z_k0 (zk_223 hL)), trivial⟩ trivial (hp_X11_bitOf (fun c => ?_) (fun c => ?_))
        · replace h := h.1 c
          refine zj_if_eq (tgt := 62) dX11_signOf_55 (by decide) (fun q => absurd q (by decide)) (fun _ => ?_)
          refine zj_iconst (x := 2) dX11_signOf_58 rfl ?_
          refine zj_goto (tgt := 63) dX11_signOf_59 (by decide) ?_
          refine zj_iadd dX11_signOf_63 ?_
          refine zj_istore (ls2 := [.ref 223, .int x1, .int x2, .int (((v 224 0) * (x1 / 2)) + (x2 / 2)), .int ((0 : Int32) + 2)]) dX11_signOf_64 (by decide) rfl rfl ?_
          refine zj_iload dX11_signOf_66 rfl ?_
          refine zj_if_ne (tgt := 76) dX11_signOf_68 (by decide) (fun c => ?_) (fun c => ?_)
          · replace h := h.1 c
            refine zj_iload dX11_signOf_76 rfl ?_
            refine zj_iconst (x := 1) dX11_signOf_78 rfl ?_
            refine zj_icmp_ne (tgt := 87) dX11_signOf_79 (by decide) (fun c => ?_) (fun c => ?_)
            · replace h := h.1 c
              refine zj_iload dX11_signOf_87 rfl ?_
              refine zj_iconst (x := 2) dX11_signOf_89 rfl ?_
              refine zj_icmp_ne (tgt := 98) dX11_signOf_90 (by decide) (fun c => ?_) (fun c => ?_)
              · replace h := h.1 c
                refine zj_bipush (x := 42) dX11_signOf_98 rfl ?_
                exact zj_iret dX11_signOf_100 rfl rfl h
              · replace h := h.2 c
                refine zj_bipush (x := 45) dX11_signOf_93 rfl ?_
                refine zj_goto (tgt := 100) dX11_signOf_95 (by decide) ?_
                exact zj_iret dX11_signOf_100 rfl rfl h
            · replace h := h.2 c
              refine zj_bipush (x := 43) dX11_signOf_82 rfl ?_
              refine zj_goto (tgt := 100) dX11_signOf_84 (by decide) ?_
              exact zj_iret dX11_signOf_100 rfl rfl h
          · replace h := h.2 c
            refine zj_bipush (x := 46) dX11_signOf_71 rfl ?_
            refine zj_goto (tgt := 100) dX11_signOf_73 (by decide) ?_
            exact zj_iret dX11_signOf_100 rfl rfl h
        · replace h := h.2 c
          refine zj_if_eq (tgt := 62) dX11_signOf_55 (by decide) (fun _ => ?_) (fun q => absurd (by decide) q)
          refine zj_iconst (x := 0) dX11_signOf_62 rfl ?_
          refine zj_iadd dX11_signOf_63 ?_
          refine zj_istore (ls2 := [.ref 223, .int x1, .int x2, .int (((v 224 0) * (x1 / 2)) + (x2 / 2)), .int ((0 : Int32) + 0)]) dX11_signOf_64 (by decide) rfl rfl ?_
          refine zj_iload dX11_signOf_66 rfl ?_
          refine zj_if_ne (tgt := 76) dX11_signOf_68 (by decide) (fun c => ?_) (fun c => ?_)
          · replace h := h.1 c
            refine zj_iload dX11_signOf_76 rfl ?_
            refine zj_iconst (x := 1) dX11_signOf_78 rfl ?_
            refine zj_icmp_ne (tgt := 87) dX11_signOf_79 (by decide) (fun c => ?_) (fun c => ?_)
            · replace h := h.1 c
              refine zj_iload dX11_signOf_87 rfl ?_
              refine zj_iconst (x := 2) dX11_signOf_89 rfl ?_
              refine zj_icmp_ne (tgt := 98) dX11_signOf_90 (by decide) (fun c => ?_) (fun c => ?_)
              · replace h := h.1 c
                refine zj_bipush (x := 42) dX11_signOf_98 rfl ?_
                exact zj_iret dX11_signOf_100 rfl rfl h
              · replace h := h.2 c
                refine zj_bipush (x := 45) dX11_signOf_93 rfl ?_
                refine zj_goto (tgt := 100) dX11_signOf_95 (by decide) ?_
                exact zj_iret dX11_signOf_100 rfl rfl h
            · replace h := h.2 c
              refine zj_bipush (x := 43) dX11_signOf_82 rfl ?_
              refine zj_goto (tgt := 100) dX11_signOf_84 (by decide) ?_
              exact zj_iret dX11_signOf_100 rfl rfl h
          · replace h := h.2 c
            refine zj_bipush (x := 46) dX11_signOf_71 rfl ?_
            refine zj_goto (tgt := 100) dX11_signOf_73 (by decide) ?_
            exact zj_iret dX11_signOf_100 rfl rfl h
theorem sg_X11_step_0 {G : z_G} {d : Nat} {S : z_Shp} {v : z_Dat} {Q : Option Value → z_Shp → z_Dat → Prop} (hL : z_L S)
    (h : z_J G d mX11_wordHere (0, [.ref 223, .null, .null, .null, .null, .null, .null], [], S, v) (fun r S1 v1 => ∃ y1 : Int32, r = some (.int y1) ∧ S1 = S ∧ ((0 ≤ y1 → ((¬ (v1 223 17) = 30 → ((¬ y1 = 7 → (∀ v2, v2 = z_u v1 223 19 (v1 223 23) → (vp_in ((4 : Int32) * (v2 223 17)) 128 ∧ (∀ v3, v3 = z_u v2 234 ((4 : Int32) * (v2 223 17)).toNatClampNeg y1 → (∀ v4, v4 = z_u v3 223 17 ((v3 223 17) + 1) → ((y1 = 3 → (z_J G d mX11_kind (0, [.ref 223, .int (((4 : Int32) * (v2 223 17)) + 1), .null], [], S, v4) (fun r S1 v5 => ∃ y2 : Int32, r = some (.int y2) ∧ S1 = S ∧ ((y2 = 0 → (Q (some (.int 0)) S v5)) ∧ (¬ y2 = 0 → (z_J G d mX11_number (0, [.ref 223, .int (((4 : Int32) * (v2 223 17)) + 2), .int 0, .int ((v5 223 14) - 1), .null, .null, .null], [], S, v5) (fun r S1 v6 => ∃ y3 : Int32, r = some (.int y3) ∧ S1 = S ∧ ((y3 = 0 → (Q (some (.int 0)) S v6)) ∧ (¬ y3 = 0 → (Q (some (.int 1)) S v6)))))))))) ∧ (y1 = 4 → (Q (some (.int 1)) S v4)) ∧ (y1 = 5 → (z_J G d mX11_number (0, [.ref 223, .int (((4 : Int32) * (v2 223 17)) + 1), .int 0, .int ((v4 224 0) - 1), .null, .null, .null], [], S, v4) (fun r S1 v7 => ∃ y4 : Int32, r = some (.int y4) ∧ S1 = S ∧ ((y4 = 0 → (Q (some (.int 0)) S v7)) ∧ (¬ y4 = 0 → (z_J G d mX11_number (0, [.ref 223, .int (((4 : Int32) * (v2 223 17)) + 2), .int 0, .int ((v4 224 0) - 1), .null, .null, .null], [], S, v7) (fun r S1 v8 => ∃ y5 : Int32, r = some (.int y5) ∧ S1 = S ∧ ((y5 = 0 → (Q (some (.int 0)) S v8)) ∧ (¬ y5 = 0 → (z_J G d mX11_number (0, [.ref 223, .int (((4 : Int32) * (v2 223 17)) + 3), .int 1, .int 9, .null, .null, .null], [], S, v8) (fun r S1 v9 => ∃ y6 : Int32, r = some (.int y6) ∧ S1 = S ∧ ((y6 = 0 → (Q (some (.int 0)) S v9)) ∧ (¬ y6 = 0 → (Q (some (.int 1)) S v9)))))))))))))) ∧ (y1 = 6 → (z_J G d mX11_kind (0, [.ref 223, .int (((4 : Int32) * (v2 223 17)) + 1), .null], [], S, v4) (fun r S1 v10 => ∃ y7 : Int32, r = some (.int y7) ∧ S1 = S ∧ ((y7 = 0 → (Q (some (.int 0)) S v10)) ∧ (¬ y7 = 0 → (z_J G d mX11_number (0, [.ref 223, .int (((4 : Int32) * (v2 223 17)) + 2), .int 0, .int ((v10 223 14) - 1), .null, .null, .null], [], S, v10) (fun r S1 v11 => ∃ y8 : Int32, r = some (.int y8) ∧ S1 = S ∧ ((y8 = 0 → (Q (some (.int 0)) S v11)) ∧ (¬ y8 = 0 → (z_J G d mX11_number (0, [.ref 223, .int (((4 : Int32) * (v2 223 17)) + 3), .int 1, .int 9, .null, .null, .null], [], S, v11) (fun r S1 v12 => ∃ y9 : Int32, r = some (.int y9) ∧ S1 = S ∧ ((y9 = 0 → (Q (some (.int 0)) S v12)) ∧ (¬ y9 = 0 → (Q (some (.int 1)) S v12)))))))))))))) ∧ (y1 = 7 → (z_J G d mX11_number (0, [.ref 223, .int (((4 : Int32) * (v2 223 17)) + 1), .int 1, .int 9, .null, .null, .null], [], S, v4) (fun r S1 v13 => ∃ y10 : Int32, r = some (.int y10) ∧ S1 = S ∧ ((y10 = 0 → (Q (some (.int 0)) S v13)) ∧ (¬ y10 = 0 → (z_J G d mX11_sign (0, [.ref 223, .int 91], [], S, v13) (fun r S1 v14 => ∃ y11 : Int32, r = some (.int y11) ∧ S1 = S ∧ ((y11 = 0 → (Q (some (.int 0)) S v14)) ∧ (¬ y11 = 0 → (Q (some (.int 1)) S v14)))))))))) ∧ (¬ y1 = 3 → ¬ y1 = 4 → ¬ y1 = 5 → ¬ y1 = 6 → ¬ y1 = 7 → (z_J G d mX11_number (0, [.ref 223, .int (((4 : Int32) * (v2 223 17)) + 1), .int 0, .int ((v4 224 0) - 1), .null, .null, .null], [], S, v4) (fun r S1 v15 => ∃ y12 : Int32, r = some (.int y12) ∧ S1 = S ∧ ((y12 = 0 → (Q (some (.int 0)) S v15)) ∧ (¬ y12 = 0 → (z_J G d mX11_number (0, [.ref 223, .int (((4 : Int32) * (v2 223 17)) + 2), .int 0, .int ((v4 224 0) - 1), .null, .null, .null], [], S, v15) (fun r S1 v16 => ∃ y13 : Int32, r = some (.int y13) ∧ S1 = S ∧ ((y13 = 0 → (Q (some (.int 0)) S v16)) ∧ (¬ y13 = 0 → (Q (some (.int 1)) S v16)))))))))))))))) ∧ (y1 = 7 → ((¬ (v1 223 18) = 2 → (∀ v17, v17 = z_u v1 223 19 (v1 223 23) → (vp_in ((4 : Int32) * (v17 223 17)) 128 ∧ (∀ v18, v18 = z_u v17 234 ((4 : Int32) * (v17 223 17)).toNatClampNeg y1 → (∀ v19, v19 = z_u v18 223 17 ((v18 223 17) + 1) → ((y1 = 3 → (z_J G d mX11_kind (0, [.ref 223, .int (((4 : Int32) * (v17 223 17)) + 1), .null], [], S, v19) (fun r S1 v20 => ∃ y14 : Int32, r = some (.int y14) ∧ S1 = S ∧ ((y14 = 0 → (Q (some (.int 0)) S v20)) ∧ (¬ y14 = 0 → (z_J G d mX11_number (0, [.ref 223, .int (((4 : Int32) * (v17 223 17)) + 2), .int 0, .int ((v20 223 14) - 1), .null, .null, .null], [], S, v20) (fun r S1 v21 => ∃ y15 : Int32, r = some (.int y15) ∧ S1 = S ∧ ((y15 = 0 → (Q (some (.int 0)) S v21)) ∧ (¬ y15 = 0 → (Q (some (.int 1)) S v21)))))))))) ∧ (y1 = 4 → (Q (some (.int 1)) S v19)) ∧ (y1 = 5 → (z_J G d mX11_number (0, [.ref 223, .int (((4 : Int32) * (v17 223 17)) + 1), .int 0, .int ((v19 224 0) - 1), .null, .null, .null], [], S, v19) (fun r S1 v22 => ∃ y16 : Int32, r = some (.int y16) ∧ S1 = S ∧ ((y16 = 0 → (Q (some (.int 0)) S v22)) ∧ (¬ y16 = 0 → (z_J G d mX11_number (0, [.ref 223, .int (((4 : Int32) * (v17 223 17)) + 2), .int 0, .int ((v19 224 0) - 1), .null, .null, .null], [], S, v22) (fun r S1 v23 => ∃ y17 : Int32, r = some (.int y17) ∧ S1 = S ∧ ((y17 = 0 → (Q (some (.int 0)) S v23)) ∧ (¬ y17 = 0 → (z_J G d mX11_number (0, [.ref 223, .int (((4 : Int32) * (v17 223 17)) + 3), .int 1, .int 9, .null, .null, .null], [], S, v23) (fun r S1 v24 => ∃ y18 : Int32, r = some (.int y18) ∧ S1 = S ∧ ((y18 = 0 → (Q (some (.int 0)) S v24)) ∧ (¬ y18 = 0 → (Q (some (.int 1)) S v24)))))))))))))) ∧ (y1 = 6 → (z_J G d mX11_kind (0, [.ref 223, .int (((4 : Int32) * (v17 223 17)) + 1), .null], [], S, v19) (fun r S1 v25 => ∃ y19 : Int32, r = some (.int y19) ∧ S1 = S ∧ ((y19 = 0 → (Q (some (.int 0)) S v25)) ∧ (¬ y19 = 0 → (z_J G d mX11_number (0, [.ref 223, .int (((4 : Int32) * (v17 223 17)) + 2), .int 0, .int ((v25 223 14) - 1), .null, .null, .null], [], S, v25) (fun r S1 v26 => ∃ y20 : Int32, r = some (.int y20) ∧ S1 = S ∧ ((y20 = 0 → (Q (some (.int 0)) S v26)) ∧ (¬ y20 = 0 → (z_J G d mX11_number (0, [.ref 223, .int (((4 : Int32) * (v17 223 17)) + 3), .int 1, .int 9, .null, .null, .null], [], S, v26) (fun r S1 v27 => ∃ y21 : Int32, r = some (.int y21) ∧ S1 = S ∧ ((y21 = 0 → (Q (some (.int 0)) S v27)) ∧ (¬ y21 = 0 → (Q (some (.int 1)) S v27)))))))))))))) ∧ (y1 = 7 → (z_J G d mX11_number (0, [.ref 223, .int (((4 : Int32) * (v17 223 17)) + 1), .int 1, .int 9, .null, .null, .null], [], S, v19) (fun r S1 v28 => ∃ y22 : Int32, r = some (.int y22) ∧ S1 = S ∧ ((y22 = 0 → (Q (some (.int 0)) S v28)) ∧ (¬ y22 = 0 → (z_J G d mX11_sign (0, [.ref 223, .int 91], [], S, v28) (fun r S1 v29 => ∃ y23 : Int32, r = some (.int y23) ∧ S1 = S ∧ ((y23 = 0 → (Q (some (.int 0)) S v29)) ∧ (¬ y23 = 0 → (Q (some (.int 1)) S v29)))))))))) ∧ (¬ y1 = 3 → ¬ y1 = 4 → ¬ y1 = 5 → ¬ y1 = 6 → ¬ y1 = 7 → (z_J G d mX11_number (0, [.ref 223, .int (((4 : Int32) * (v17 223 17)) + 1), .int 0, .int ((v19 224 0) - 1), .null, .null, .null], [], S, v19) (fun r S1 v30 => ∃ y24 : Int32, r = some (.int y24) ∧ S1 = S ∧ ((y24 = 0 → (Q (some (.int 0)) S v30)) ∧ (¬ y24 = 0 → (z_J G d mX11_number (0, [.ref 223, .int (((4 : Int32) * (v17 223 17)) + 2), .int 0, .int ((v19 224 0) - 1), .null, .null, .null], [], S, v30) (fun r S1 v31 => ∃ y25 : Int32, r = some (.int y25) ∧ S1 = S ∧ ((y25 = 0 → (Q (some (.int 0)) S v31)) ∧ (¬ y25 = 0 → (Q (some (.int 1)) S v31)))))))))))))))) ∧ ((v1 223 18) = 2 → (z_J G d mX11_bad (0, [.ref 223, .int 4, .int (v1 223 19)], [], S, v1) (fun r S1 v32 => ∃ y26 : Int32, r = some (.int y26) ∧ S1 = S ∧ (narrow .boolean (.int y26) = .int y26 ∧ Q (some (.int y26)) S v32)))))))) ∧ ((v1 223 17) = 30 → (z_J G d mX11_bad (0, [.ref 223, .int 3, .int (v1 223 19)], [], S, v1) (fun r S1 v33 => ∃ y27 : Int32, r = some (.int y27) ∧ S1 = S ∧ (narrow .boolean (.int y27) = .int y27 ∧ Q (some (.int y27)) S v33)))))) ∧ (¬ 0 ≤ y1 → (z_J G d mX11_bad (0, [.ref 223, .int 1, .int (v1 223 19)], [], S, v1) (fun r S1 v34 => ∃ y28 : Int32, r = some (.int y28) ∧ S1 = S ∧ (narrow .boolean (.int y28) = .int y28 ∧ Q (some (.int y28)) S v34))))))) :
    z_J G (d + 1) mX11_step (0, [.ref 223, .null, .null, .null], [], S, v) Q := by
  refine zj_aload_n dX11_step_0 rfl rfl ?_
  refine zj_callV (M' := mX11_wordHere) (avs := []) (st := []) (ci := 11) dX11_step_1 wm_X11_wordHere wl_X11_211 wi_X11_wordHere ws_X11_wordHere (by decide) (zk_223 hL) rfl rfl (by decide) rfl (Nat.le_of_ble_eq_true rfl) (Nat.le_of_ble_eq_true rfl) ⟨Or.inl (z_k0 (zk_223 hL)), trivial⟩ trivial (z_J.mono h (fun r S1 v1 hq => ?_))
  obtain ⟨y1, rfl, rfl, h⟩ := hq
  refine zj_istore_n (ls2 := [.ref 223, .int y1, .null, .null]) dX11_step_4 rfl (by decide) rfl rfl ?_
  refine zj_iload_n dX11_step_5 rfl rfl ?_
  refine zj_if_ge (tgt := 19) dX11_step_6 (by decide) (fun c => ?_) (fun c => ?_)
  · replace h := h.1 c
    refine zj_aload_n dX11_step_19 rfl rfl ?_
    refine zj_getI (ci := 11) (j := 17) dX11_step_20 wf_X11_214 (by decide) (by decide) (zk_223 hL) rfl ?_
    refine zj_bipush (x := 30) dX11_step_23 rfl ?_
    refine zj_icmp_ne (tgt := 38) dX11_step_25 (by decide) (fun c => ?_) (fun c => ?_)
    · replace h := h.1 c
      refine zj_iload_n dX11_step_38 rfl rfl ?_
      refine zj_bipush (x := 7) dX11_step_39 rfl ?_
      refine zj_icmp_ne (tgt := 62) dX11_step_41 (by decide) (fun c => ?_) (fun c => ?_)
      · replace h := h.1 c
        refine zj_aload_n dX11_step_62 rfl rfl ?_
        refine zj_aload_n dX11_step_63 rfl rfl ?_
        refine zj_getI (ci := 11) (j := 23) dX11_step_64 wf_X11_205 (by decide) (by decide) (zk_223 hL) rfl ?_
        refine zj_putI (ci := 11) (j := 19) dX11_step_67 wf_X11_187 (by decide) (by decide) (zk_223 hL) rfl rfl rfl rfl (fun v2 ev2 => ?_)
        replace h := h v2 ev2
        refine zj_iconst (x := 4) dX11_step_70 rfl ?_
        refine zj_aload_n dX11_step_71 rfl rfl ?_
        refine zj_getI (ci := 11) (j := 17) dX11_step_72 wf_X11_214 (by decide) (by decide) (zk_223 hL) rfl ?_
        refine zj_imul dX11_step_75 ?_
        refine zj_istore_n (ls2 := [.ref 223, .int y1, .int ((4 : Int32) * (v2 223 17)), .null]) dX11_step_76 rfl (by decide) rfl rfl ?_
        refine zj_aload_n dX11_step_77 rfl rfl ?_
        refine zj_getR (ci := 11) (j := 15) dX11_step_78 wf_X11_46 (by decide) (by decide) (zk_223 hL) rfl (zr_223_15 hL) ?_
        refine zj_iload_n dX11_step_81 rfl rfl ?_
        refine zj_iload_n dX11_step_82 rfl rfl ?_
        refine zj_iastore dX11_step_83 (zk_234 hL) (by rw [(zl_234 hL)]; exact h.1) (fun v3 ev3 => ?_)
        replace h := h.2 v3 ev3
        refine zj_aload_n dX11_step_84 rfl rfl ?_
        refine zj_dup dX11_step_85 rfl ?_
        refine zj_getI (ci := 11) (j := 17) dX11_step_86 wf_X11_214 (by decide) (by decide) (zk_223 hL) rfl ?_
        refine zj_iconst (x := 1) dX11_step_89 rfl ?_
        refine zj_iadd dX11_step_90 ?_
        refine zj_putI (ci := 11) (j := 17) dX11_step_91 wf_X11_214 (by decide) (by decide) (zk_223 hL) rfl rfl rfl rfl (fun v4 ev4 => ?_)
        replace h := h v4 ev4
        refine zj_aload_n dX11_step_94 rfl rfl ?_
        refine zj_callV (M' := mX11_d) (avs := []) (st := []) (ci := 11) dX11_step_95 wm_X11_d wl_X11_140 wi_X11_d ws_X11_d (by decide) (zk_223 hL) rfl rfl (by decide) rfl (Nat.le_of_ble_eq_true rfl) (Nat.le_of_ble_eq_true rfl) ⟨Or.inl (z_k0 (zk_223 hL)), trivial⟩ trivial (hp_X11_d hL ?_)
        refine zj_iconst (x := 1) dX11_step_98 rfl ?_
        refine zj_isub dX11_step_99 ?_
        refine zj_istore_n (ls2 := [.ref 223, .int y1, .int ((4 : Int32) * (v2 223 17)), .int ((v4 224 0) - 1)]) dX11_step_100 rfl (by decide) rfl rfl ?_
        refine zj_iload_n dX11_step_101 rfl rfl ?_
        by_cases c3 : y1 = 3
        · refine zj_tabIn (tgt := 136) dX11_step_102 (by rw [c3]; decide) (by rw [c3]; decide) (by rw [c3]; rfl) (by decide) ?_
          replace h := h.1 c3
          refine zj_aload_n dX11_step_136 rfl rfl ?_
          refine zj_iload_n dX11_step_137 rfl rfl ?_
          refine zj_iconst (x := 1) dX11_step_138 rfl ?_
          refine zj_iadd dX11_step_139 ?_
          refine zj_callV (M' := mX11_kind) (avs := [.int (((4 : Int32) * (v2 223 17)) + 1)]) (st := []) (ci := 11) dX11_step_140 wm_X11_kind wl_X11_220 wi_X11_kind ws_X11_kind (by decide) (zk_223 hL) rfl rfl (by decide) rfl (Nat.le_of_ble_eq_true rfl) (Nat.le_of_ble_eq_true rfl) ⟨Or.inl (z_k0 (zk_223 hL)), trivial⟩ trivial (z_J.mono h (fun r S1 v5 hq => ?_))
          obtain ⟨y2, rfl, rfl, h⟩ := hq
          refine zj_if_eq (tgt := 167) dX11_step_143 (by decide) (fun c => ?_) (fun c => ?_)
          · replace h := h.1 c
            refine zj_iconst (x := 0) dX11_step_167 rfl ?_
            exact zj_iret dX11_step_168 rfl (by decide) h
          · replace h := h.2 c
            refine zj_aload_n dX11_step_146 rfl rfl ?_
            refine zj_iload_n dX11_step_147 rfl rfl ?_
            refine zj_iconst (x := 2) dX11_step_148 rfl ?_
            refine zj_iadd dX11_step_149 ?_
            refine zj_iconst (x := 0) dX11_step_150 rfl ?_
            refine zj_aload_n dX11_step_151 rfl rfl ?_
            refine zj_getI (ci := 11) (j := 14) dX11_step_152 wf_X11_151 (by decide) (by decide) (zk_223 hL) rfl ?_
            refine zj_iconst (x := 1) dX11_step_155 rfl ?_
            refine zj_isub dX11_step_156 ?_
            refine zj_callV (M' := mX11_number) (avs := [.int (((4 : Int32) * (v2 223 17)) + 2), .int 0, .int ((v5 223 14) - 1)]) (st := []) (ci := 11) dX11_step_157 wm_X11_number wl_X11_223 wi_X11_number ws_X11_number (by decide) (zk_223 hL) rfl rfl (by decide) rfl (Nat.le_of_ble_eq_true rfl) (Nat.le_of_ble_eq_true rfl) ⟨Or.inl (z_k0 (zk_223 hL)), trivial⟩ trivial (z_J.mono h (fun r S1 v6 hq => ?_))
            obtain ⟨y3, rfl, rfl, h⟩ := hq
            refine zj_if_eq (tgt := 167) dX11_step_160 (by decide) (fun c => ?_) (fun c => ?_)
            · replace h := h.1 c
              refine zj_iconst (x := 0) dX11_step_167 rfl ?_
              exact zj_iret dX11_step_168 rfl (by decide) h
            · replace h := h.2 c
              refine zj_iconst (x := 1) dX11_step_163 rfl ?_
              refine zj_goto (tgt := 168) dX11_step_164 (by decide) ?_
              exact zj_iret dX11_step_168 rfl (by decide) h
        by_cases c4 : y1 = 4
        · refine zj_tabIn (tgt := 169) dX11_step_102 (by rw [c4]; decide) (by rw [c4]; decide) (by rw [c4]; rfl) (by decide) ?_
          replace h := h.2.1 c4
          refine zj_iconst (x := 1) dX11_step_169 rfl ?_
          exact zj_iret dX11_step_170 rfl (by decide) h
        by_cases c5 : y1 = 5
        · refine zj_tabIn (tgt := 171) dX11_step_102 (by rw [c5]; decide) (by rw [c5]; decide) (by rw [c5]; rfl) (by decide) ?_
          replace h := h.2.2.1 c5
          refine zj_aload_n dX11_step_171 rfl rfl ?_
          refine zj_iload_n dX11_step_172 rfl rfl ?_
          refine zj_iconst (x := 1) dX11_step_173 rfl ?_
          refine zj_iadd dX11_step_174 ?_
          refine zj_iconst (x := 0) dX11_step_175 rfl ?_
          refine zj_iload_n dX11_step_176 rfl rfl ?_
          refine zj_callV (M' := mX11_number) (avs := [.int (((4 : Int32) * (v2 223 17)) + 1), .int 0, .int ((v4 224 0) - 1)]) (st := []) (ci := 11) dX11_step_177 wm_X11_number wl_X11_223 wi_X11_number ws_X11_number (by decide) (zk_223 hL) rfl rfl (by decide) rfl (Nat.le_of_ble_eq_true rfl) (Nat.le_of_ble_eq_true rfl) ⟨Or.inl (z_k0 (zk_223 hL)), trivial⟩ trivial (z_J.mono h (fun r S1 v7 hq => ?_))
          obtain ⟨y4, rfl, rfl, h⟩ := hq
          refine zj_if_eq (tgt := 212) dX11_step_180 (by decide) (fun c => ?_) (fun c => ?_)
          · replace h := h.1 c
            refine zj_iconst (x := 0) dX11_step_212 rfl ?_
            exact zj_iret dX11_step_213 rfl (by decide) h
          · replace h := h.2 c
            refine zj_aload_n dX11_step_183 rfl rfl ?_
            refine zj_iload_n dX11_step_184 rfl rfl ?_
            refine zj_iconst (x := 2) dX11_step_185 rfl ?_
            refine zj_iadd dX11_step_186 ?_
            refine zj_iconst (x := 0) dX11_step_187 rfl ?_
            refine zj_iload_n dX11_step_188 rfl rfl ?_
            refine zj_callV (M' := mX11_number) (avs := [.int (((4 : Int32) * (v2 223 17)) + 2), .int 0, .int ((v4 224 0) - 1)]) (st := []) (ci := 11) dX11_step_189 wm_X11_number wl_X11_223 wi_X11_number ws_X11_number (by decide) (zk_223 hL) rfl rfl (by decide) rfl (Nat.le_of_ble_eq_true rfl) (Nat.le_of_ble_eq_true rfl) ⟨Or.inl (z_k0 (zk_223 hL)), trivial⟩ trivial (z_J.mono h (fun r S1 v8 hq => ?_))
            obtain ⟨y5, rfl, rfl, h⟩ := hq
            refine zj_if_eq (tgt := 212) dX11_step_192 (by decide) (fun c => ?_) (fun c => ?_)
            · replace h := h.1 c
              refine zj_iconst (x := 0) dX11_step_212 rfl ?_
              exact zj_iret dX11_step_213 rfl (by decide) h
            · replace h := h.2 c
              refine zj_aload_n dX11_step_195 rfl rfl ?_
              refine zj_iload_n dX11_step_196 rfl rfl ?_
              refine zj_iconst (x := 3) dX11_step_197 rfl ?_
              refine zj_iadd dX11_step_198 ?_
              refine zj_iconst (x := 1) dX11_step_199 rfl ?_
              refine zj_bipush (x := 9) dX11_step_200 rfl ?_
              refine zj_callV (M' := mX11_number) (avs := [.int (((4 : Int32) * (v2 223 17)) + 3), .int 1, .int 9]) (st := []) (ci := 11) dX11_step_202 wm_X11_number wl_X11_223 wi_X11_number ws_X11_number (by decide) (zk_223 hL) rfl rfl (by decide) rfl (Nat.le_of_ble_eq_true rfl) (Nat.le_of_ble_eq_true rfl) ⟨Or.inl (z_k0 (zk_223 hL)), trivial⟩ trivial (z_J.mono h (fun r S1 v9 hq => ?_))
              obtain ⟨y6, rfl, rfl, h⟩ := hq
              refine zj_if_eq (tgt := 212) dX11_step_205 (by decide) (fun c => ?_) (fun c => ?_)
              · replace h := h.1 c
                refine zj_iconst (x := 0) dX11_step_212 rfl ?_
                exact zj_iret dX11_step_213 rfl (by decide) h
              · replace h := h.2 c
                refine zj_iconst (x := 1) dX11_step_208 rfl ?_
                refine zj_goto (tgt := 213) dX11_step_209 (by decide) ?_
                exact zj_iret dX11_step_213 rfl (by decide) h
        by_cases c6 : y1 = 6
        · refine zj_tabIn (tgt := 214) dX11_step_102 (by rw [c6]; decide) (by rw [c6]; decide) (by rw [c6]; rfl) (by decide) ?_
          replace h := h.2.2.2.1 c6
          refine zj_aload_n dX11_step_214 rfl rfl ?_
          refine zj_iload_n dX11_step_215 rfl rfl ?_
          refine zj_iconst (x := 1) dX11_step_216 rfl ?_
          refine zj_iadd dX11_step_217 ?_
          refine zj_callV (M' := mX11_kind) (avs := [.int (((4 : Int32) * (v2 223 17)) + 1)]) (st := []) (ci := 11) dX11_step_218 wm_X11_kind wl_X11_220 wi_X11_kind ws_X11_kind (by decide) (zk_223 hL) rfl rfl (by decide) rfl (Nat.le_of_ble_eq_true rfl) (Nat.le_of_ble_eq_true rfl) ⟨Or.inl (z_k0 (zk_223 hL)), trivial⟩ trivial (z_J.mono h (fun r S1 v10 hq => ?_))
          obtain ⟨y7, rfl, rfl, h⟩ := hq
          refine zj_if_eq (tgt := 258) dX11_step_221 (by decide) (fun c => ?_) (fun c => ?_)
          · replace h := h.1 c
            refine zj_iconst (x := 0) dX11_step_258 rfl ?_
            exact zj_iret dX11_step_259 rfl (by decide) h
          · replace h := h.2 c
            refine zj_aload_n dX11_step_224 rfl rfl ?_
            refine zj_iload_n dX11_step_225 rfl rfl ?_
            refine zj_iconst (x := 2) dX11_step_226 rfl ?_
            refine zj_iadd dX11_step_227 ?_
            refine zj_iconst (x := 0) dX11_step_228 rfl ?_
            refine zj_aload_n dX11_step_229 rfl rfl ?_
            refine zj_getI (ci := 11) (j := 14) dX11_step_230 wf_X11_151 (by decide) (by decide) (zk_223 hL) rfl ?_
            refine zj_iconst (x := 1) dX11_step_233 rfl ?_
            refine zj_isub dX11_step_234 ?_
            refine zj_callV (M' := mX11_number) (avs := [.int (((4 : Int32) * (v2 223 17)) + 2), .int 0, .int ((v10 223 14) - 1)]) (st := []) (ci := 11) dX11_step_235 wm_X11_number wl_X11_223 wi_X11_number ws_X11_number (by decide) (zk_223 hL) rfl rfl (by decide) rfl (Nat.le_of_ble_eq_true rfl) (Nat.le_of_ble_eq_true rfl) ⟨Or.inl (z_k0 (zk_223 hL)), trivial⟩ trivial (z_J.mono h (fun r S1 v11 hq => ?_))
            obtain ⟨y8, rfl, rfl, h⟩ := hq
            refine zj_if_eq (tgt := 258) dX11_step_238 (by decide) (fun c => ?_) (fun c => ?_)
            · replace h := h.1 c
              refine zj_iconst (x := 0) dX11_step_258 rfl ?_
              exact zj_iret dX11_step_259 rfl (by decide) h
            · replace h := h.2 c
              refine zj_aload_n dX11_step_241 rfl rfl ?_
              refine zj_iload_n dX11_step_242 rfl rfl ?_
              refine zj_iconst (x := 3) dX11_step_243 rfl ?_
              refine zj_iadd dX11_step_244 ?_
              refine zj_iconst (x := 1) dX11_step_245 rfl ?_
              refine zj_bipush (x := 9) dX11_step_246 rfl ?_
              refine zj_callV (M' := mX11_number) (avs := [.int (((4 : Int32) * (v2 223 17)) + 3), .int 1, .int 9]) (st := []) (ci := 11) dX11_step_248 wm_X11_number wl_X11_223 wi_X11_number ws_X11_number (by decide) (zk_223 hL) rfl rfl (by decide) rfl (Nat.le_of_ble_eq_true rfl) (Nat.le_of_ble_eq_true rfl) ⟨Or.inl (z_k0 (zk_223 hL)), trivial⟩ trivial (z_J.mono h (fun r S1 v12 hq => ?_))
              obtain ⟨y9, rfl, rfl, h⟩ := hq
              refine zj_if_eq (tgt := 258) dX11_step_251 (by decide) (fun c => ?_) (fun c => ?_)
              · replace h := h.1 c
                refine zj_iconst (x := 0) dX11_step_258 rfl ?_
                exact zj_iret dX11_step_259 rfl (by decide) h
              · replace h := h.2 c
                refine zj_iconst (x := 1) dX11_step_254 rfl ?_
                refine zj_goto (tgt := 259) dX11_step_255 (by decide) ?_
                exact zj_iret dX11_step_259 rfl (by decide) h
        by_cases c7 : y1 = 7
        · refine zj_tabIn (tgt := 260) dX11_step_102 (by rw [c7]; decide) (by rw [c7]; decide) (by rw [c7]; rfl) (by decide) ?_
          replace h := h.2.2.2.2.1 c7
          refine zj_aload_n dX11_step_260 rfl rfl ?_
          refine zj_iload_n dX11_step_261 rfl rfl ?_
          refine zj_iconst (x := 1) dX11_step_262 rfl ?_
          refine zj_iadd dX11_step_263 ?_
          refine zj_iconst (x := 1) dX11_step_264 rfl ?_
          refine zj_bipush (x := 9) dX11_step_265 rfl ?_
          refine zj_callV (M' := mX11_number) (avs := [.int (((4 : Int32) * (v2 223 17)) + 1), .int 1, .int 9]) (st := []) (ci := 11) dX11_step_267 wm_X11_number wl_X11_223 wi_X11_number ws_X11_number (by decide) (zk_223 hL) rfl rfl (by decide) rfl (Nat.le_of_ble_eq_true rfl) (Nat.le_of_ble_eq_true rfl) ⟨Or.inl (z_k0 (zk_223 hL)), trivial⟩ trivial (z_J.mono h (fun r S1 v13 hq => ?_))
          obtain ⟨y10, rfl, rfl, h⟩ := hq
          refine zj_if_eq (tgt := 286) dX11_step_270 (by decide) (fun c => ?_) (fun c => ?_)
          · replace h := h.1 c
            refine zj_iconst (x := 0) dX11_step_286 rfl ?_
            exact zj_iret dX11_step_287 rfl (by decide) h
          · replace h := h.2 c
            refine zj_aload_n dX11_step_273 rfl rfl ?_
            refine zj_bipush (x := 91) dX11_step_274 rfl ?_
            refine zj_callV (M' := mX11_sign) (avs := [.int 91]) (st := []) (ci := 11) dX11_step_276 wm_X11_sign wl_X11_226 wi_X11_sign ws_X11_sign (by decide) (zk_223 hL) rfl rfl (by decide) rfl (Nat.le_of_ble_eq_true rfl) (Nat.le_of_ble_eq_true rfl) ⟨Or.inl (z_k0 (zk_223 hL)), trivial⟩ trivial (z_J.mono h (fun r S1 v14 hq => ?_))
            obtain ⟨y11, rfl, rfl, h⟩ := hq
            refine zj_if_eq (tgt := 286) dX11_step_279 (by decide) (fun c => ?_) (fun c => ?_)
            · replace h := h.1 c
              refine zj_iconst (x := 0) dX11_step_286 rfl ?_
              exact zj_iret dX11_step_287 rfl (by decide) h
            · replace h := h.2 c
              refine zj_iconst (x := 1) dX11_step_282 rfl ?_
              refine zj_goto (tgt := 287) dX11_step_283 (by decide) ?_
              exact zj_iret dX11_step_287 rfl (by decide) h
        refine zj_tabOut (tgt := 288) dX11_step_102 (z_out_3_7 c3 c4 c5 c6 c7) (by decide) ?_
        replace h := h.2.2.2.2.2 c3 c4 c5 c6 c7
        refine zj_aload_n dX11_step_288 rfl rfl ?_
        refine zj_iload_n dX11_step_289 rfl rfl ?_
        refine zj_iconst (x := 1) dX11_step_290 rfl ?_
        refine zj_iadd dX11_step_291 ?_
        refine zj_iconst (x := 0) dX11_step_292 rfl ?_
        refine zj_iload_n dX11_step_293 rfl rfl ?_
        refine zj_callV (M' := mX11_number) (avs := [.int (((4 : Int32) * (v2 223 17)) + 1), .int 0, .int ((v4 224 0) - 1)]) (st := []) (ci := 11) dX11_step_294 wm_X11_number wl_X11_223 wi_X11_number ws_X11_number (by decide) (zk_223 hL) rfl rfl (by decide) rfl (Nat.le_of_ble_eq_true rfl) (Nat.le_of_ble_eq_true rfl) ⟨Or.inl (z_k0 (zk_223 hL)), trivial⟩ trivial (z_J.mono h (fun r S1 v15 hq => ?_))
        obtain ⟨y12, rfl, rfl, h⟩ := hq
        refine zj_if_eq (tgt := 316) dX11_step_297 (by decide) (fun c => ?_) (fun c => ?_)
        · replace h := h.1 c
          refine zj_iconst (x := 0) dX11_step_316 rfl ?_
          exact zj_iret dX11_step_317 rfl (by decide) h
        · replace h := h.2 c
          refine zj_aload_n dX11_step_300 rfl rfl ?_
          refine zj_iload_n dX11_step_301 rfl rfl ?_
          refine zj_iconst (x := 2) dX11_step_302 rfl ?_
          refine zj_iadd dX11_step_303 ?_
          refine zj_iconst (x := 0) dX11_step_304 rfl ?_
          refine zj_iload_n dX11_step_305 rfl rfl ?_
          refine zj_callV (M' := mX11_number) (avs := [.int (((4 : Int32) * (v2 223 17)) + 2), .int 0, .int ((v4 224 0) - 1)]) (st := []) (ci := 11) dX11_step_306 wm_X11_number wl_X11_223 wi_X11_number ws_X11_number (by decide) (zk_223 hL) rfl rfl (by decide) rfl (Nat.le_of_ble_eq_true rfl) (Nat.le_of_ble_eq_true rfl) ⟨Or.inl (z_k0 (zk_223 hL)), trivial⟩ trivial (z_J.mono h (fun r S1 v16 hq => ?_))
          obtain ⟨y13, rfl, rfl, h⟩ := hq
          refine zj_if_eq (tgt := 316) dX11_step_309 (by decide) (fun c => ?_) (fun c => ?_)
          · replace h := h.1 c
            refine zj_iconst (x := 0) dX11_step_316 rfl ?_
            exact zj_iret dX11_step_317 rfl (by decide) h
          · replace h := h.2 c
            refine zj_iconst (x := 1) dX11_step_312 rfl ?_
            refine zj_goto (tgt := 317) dX11_step_313 (by decide) ?_
            exact zj_iret dX11_step_317 rfl (by decide) h
      · replace h := h.2 c
        refine zj_aload_n dX11_step_44 rfl rfl ?_
        refine zj_getI (ci := 11) (j := 18) dX11_step_45 wf_X11_217 (by decide) (by decide) (zk_223 hL) rfl ?_
        refine zj_iconst (x := 2) dX11_step_48 rfl ?_
        refine zj_icmp_ne (tgt := 62) dX11_step_49 (by decide) (fun c => ?_) (fun c => ?_)
        · replace h := h.1 c
          refine zj_aload_n dX11_step_62 rfl rfl ?_
          refine zj_aload_n dX11_step_63 rfl rfl ?_
          refine zj_getI (ci := 11) (j := 23) dX11_step_64 wf_X11_205 (by decide) (by decide) (zk_223 hL) rfl ?_
          refine zj_putI (ci := 11) (j := 19) dX11_step_67 wf_X11_187 (by decide) (by decide) (zk_223 hL) rfl rfl rfl rfl (fun v17 ev17 => ?_)
          replace h := h v17 ev17
          refine zj_iconst (x := 4) dX11_step_70 rfl ?_
          refine zj_aload_n dX11_step_71 rfl rfl ?_
          refine zj_getI (ci := 11) (j := 17) dX11_step_72 wf_X11_214 (by decide) (by decide) (zk_223 hL) rfl ?_
          refine zj_imul dX11_step_75 ?_
          refine zj_istore_n (ls2 := [.ref 223, .int y1, .int ((4 : Int32) * (v17 223 17)), .null]) dX11_step_76 rfl (by decide) rfl rfl ?_
          refine zj_aload_n dX11_step_77 rfl rfl ?_
          refine zj_getR (ci := 11) (j := 15) dX11_step_78 wf_X11_46 (by decide) (by decide) (zk_223 hL) rfl (zr_223_15 hL) ?_
          refine zj_iload_n dX11_step_81 rfl rfl ?_
          refine zj_iload_n dX11_step_82 rfl rfl ?_
          refine zj_iastore dX11_step_83 (zk_234 hL) (by rw [(zl_234 hL)]; exact h.1) (fun v18 ev18 => ?_)
          replace h := h.2 v18 ev18
          refine zj_aload_n dX11_step_84 rfl rfl ?_
          refine zj_dup dX11_step_85 rfl ?_
          refine zj_getI (ci := 11) (j := 17) dX11_step_86 wf_X11_214 (by decide) (by decide) (zk_223 hL) rfl ?_
          refine zj_iconst (x := 1) dX11_step_89 rfl ?_
          refine zj_iadd dX11_step_90 ?_
          refine zj_putI (ci := 11) (j := 17) dX11_step_91 wf_X11_214 (by decide) (by decide) (zk_223 hL) rfl rfl rfl rfl (fun v19 ev19 => ?_)
          replace h := h v19 ev19
          refine zj_aload_n dX11_step_94 rfl rfl ?_
          refine zj_callV (M' := mX11_d) (avs := []) (st := []) (ci := 11) dX11_step_95 wm_X11_d wl_X11_140 wi_X11_d ws_X11_d (by decide) (zk_223 hL) rfl rfl (by decide) rfl (Nat.le_of_ble_eq_true rfl) (Nat.le_of_ble_eq_true rfl) ⟨Or.inl (z_k0 (zk_223 hL)), trivial⟩ trivial (hp_X11_d hL ?_)
          refine zj_iconst (x := 1) dX11_step_98 rfl ?_
          refine zj_isub dX11_step_99 ?_
          refine zj_istore_n (ls2 := [.ref 223, .int y1, .int ((4 : Int32) * (v17 223 17)), .int ((v19 224 0) - 1)]) dX11_step_100 rfl (by decide) rfl rfl ?_
          refine zj_iload_n dX11_step_101 rfl rfl ?_
          by_cases c3 : y1 = 3
          · refine zj_tabIn (tgt := 136) dX11_step_102 (by rw [c3]; decide) (by rw [c3]; decide) (by rw [c3]; rfl) (by decide) ?_
            replace h := h.1 c3
            refine zj_aload_n dX11_step_136 rfl rfl ?_
            refine zj_iload_n dX11_step_137 rfl rfl ?_
            refine zj_iconst (x := 1) dX11_step_138 rfl ?_
            refine zj_iadd dX11_step_139 ?_
            refine zj_callV (M' := mX11_kind) (avs := [.int (((4 : Int32) * (v17 223 17)) + 1)]) (st := []) (ci := 11) dX11_step_140 wm_X11_kind wl_X11_220 wi_X11_kind ws_X11_kind (by decide) (zk_223 hL) rfl rfl (by decide) rfl (Nat.le_of_ble_eq_true rfl) (Nat.le_of_ble_eq_true rfl) ⟨Or.inl (z_k0 (zk_223 hL)), trivial⟩ trivial (z_J.mono h (fun r S1 v20 hq => ?_))
            obtain ⟨y14, rfl, rfl, h⟩ := hq
            refine zj_if_eq (tgt := 167) dX11_step_143 (by decide) (fun c => ?_) (fun c => ?_)
            · replace h := h.1 c
              refine zj_iconst (x := 0) dX11_step_167 rfl ?_
              exact zj_iret dX11_step_168 rfl (by decide) h
            · replace h := h.2 c
              refine zj_aload_n dX11_step_146 rfl rfl ?_
              refine zj_iload_n dX11_step_147 rfl rfl ?_
              refine zj_iconst (x := 2) dX11_step_148 rfl ?_
              refine zj_iadd dX11_step_149 ?_
              refine zj_iconst (x := 0) dX11_step_150 rfl ?_
              refine zj_aload_n dX11_step_151 rfl rfl ?_
              refine zj_getI (ci := 11) (j := 14) dX11_step_152 wf_X11_151 (by decide) (by decide) (zk_223 hL) rfl ?_
              refine zj_iconst (x := 1) dX11_step_155 rfl ?_
              refine zj_isub dX11_step_156 ?_
              refine zj_callV (M' := mX11_number) (avs := [.int (((4 : Int32) * (v17 223 17)) + 2), .int 0, .int ((v20 223 14) - 1)]) (st := []) (ci := 11) dX11_step_157 wm_X11_number wl_X11_223 wi_X11_number ws_X11_number (by decide) (zk_223 hL) rfl rfl (by decide) rfl (Nat.le_of_ble_eq_true rfl) (Nat.le_of_ble_eq_true rfl) ⟨Or.inl (z_k0 (zk_223 hL)), trivial⟩ trivial (z_J.mono h (fun r S1 v21 hq => ?_))
              obtain ⟨y15, rfl, rfl, h⟩ := hq
              refine zj_if_eq (tgt := 167) dX11_step_160 (by decide) (fun c => ?_) (fun c => ?_)
              · replace h := h.1 c
                refine zj_iconst (x := 0) dX11_step_167 rfl ?_
                exact zj_iret dX11_step_168 rfl (by decide) h
              · replace h := h.2 c
                refine zj_iconst (x := 1) dX11_step_163 rfl ?_
                refine zj_goto (tgt := 168) dX11_step_164 (by decide) ?_
                exact zj_iret dX11_step_168 rfl (by decide) h
          by_cases c4 : y1 = 4
          · refine zj_tabIn (tgt := 169) dX11_step_102 (by rw [c4]; decide) (by rw [c4]; decide) (by rw [c4]; rfl) (by decide) ?_
            replace h := h.2.1 c4
            refine zj_iconst (x := 1) dX11_step_169 rfl ?_
            exact zj_iret dX11_step_170 rfl (by decide) h
          by_cases c5 : y1 = 5
          · refine zj_tabIn (tgt := 171) dX11_step_102 (by rw [c5]; decide) (by rw [c5]; decide) (by rw [c5]; rfl) (by decide) ?_
            replace h := h.2.2.1 c5
            refine zj_aload_n dX11_step_171 rfl rfl ?_
            refine zj_iload_n dX11_step_172 rfl rfl ?_
            refine zj_iconst (x := 1) dX11_step_173 rfl ?_
            refine zj_iadd dX11_step_174 ?_
            refine zj_iconst (x := 0) dX11_step_175 rfl ?_
            refine zj_iload_n dX11_step_176 rfl rfl ?_
            refine zj_callV (M' := mX11_number) (avs := [.int (((4 : Int32) * (v17 223 17)) + 1), .int 0, .int ((v19 224 0) - 1)]) (st := []) (ci := 11) dX11_step_177 wm_X11_number wl_X11_223 wi_X11_number ws_X11_number (by decide) (zk_223 hL) rfl rfl (by decide) rfl (Nat.le_of_ble_eq_true rfl) (Nat.le_of_ble_eq_true rfl) ⟨Or.inl (z_k0 (zk_223 hL)), trivial⟩ trivial (z_J.mono h (fun r S1 v22 hq => ?_))
            obtain ⟨y16, rfl, rfl, h⟩ := hq
            refine zj_if_eq (tgt := 212) dX11_step_180 (by decide) (fun c => ?_) (fun c => ?_)
            · replace h := h.1 c
              refine zj_iconst (x := 0) dX11_step_212 rfl ?_
              exact zj_iret dX11_step_213 rfl (by decide) h
            · replace h := h.2 c
              refine zj_aload_n dX11_step_183 rfl rfl ?_
              refine zj_iload_n dX11_step_184 rfl rfl ?_
              refine zj_iconst (x := 2) dX11_step_185 rfl ?_
              refine zj_iadd dX11_step_186 ?_
              refine zj_iconst (x := 0) dX11_step_187 rfl ?_
              refine zj_iload_n dX11_step_188 rfl rfl ?_
              refine zj_callV (M' := mX11_number) (avs := [.int (((4 : Int32) * (v17 223 17)) + 2), .int 0, .int ((v19 224 0) - 1)]) (st := []) (ci := 11) dX11_step_189 wm_X11_number wl_X11_223 wi_X11_number ws_X11_number (by decide) (zk_223 hL) rfl rfl (by decide) rfl (Nat.le_of_ble_eq_true rfl) (Nat.le_of_ble_eq_true rfl) ⟨Or.inl (z_k0 (zk_223 hL)), trivial⟩ trivial (z_J.mono h (fun r S1 v23 hq => ?_))
              obtain ⟨y17, rfl, rfl, h⟩ := hq
              refine zj_if_eq (tgt := 212) dX11_step_192 (by decide) (fun c => ?_) (fun c => ?_)
              · replace h := h.1 c
                refine zj_iconst (x := 0) dX11_step_212 rfl ?_
                exact zj_iret dX11_step_213 rfl (by decide) h
              · replace h := h.2 c
                refine zj_aload_n dX11_step_195 rfl rfl ?_
                refine zj_iload_n dX11_step_196 rfl rfl ?_
                refine zj_iconst (x := 3) dX11_step_197 rfl ?_
                refine zj_iadd dX11_step_198 ?_
                refine zj_iconst (x := 1) dX11_step_199 rfl ?_
                refine zj_bipush (x := 9) dX11_step_200 rfl ?_
                refine zj_callV (M' := mX11_number) (avs := [.int (((4 : Int32) * (v17 223 17)) + 3), .int 1, .int 9]) (st := []) (ci := 11) dX11_step_202 wm_X11_number wl_X11_223 wi_X11_number ws_X11_number (by decide) (zk_223 hL) rfl rfl (by decide) rfl (Nat.le_of_ble_eq_true rfl) (Nat.le_of_ble_eq_true rfl) ⟨Or.inl (z_k0 (zk_223 hL)), trivial⟩ trivial (z_J.mono h (fun r S1 v24 hq => ?_))
                obtain ⟨y18, rfl, rfl, h⟩ := hq
                refine zj_if_eq (tgt := 212) dX11_step_205 (by decide) (fun c => ?_) (fun c => ?_)
                · replace h := h.1 c
                  refine zj_iconst (x := 0) dX11_step_212 rfl ?_
                  exact zj_iret dX11_step_213 rfl (by decide) h
                · replace h := h.2 c
                  refine zj_iconst (x := 1) dX11_step_208 rfl ?_
                  refine zj_goto (tgt := 213) dX11_step_209 (by decide) ?_
                  exact zj_iret dX11_step_213 rfl (by decide) h
          by_cases c6 : y1 = 6
          · refine zj_tabIn (tgt := 214) dX11_step_102 (by rw [c6]; decide) (by rw [c6]; decide) (by rw [c6]; rfl) (by decide) ?_
            replace h := h.2.2.2.1 c6
            refine zj_aload_n dX11_step_214 rfl rfl ?_
            refine zj_iload_n dX11_step_215 rfl rfl ?_
            refine zj_iconst (x := 1) dX11_step_216 rfl ?_
            refine zj_iadd dX11_step_217 ?_
            refine zj_callV (M' := mX11_kind) (avs := [.int (((4 : Int32) * (v17 223 17)) + 1)]) (st := []) (ci := 11) dX11_step_218 wm_X11_kind wl_X11_220 wi_X11_kind ws_X11_kind (by decide) (zk_223 hL) rfl rfl (by decide) rfl (Nat.le_of_ble_eq_true rfl) (Nat.le_of_ble_eq_true rfl) ⟨Or.inl (z_k0 (zk_223 hL)), trivial⟩ trivial (z_J.mono h (fun r S1 v25 hq => ?_))
            obtain ⟨y19, rfl, rfl, h⟩ := hq
            refine zj_if_eq (tgt := 258) dX11_step_221 (by decide) (fun c => ?_) (fun c => ?_)
            · replace h := h.1 c
              refine zj_iconst (x := 0) dX11_step_258 rfl ?_
              exact zj_iret dX11_step_259 rfl (by decide) h
            · replace h := h.2 c
              refine zj_aload_n dX11_step_224 rfl rfl ?_
              refine zj_iload_n dX11_step_225 rfl rfl ?_
              refine zj_iconst (x := 2) dX11_step_226 rfl ?_
              refine zj_iadd dX11_step_227 ?_
              refine zj_iconst (x := 0) dX11_step_228 rfl ?_
              refine zj_aload_n dX11_step_229 rfl rfl ?_
              refine zj_getI (ci := 11) (j := 14) dX11_step_230 wf_X11_151 (by decide) (by decide) (zk_223 hL) rfl ?_
              refine zj_iconst (x := 1) dX11_step_233 rfl ?_
              refine zj_isub dX11_step_234 ?_
              refine zj_callV (M' := mX11_number) (avs := [.int (((4 : Int32) * (v17 223 17)) + 2), .int 0, .int ((v25 223 14) - 1)]) (st := []) (ci := 11) dX11_step_235 wm_X11_number wl_X11_223 wi_X11_number ws_X11_number (by decide) (zk_223 hL) rfl rfl (by decide) rfl (Nat.le_of_ble_eq_true rfl) (Nat.le_of_ble_eq_true rfl) ⟨Or.inl (z_k0 (zk_223 hL)), trivial⟩ trivial (z_J.mono h (fun r S1 v26 hq => ?_))
              obtain ⟨y20, rfl, rfl, h⟩ := hq
              refine zj_if_eq (tgt := 258) dX11_step_238 (by decide) (fun c => ?_) (fun c => ?_)
              · replace h := h.1 c
                refine zj_iconst (x := 0) dX11_step_258 rfl ?_
                exact zj_iret dX11_step_259 rfl (by decide) h
              · replace h := h.2 c
                refine zj_aload_n dX11_step_241 rfl rfl ?_
                refine zj_iload_n dX11_step_242 rfl rfl ?_
                refine zj_iconst (x := 3) dX11_step_243 rfl ?_
                refine zj_iadd dX11_step_244 ?_
                refine zj_iconst (x := 1) dX11_step_245 rfl ?_
                refine zj_bipush (x := 9) dX11_step_246 rfl ?_
                refine zj_callV (M' := mX11_number) (avs := [.int (((4 : Int32) * (v17 223 17)) + 3), .int 1, .int 9]) (st := []) (ci := 11) dX11_step_248 wm_X11_number wl_X11_223 wi_X11_number ws_X11_number (by decide) (zk_223 hL) rfl rfl (by decide) rfl (Nat.le_of_ble_eq_true rfl) (Nat.le_of_ble_eq_true rfl) ⟨Or.inl (z_k0 (zk_223 hL)), trivial⟩ trivial (z_J.mono h (fun r S1 v27 hq => ?_))
                obtain ⟨y21, rfl, rfl, h⟩ := hq
                refine zj_if_eq (tgt := 258) dX11_step_251 (by decide) (fun c => ?_) (fun c => ?_)
                · replace h := h.1 c
                  refine zj_iconst (x := 0) dX11_step_258 rfl ?_
                  exact zj_iret dX11_step_259 rfl (by decide) h
                · replace h := h.2 c
                  refine zj_iconst (x := 1) dX11_step_254 rfl ?_
                  refine zj_goto (tgt := 259) dX11_step_255 (by decide) ?_
                  exact zj_iret dX11_step_259 rfl (by decide) h
          by_cases c7 : y1 = 7
          · refine zj_tabIn (tgt := 260) dX11_step_102 (by rw [c7]; decide) (by rw [c7]; decide) (by rw [c7]; rfl) (by decide) ?_
            replace h := h.2.2.2.2.1 c7
            refine zj_aload_n dX11_step_260 rfl rfl ?_
            refine zj_iload_n dX11_step_261 rfl rfl ?_
            refine zj_iconst (x := 1) dX11_step_262 rfl ?_
            refine zj_iadd dX11_step_263 ?_
            refine zj_iconst (x := 1) dX11_step_264 rfl ?_
            refine zj_bipush (x := 9) dX11_step_265 rfl ?_
            refine zj_callV (M' := mX11_number) (avs := [.int (((4 : Int32) * (v17 223 17)) + 1), .int 1, .int 9]) (st := []) (ci := 11) dX11_step_267 wm_X11_number wl_X11_223 wi_X11_number ws_X11_number (by decide) (zk_223 hL) rfl rfl (by decide) rfl (Nat.le_of_ble_eq_true rfl) (Nat.le_of_ble_eq_true rfl) ⟨Or.inl (z_k0 (zk_223 hL)), trivial⟩ trivial (z_J.mono h (fun r S1 v28 hq => ?_))
            obtain ⟨y22, rfl, rfl, h⟩ := hq
            refine zj_if_eq (tgt := 286) dX11_step_270 (by decide) (fun c => ?_) (fun c => ?_)
            · replace h := h.1 c
              refine zj_iconst (x := 0) dX11_step_286 rfl ?_
              exact zj_iret dX11_step_287 rfl (by decide) h
            · replace h := h.2 c
              refine zj_aload_n dX11_step_273 rfl rfl ?_
              refine zj_bipush (x := 91) dX11_step_274 rfl ?_
              refine zj_callV (M' := mX11_sign) (avs := [.int 91]) (st := []) (ci := 11) dX11_step_276 wm_X11_sign wl_X11_226 wi_X11_sign ws_X11_sign (by decide) (zk_223 hL) rfl rfl (by decide) rfl (Nat.le_of_ble_eq_true rfl) (Nat.le_of_ble_eq_true rfl) ⟨Or.inl (z_k0 (zk_223 hL)), trivial⟩ trivial (z_J.mono h (fun r S1 v29 hq => ?_))
              obtain ⟨y23, rfl, rfl, h⟩ := hq
              refine zj_if_eq (tgt := 286) dX11_step_279 (by decide) (fun c => ?_) (fun c => ?_)
              · replace h := h.1 c
                refine zj_iconst (x := 0) dX11_step_286 rfl ?_
                exact zj_iret dX11_step_287 rfl (by decide) h
              · replace h := h.2 c
                refine zj_iconst (x := 1) dX11_step_282 rfl ?_
                refine zj_goto (tgt := 287) dX11_step_283 (by decide) ?_
                exact zj_iret dX11_step_287 rfl (by decide) h
          refine zj_tabOut (tgt := 288) dX11_step_102 (z_out_3_7 c3 c4 c5 c6 c7) (by decide) ?_
          replace h := h.2.2.2.2.2 c3 c4 c5 c6 c7
          refine zj_aload_n dX11_step_288 rfl rfl ?_
          refine zj_iload_n dX11_step_289 rfl rfl ?_
          refine zj_iconst (x := 1) dX11_step_290 rfl ?_
          refine zj_iadd dX11_step_291 ?_
          refine zj_iconst (x := 0) dX11_step_292 rfl ?_
          refine zj_iload_n dX11_step_293 rfl rfl ?_
          refine zj_callV (M' := mX11_number) (avs := [.int (((4 : Int32) * (v17 223 17)) + 1), .int 0, .int ((v19 224 0) - 1)]) (st := []) (ci := 11) dX11_step_294 wm_X11_number wl_X11_223 wi_X11_number ws_X11_number (by decide) (zk_223 hL) rfl rfl (by decide) rfl (Nat.le_of_ble_eq_true rfl) (Nat.le_of_ble_eq_true rfl) ⟨Or.inl (z_k0 (zk_223 hL)), trivial⟩ trivial (z_J.mono h (fun r S1 v30 hq => ?_))
          obtain ⟨y24, rfl, rfl, h⟩ := hq
          refine zj_if_eq (tgt := 316) dX11_step_297 (by decide) (fun c => ?_) (fun c => ?_)
          · replace h := h.1 c
            refine zj_iconst (x := 0) dX11_step_316 rfl ?_
            exact zj_iret dX11_step_317 rfl (by decide) h
          · replace h := h.2 c
            refine zj_aload_n dX11_step_300 rfl rfl ?_
            refine zj_iload_n dX11_step_301 rfl rfl ?_
            refine zj_iconst (x := 2) dX11_step_302 rfl ?_
            refine zj_iadd dX11_step_303 ?_
            refine zj_iconst (x := 0) dX11_step_304 rfl ?_
            refine zj_iload_n dX11_step_305 rfl rfl ?_
            refine zj_callV (M' := mX11_number) (avs := [.int (((4 : Int32) * (v17 223 17)) + 2), .int 0, .int ((v19 224 0) - 1)]) (st := []) (ci := 11) dX11_step_306 wm_X11_number wl_X11_223 wi_X11_number ws_X11_number (by decide) (zk_223 hL) rfl rfl (by decide) rfl (Nat.le_of_ble_eq_true rfl) (Nat.le_of_ble_eq_true rfl) ⟨Or.inl (z_k0 (zk_223 hL)), trivial⟩ trivial (z_J.mono h (fun r S1 v31 hq => ?_))
            obtain ⟨y25, rfl, rfl, h⟩ := hq
            refine zj_if_eq (tgt := 316) dX11_step_309 (by decide) (fun c => ?_) (fun c => ?_)
            · replace h := h.1 c
              refine zj_iconst (x := 0) dX11_step_316 rfl ?_
              exact zj_iret dX11_step_317 rfl (by decide) h
            · replace h := h.2 c
              refine zj_iconst (x := 1) dX11_step_312 rfl ?_
              refine zj_goto (tgt := 317) dX11_step_313 (by decide) ?_
              exact zj_iret dX11_step_317 rfl (by decide) h
        · replace h := h.2 c
          refine zj_aload_n dX11_step_52 rfl rfl ?_
          refine zj_iconst (x := 4) dX11_step_53 rfl ?_
          refine zj_aload_n dX11_step_54 rfl rfl ?_
          refine zj_getI (ci := 11) (j := 19) dX11_step_55 wf_X11_187 (by decide) (by decide) (zk_223 hL) rfl ?_
          refine zj_callV (M' := mX11_bad) (avs := [.int 4, .int (v1 223 19)]) (st := []) (ci := 11) dX11_step_58 wm_X11_bad wl_X11_208 wi_X11_bad ws_X11_bad (by decide) (zk_223 hL) rfl rfl (by decide) rfl (Nat.le_of_ble_eq_true rfl) (Nat.le_of_ble_eq_true rfl) ⟨Or.inl (z_k0 (zk_223 hL)), trivial⟩ trivial (z_J.mono h (fun r S1 v32 hq => ?_))
          obtain ⟨y26, rfl, rfl, h⟩ := hq
          exact zj_iret dX11_step_61 rfl h.1 h.2
    · replace h := h.2 c
      refine zj_aload_n dX11_step_28 rfl rfl ?_
      refine zj_iconst (x := 3) dX11_step_29 rfl ?_
      refine zj_aload_n dX11_step_30 rfl rfl ?_
      refine zj_getI (ci := 11) (j := 19) dX11_step_31 wf_X11_187 (by decide) (by decide) (zk_223 hL) rfl ?_
      refine zj_callV (M' := mX11_bad) (avs := [.int 3, .int (v1 223 19)]) (st := []) (ci := 11) dX11_step_34 wm_X11_bad wl_X11_208 wi_X11_bad ws_X11_bad (by decide) (zk_223 hL) rfl rfl (by decide) rfl (Nat.le_of_ble_eq_true rfl) (Nat.le_of_ble_eq_true rfl) ⟨Or.inl (z_k0 (zk_223 hL)), trivial⟩ trivial (z_J.mono h (fun r S1 v33 hq => ?_))
      obtain ⟨y27, rfl, rfl, h⟩ := hq
      exact zj_iret dX11_step_37 rfl h.1 h.2
  · replace h := h.2 c
    refine zj_aload_n dX11_step_9 rfl rfl ?_
    refine zj_iconst (x := 1) dX11_step_10 rfl ?_
    refine zj_aload_n dX11_step_11 rfl rfl ?_
    refine zj_getI (ci := 11) (j := 19) dX11_step_12 wf_X11_187 (by decide) (by decide) (zk_223 hL) rfl ?_
    refine zj_callV (M' := mX11_bad) (avs := [.int 1, .int (v1 223 19)]) (st := []) (ci := 11) dX11_step_15 wm_X11_bad wl_X11_208 wi_X11_bad ws_X11_bad (by decide) (zk_223 hL) rfl rfl (by decide) rfl (Nat.le_of_ble_eq_true rfl) (Nat.le_of_ble_eq_true rfl) ⟨Or.inl (z_k0 (zk_223 hL)), trivial⟩ trivial (z_J.mono h (fun r S1 v34 hq => ?_))
    obtain ⟨y28, rfl, rfl, h⟩ := hq
    exact zj_iret dX11_step_18 rfl h.1 h.2
theorem sg_X11_thrown_0 {G : z_G} {d : Nat} {S : z_Shp} {v : z_Dat} {Q : Option Value → z_Shp → z_Dat → Prop} (hL : z_L S)
    (h : Q (some (.int (v 223 0))) S v) :
    z_J G d mX11_thrown (0, [.ref 223], [], S, v) Q := by
  refine zj_aload_n dX11_thrown_0 rfl rfl ?_
  refine zj_getI (ci := 11) (j := 0) dX11_thrown_1 wf_X11_1 (by decide) (by decide) (zk_223 hL) rfl ?_
  exact zj_iret dX11_thrown_4 rfl rfl h
theorem sg_X11_throwsIf_0 {G : z_G} {d : Nat} {S : z_Shp} {v : z_Dat} {Q : Option Value → z_Shp → z_Dat → Prop} {x1 : Int32} (hL : z_L S)
    (h : (x1 = 0 → (∀ v1, v1 = z_u v 223 0 0 → (narrow .boolean (.int x1) = .int x1 ∧ Q (some (.int x1)) S v1))) ∧ (¬ x1 = 0 → (∀ v2, v2 = z_u v 223 0 1 → (narrow .boolean (.int x1) = .int x1 ∧ Q (some (.int x1)) S v2)))) :
    z_J G d mX11_throwsIf (0, [.ref 223, .int x1], [], S, v) Q := by
  refine zj_aload_n dX11_throwsIf_0 rfl rfl ?_
  refine zj_iload_n dX11_throwsIf_1 rfl rfl ?_
  refine zj_if_eq (tgt := 9) dX11_throwsIf_2 (by decide) (fun c => ?_) (fun c => ?_)
  · replace h := h.1 c
    refine zj_iconst (x := 0) dX11_throwsIf_9 rfl ?_
    refine zj_putI (ci := 11) (j := 0) dX11_throwsIf_10 wf_X11_1 (by decide) (by decide) (zk_223 hL) rfl rfl rfl rfl (fun v1 ev1 => ?_)
    replace h := h v1 ev1
    refine zj_iload_n dX11_throwsIf_13 rfl rfl ?_
    exact zj_iret dX11_throwsIf_14 rfl h.1 h.2
  · replace h := h.2 c
    refine zj_iconst (x := 1) dX11_throwsIf_5 rfl ?_
    refine zj_goto (tgt := 10) dX11_throwsIf_6 (by decide) ?_
    refine zj_putI (ci := 11) (j := 0) dX11_throwsIf_10 wf_X11_1 (by decide) (by decide) (zk_223 hL) rfl rfl rfl rfl (fun v2 ev2 => ?_)
    replace h := h v2 ev2
    refine zj_iload_n dX11_throwsIf_13 rfl rfl ?_
    exact zj_iret dX11_throwsIf_14 rfl h.1 h.2
theorem sg_X11_times_0 {G : z_G} {d : Nat} {S : z_Shp} {v : z_Dat} {Q : Option Value → z_Shp → z_Dat → Prop} {x0 : Int64} {x2 : Int64}
    (h : ((lg_cmp x0 0) < 0 → (Q (some (.long (-1))) S v)) ∧ (¬ (lg_cmp x0 0) < 0 → (((lg_cmp x2 0) ≤ 0 → (Q (some (.long (x0 * x2))) S v)) ∧ (¬ (lg_cmp x2 0) ≤ 0 → ((¬ x2 = 0) ∧ (((lg_cmp x0 (9223372036854775807 / x2)) ≤ 0 → (Q (some (.long (x0 * x2))) S v)) ∧ (¬ (lg_cmp x0 (9223372036854775807 / x2)) ≤ 0 → (Q (some (.long (-1))) S v)))))))) :
    z_J G d mX11_times (0, [.long x0, .null, .long x2, .null], [], S, v) Q := by
  refine zj_lload_n dX11_times_0 rfl rfl ?_
  refine zj_lconst (x := 0) dX11_times_1 rfl ?_
  refine zj_lcmp dX11_times_2 ?_
  refine zj_if_lt (tgt := 22) dX11_times_3 (by decide) (fun c => ?_) (fun c => ?_)
  · replace h := h.1 c
    refine zj_ldc2 (x := (-1)) dX11_times_22 wc_X11_382 ?_
    refine zj_goto (tgt := 31) dX11_times_25 (by decide) ?_
    exact zj_lret dX11_times_31 rfl h
  · replace h := h.2 c
    refine zj_lload_n dX11_times_6 rfl rfl ?_
    refine zj_lconst (x := 0) dX11_times_7 rfl ?_
    refine zj_lcmp dX11_times_8 ?_
    refine zj_if_le (tgt := 28) dX11_times_9 (by decide) (fun c => ?_) (fun c => ?_)
    · replace h := h.1 c
      refine zj_lload_n dX11_times_28 rfl rfl ?_
      refine zj_lload_n dX11_times_29 rfl rfl ?_
      refine zj_lmul dX11_times_30 ?_
      exact zj_lret dX11_times_31 rfl h
    · replace h := h.2 c
      refine zj_lload_n dX11_times_12 rfl rfl ?_
      refine zj_ldc2 (x := 9223372036854775807) dX11_times_13 wc_X11_380 ?_
      refine zj_lload_n dX11_times_16 rfl rfl ?_
      refine zj_ldiv dX11_times_17 h.1 ?_
      replace h := h.2
      refine zj_lcmp dX11_times_18 ?_
      refine zj_if_le (tgt := 28) dX11_times_19 (by decide) (fun c => ?_) (fun c => ?_)
      · replace h := h.1 c
        refine zj_lload_n dX11_times_28 rfl rfl ?_
        refine zj_lload_n dX11_times_29 rfl rfl ?_
        refine zj_lmul dX11_times_30 ?_
        exact zj_lret dX11_times_31 rfl h
      · replace h := h.2 c
        refine zj_ldc2 (x := (-1)) dX11_times_22 wc_X11_382 ?_
        refine zj_goto (tgt := 31) dX11_times_25 (by decide) ?_
        exact zj_lret dX11_times_31 rfl h
theorem sg_X11_undo_0 {G : z_G} {d : Nat} {S : z_Shp} {v : z_Dat} {Q : Option Value → z_Shp → z_Dat → Prop} (hL : z_L S)
    (h : ∀ v1, v1 = z_u v 223 0 0 → ((¬ (v1 223 6) = 0 → (∀ v2, v2 = z_u v1 223 6 ((v1 223 6) - 1) → (z_J G d mX11_copies (0, [.ref 223, .ref 226, .int ((71 : Int32) * (v2 223 6)), .ref 224, .int 0, .null], [], S, v2) (fun r S1 v3 => r = none ∧ S1 = S ∧ (Q (some (.int (v3 223 6))) S v3))))) ∧ ((v1 223 6) = 0 → (Q (some (.int (-1))) S v1)))) :
    z_J G (d + 1) mX11_undo (0, [.ref 223], [], S, v) Q := by
  refine zj_aload_n dX11_undo_0 rfl rfl ?_
  refine zj_iconst (x := 0) dX11_undo_1 rfl ?_
  refine zj_putI (ci := 11) (j := 0) dX11_undo_2 wf_X11_1 (by decide) (by decide) (zk_223 hL) rfl rfl rfl rfl (fun v1 ev1 => ?_)
  replace h := h v1 ev1
  refine zj_aload_n dX11_undo_5 rfl rfl ?_
  refine zj_getI (ci := 11) (j := 6) dX11_undo_6 wf_X11_180 (by decide) (by decide) (zk_223 hL) rfl ?_
  refine zj_if_ne (tgt := 14) dX11_undo_9 (by decide) (fun c => ?_) (fun c => ?_)
  · replace h := h.1 c
    refine zj_aload_n dX11_undo_14 rfl rfl ?_
    refine zj_dup dX11_undo_15 rfl ?_
    refine zj_getI (ci := 11) (j := 6) dX11_undo_16 wf_X11_180 (by decide) (by decide) (zk_223 hL) rfl ?_
    refine zj_iconst (x := 1) dX11_undo_19 rfl ?_
    refine zj_isub dX11_undo_20 ?_
    refine zj_putI (ci := 11) (j := 6) dX11_undo_21 wf_X11_180 (by decide) (by decide) (zk_223 hL) rfl rfl rfl rfl (fun v2 ev2 => ?_)
    replace h := h v2 ev2
    refine zj_aload_n dX11_undo_24 rfl rfl ?_
    refine zj_aload_n dX11_undo_25 rfl rfl ?_
    refine zj_getR (ci := 11) (j := 3) dX11_undo_26 wf_X11_20 (by decide) (by decide) (zk_223 hL) rfl (zr_223_3 hL) ?_
    refine zj_bipush (x := 71) dX11_undo_29 rfl ?_
    refine zj_aload_n dX11_undo_31 rfl rfl ?_
    refine zj_getI (ci := 11) (j := 6) dX11_undo_32 wf_X11_180 (by decide) (by decide) (zk_223 hL) rfl ?_
    refine zj_imul dX11_undo_35 ?_
    refine zj_aload_n dX11_undo_36 rfl rfl ?_
    refine zj_getR (ci := 11) (j := 1) dX11_undo_37 wf_X11_13 (by decide) (by decide) (zk_223 hL) rfl (zr_223_1 hL) ?_
    refine zj_iconst (x := 0) dX11_undo_40 rfl ?_
    refine zj_callV (M' := mX11_copies) (avs := [.ref 226, .int ((71 : Int32) * (v2 223 6)), .ref 224, .int 0]) (st := []) (ci := 11) dX11_undo_41 wm_X11_copies wl_X11_183 wi_X11_copies ws_X11_copies (by decide) (zk_223 hL) rfl rfl (by decide) rfl (Nat.le_of_ble_eq_true rfl) (Nat.le_of_ble_eq_true rfl) ⟨Or.inl (z_k0 (zk_223 hL)), trivial⟩ trivial (z_J.mono h (fun r S1 v3 hq => ?_))
    obtain ⟨rfl, rfl, h⟩ := hq
    refine zj_aload_n dX11_undo_44 rfl rfl ?_
    refine zj_getI (ci := 11) (j := 6) dX11_undo_45 wf_X11_180 (by decide) (by decide) (zk_223 hL) rfl ?_
    exact zj_iret dX11_undo_48 rfl rfl h
  · replace h := h.2 c
    refine zj_iconst (x := (-1)) dX11_undo_12 rfl ?_
    exact zj_iret dX11_undo_13 rfl rfl h
theorem sg_X11_unites_0 {G : z_G} {d : Nat} {S : z_Shp} {v : z_Dat} {Q : Option Value → z_Shp → z_Dat → Prop} {x1 : Int32} {x2 : Int32} (hL : z_L S)
    (h : z_J G d mX11_leaderOf (0, [.ref 223, .int x1, .null], [], S, v) (fun r S1 v1 => ∃ y1 : Int32, r = some (.int y1) ∧ S1 = S ∧ (z_J G d mX11_leaderOf (0, [.ref 223, .int x2, .null], [], S, v1) (fun r S1 v2 => ∃ y2 : Int32, r = some (.int y2) ∧ S1 = S ∧ ((y1 ≤ y2 → ((y1 ≤ y2 → (vp_in y1 109 ∧ (∀ v3, v3 = z_u v2 250 y1.toNatClampNeg y2 → (Q none S v3)))) ∧ (¬ y1 ≤ y2 → (vp_in y1 109 ∧ (∀ v4, v4 = z_u v2 250 y1.toNatClampNeg y1 → (Q none S v4)))))) ∧ (¬ y1 ≤ y2 → ((y1 ≤ y2 → (vp_in y2 109 ∧ (∀ v5, v5 = z_u v2 250 y2.toNatClampNeg y2 → (Q none S v5)))) ∧ (¬ y1 ≤ y2 → (vp_in y2 109 ∧ (∀ v6, v6 = z_u v2 250 y2.toNatClampNeg y1 → (Q none S v6))))))))))) :
    z_J G (d + 1) mX11_unites (0, [.ref 223, .int x1, .int x2, .null, .null], [], S, v) Q := by
  refine zj_aload_n dX11_unites_0 rfl rfl ?_
  refine zj_iload_n dX11_unites_1 rfl rfl ?_
  refine zj_callV (M' := mX11_leaderOf) (avs := [.int x1]) (st := []) (ci := 11) dX11_unites_2 wm_X11_leaderOf wl_X11_308 wi_X11_leaderOf ws_X11_leaderOf (by decide) (zk_223 hL) rfl rfl (by decide) rfl (Nat.le_of_ble_eq_true rfl) (Nat.le_of_ble_eq_true rfl) ⟨Or.inl (z_k0 (zk_223 hL)), trivial⟩ trivial (z_J.mono h (fun r S1 v1 hq => ?_))
  obtain ⟨y1, rfl, rfl, h⟩ := hq
  refine zj_istore_n (ls2 := [.ref 223, .int x1, .int x2, .int y1, .null]) dX11_unites_5 rfl (by decide) rfl rfl ?_
  refine zj_aload_n dX11_unites_6 rfl rfl ?_
  refine zj_iload_n dX11_unites_7 rfl rfl ?_
  refine zj_callV (M' := mX11_leaderOf) (avs := [.int x2]) (st := []) (ci := 11) dX11_unites_8 wm_X11_leaderOf wl_X11_308 wi_X11_leaderOf ws_X11_leaderOf (by decide) (zk_223 hL) rfl rfl (by decide) rfl (Nat.le_of_ble_eq_true rfl) (Nat.le_of_ble_eq_true rfl) ⟨Or.inl (z_k0 (zk_223 hL)), trivial⟩ trivial (z_J.mono h (fun r S1 v2 hq => ?_))
  obtain ⟨y2, rfl, rfl, h⟩ := hq
  refine zj_istore (ls2 := [.ref 223, .int x1, .int x2, .int y1, .int y2]) dX11_unites_11 (by decide) rfl rfl ?_
  refine zj_aload_n dX11_unites_13 rfl rfl ?_
  refine zj_getR (ci := 11) (j := 44) dX11_unites_14 wf_X11_94 (by decide) (by decide) (zk_223 hL) rfl (zr_223_44 hL) ?_
  refine zj_iload_n dX11_unites_17 rfl rfl ?_
  refine zj_iload dX11_unites_18 rfl ?_
  refine zj_icmp_le (tgt := 28) dX11_unites_20 (by decide) (fun c => ?_) (fun c => ?_)
  · replace h := h.1 c
    refine zj_iload_n dX11_unites_28 rfl rfl ?_
    refine zj_iload_n dX11_unites_29 rfl rfl ?_
    refine zj_iload dX11_unites_30 rfl ?_
    refine zj_icmp_le (tgt := 39) dX11_unites_32 (by decide) (fun c => ?_) (fun c => ?_)
    · replace h := h.1 c
      refine zj_iload dX11_unites_39 rfl ?_
      refine zj_iastore dX11_unites_41 (zk_250 hL) (by rw [(zl_250 hL)]; exact h.1) (fun v3 ev3 => ?_)
      replace h := h.2 v3 ev3
      exact zj_vret dX11_unites_42 rfl h
    · replace h := h.2 c
      refine zj_iload_n dX11_unites_35 rfl rfl ?_
      refine zj_goto (tgt := 41) dX11_unites_36 (by decide) ?_
      refine zj_iastore dX11_unites_41 (zk_250 hL) (by rw [(zl_250 hL)]; exact h.1) (fun v4 ev4 => ?_)
      replace h := h.2 v4 ev4
      exact zj_vret dX11_unites_42 rfl h
  · replace h := h.2 c
    refine zj_iload dX11_unites_23 rfl ?_
    refine zj_goto (tgt := 29) dX11_unites_25 (by decide) ?_
    refine zj_iload_n dX11_unites_29 rfl rfl ?_
    refine zj_iload dX11_unites_30 rfl ?_
    refine zj_icmp_le (tgt := 39) dX11_unites_32 (by decide) (fun c => ?_) (fun c => ?_)
    · replace h := h.1 c
      refine zj_iload dX11_unites_39 rfl ?_
      refine zj_iastore dX11_unites_41 (zk_250 hL) (by rw [(zl_250 hL)]; exact h.1) (fun v5 ev5 => ?_)
      replace h := h.2 v5 ev5
      exact zj_vret dX11_unites_42 rfl h
    · replace h := h.2 c
      refine zj_iload_n dX11_unites_35 rfl rfl ?_
      refine zj_goto (tgt := 41) dX11_unites_36 (by decide) ?_
      refine zj_iastore dX11_unites_41 (zk_250 hL) (by rw [(zl_250 hL)]; exact h.1) (fun v6 ev6 => ?_)
      replace h := h.2 v6 ev6
      exact zj_vret dX11_unites_42 rfl h
theorem sg_X11_way_0 {G : z_G} {d : Nat} {S : z_Shp} {v : z_Dat} {Q : Option Value → z_Shp → z_Dat → Prop} {x1 : Int32} {x2 : Int32} {x3 : Int32} {x4 : Int32} (hL : z_L S)
    (h : ∀ v1, v1 = z_u v 223 0 0 → (z_J G d mX11_isPair (0, [.ref 223, .int x1, .int x2, .int x3], [], S, v1) (fun r S1 v2 => ∃ y1 : Int32, r = some (.int y1) ∧ S1 = S ∧ ((¬ y1 = 0 → (z_J G d mX11_aims (0, [.ref 223, .int x3], [], S, v2) (fun r S1 v3 => r = none ∧ S1 = S ∧ ((vp_in x2 108) ∧ (z_J G d mX11_laysWay (0, [.ref 223, .int (v3 242 x2.toNatClampNeg), .null, .null], [], S, v3) (fun r S1 v4 => r = none ∧ S1 = S ∧ (((0 ≤ x4 ∧ x4 ≤ ((v4 223 36) - 1)) → ((vp_in x4 321) ∧ (Q (some (.int (v4 243 x4.toNatClampNeg))) S v4))) ∧ (¬ (0 ≤ x4 ∧ x4 ≤ ((v4 223 36) - 1)) → (Q (some (.int (-1))) S v4))))))))) ∧ (y1 = 0 → (Q (some (.int (-1))) S v2)))))) :
    z_J G (d + 1) mX11_way (0, [.ref 223, .int x1, .int x2, .int x3, .int x4], [], S, v) Q := by
  refine zj_aload_n dX11_way_0 rfl rfl ?_
  refine zj_iconst (x := 0) dX11_way_1 rfl ?_
  refine zj_putI (ci := 11) (j := 0) dX11_way_2 wf_X11_1 (by decide) (by decide) (zk_223 hL) rfl rfl rfl rfl (fun v1 ev1 => ?_)
  replace h := h v1 ev1
  refine zj_aload_n dX11_way_5 rfl rfl ?_
  refine zj_iload_n dX11_way_6 rfl rfl ?_
  refine zj_iload_n dX11_way_7 rfl rfl ?_
  refine zj_iload_n dX11_way_8 rfl rfl ?_
  refine zj_callV (M' := mX11_isPair) (avs := [.int x1, .int x2, .int x3]) (st := []) (ci := 11) dX11_way_9 wm_X11_isPair wl_X11_276 wi_X11_isPair ws_X11_isPair (by decide) (zk_223 hL) rfl rfl (by decide) rfl (Nat.le_of_ble_eq_true rfl) (Nat.le_of_ble_eq_true rfl) ⟨Or.inl (z_k0 (zk_223 hL)), trivial⟩ trivial (z_J.mono h (fun r S1 v2 hq => ?_))
  obtain ⟨y1, rfl, rfl, h⟩ := hq
  refine zj_if_ne (tgt := 17) dX11_way_12 (by decide) (fun c => ?_) (fun c => ?_)
  · replace h := h.1 c
    refine zj_aload_n dX11_way_17 rfl rfl ?_
    refine zj_iload_n dX11_way_18 rfl rfl ?_
    refine zj_callV (M' := mX11_aims) (avs := [.int x3]) (st := []) (ci := 11) dX11_way_19 wm_X11_aims wl_X11_279 wi_X11_aims ws_X11_aims (by decide) (zk_223 hL) rfl rfl (by decide) rfl (Nat.le_of_ble_eq_true rfl) (Nat.le_of_ble_eq_true rfl) ⟨Or.inl (z_k0 (zk_223 hL)), trivial⟩ trivial (z_J.mono h (fun r S1 v3 hq => ?_))
    obtain ⟨rfl, rfl, h⟩ := hq
    refine zj_aload_n dX11_way_22 rfl rfl ?_
    refine zj_aload_n dX11_way_23 rfl rfl ?_
    refine zj_getR (ci := 11) (j := 30) dX11_way_24 wf_X11_70 (by decide) (by decide) (zk_223 hL) rfl (zr_223_30 hL) ?_
    refine zj_iload_n dX11_way_27 rfl rfl ?_
    refine zj_iaload dX11_way_28 (zk_242 hL) (by rw [(zl_242 hL)]; exact h.1) ?_
    replace h := h.2
    refine zj_callV (M' := mX11_laysWay) (avs := [.int (v3 242 x2.toNatClampNeg)]) (st := []) (ci := 11) dX11_way_29 wm_X11_laysWay wl_X11_282 wi_X11_laysWay ws_X11_laysWay (by decide) (zk_223 hL) rfl rfl (by decide) rfl (Nat.le_of_ble_eq_true rfl) (Nat.le_of_ble_eq_true rfl) ⟨Or.inl (z_k0 (zk_223 hL)), trivial⟩ trivial (z_J.mono h (fun r S1 v4 hq => ?_))
    obtain ⟨rfl, rfl, h⟩ := hq
    refine zj_iload dX11_way_32 rfl ?_
    refine zj_iconst (x := 0) dX11_way_34 rfl ?_
    refine zj_aload_n dX11_way_35 rfl rfl ?_
    refine zj_getI (ci := 11) (j := 36) dX11_way_36 wf_X11_264 (by decide) (by decide) (zk_223 hL) rfl ?_
    refine zj_iconst (x := 1) dX11_way_39 rfl ?_
    refine zj_isub dX11_way_40 ?_
    refine zj_callS (M' := mX11_isIn) (avs := [.int x4, .int 0, .int ((v4 223 36) - 1)]) (st := []) dX11_way_41 wm_X11_isIn wl_X11_144 wt_X11_isIn rfl (by decide) rfl (Nat.le_of_ble_eq_true rfl) (Nat.le_of_ble_eq_true rfl) ⟨Or.inl (z_k0 (zk_223 hL)), trivial⟩ trivial (hp_X11_isIn (fun c => ?_) (fun c => ?_))
    · replace h := h.1 c
      refine zj_if_eq (tgt := 57) dX11_way_44 (by decide) (fun q => absurd q (by decide)) (fun _ => ?_)
      refine zj_aload_n dX11_way_47 rfl rfl ?_
      refine zj_getR (ci := 11) (j := 35) dX11_way_48 wf_X11_73 (by decide) (by decide) (zk_223 hL) rfl (zr_223_35 hL) ?_
      refine zj_iload dX11_way_51 rfl ?_
      refine zj_iaload dX11_way_53 (zk_243 hL) (by rw [(zl_243 hL)]; exact h.1) ?_
      replace h := h.2
      refine zj_goto (tgt := 58) dX11_way_54 (by decide) ?_
      exact zj_iret dX11_way_58 rfl rfl h
    · replace h := h.2 c
      refine zj_if_eq (tgt := 57) dX11_way_44 (by decide) (fun _ => ?_) (fun q => absurd (by decide) q)
      refine zj_iconst (x := (-1)) dX11_way_57 rfl ?_
      exact zj_iret dX11_way_58 rfl rfl h
  · replace h := h.2 c
    refine zj_iconst (x := (-1)) dX11_way_15 rfl ?_
    exact zj_iret dX11_way_16 rfl rfl h
theorem sg_X11_weightOf_0 {G : z_G} {d : Nat} {S : z_Shp} {v : z_Dat} {Q : Option Value → z_Shp → z_Dat → Prop} {x1 : Int32}
    (h : z_J G d mX11_weightOf (4, [.ref 223, .int x1, .int 0, .int 0], [], S, v) Q) :
    z_J G d mX11_weightOf (0, [.ref 223, .int x1, .null, .null], [], S, v) Q := by
  refine zj_iconst (x := 0) dX11_weightOf_0 rfl ?_
  refine zj_istore_n (ls2 := [.ref 223, .int x1, .int 0, .null]) dX11_weightOf_1 rfl (by decide) rfl rfl ?_
  refine zj_iconst (x := 0) dX11_weightOf_2 rfl ?_
  refine zj_istore_n (ls2 := [.ref 223, .int x1, .int 0, .int 0]) dX11_weightOf_3 rfl (by decide) rfl rfl ?_
  exact h
theorem sg_X11_weightOf_4 {G : z_G} {d : Nat} {S : z_Shp} {v : z_Dat} {Q : Option Value → z_Shp → z_Dat → Prop} {x1 : Int32} {x2 : Int32} {x3 : Int32} (hL : z_L S)
    (h : (((v 224 0) * (v 224 0)) ≤ x3 → (Q (some (.int x2)) S v)) ∧ (¬ ((v 224 0) * (v 224 0)) ≤ x3 → (((((x1 >>> (x3 &&& 31)) &&& 1) = 1) → ((vp_in ((22 : Int32) + x3) 71) ∧ (z_J G (d + 1) mX11_weightOf (4, [.ref 223, .int x1, .int (x2 + (v 224 ((22 : Int32) + x3).toNatClampNeg)), .int (x3 + 1)], [], S, v) Q))) ∧ (¬ (((x1 >>> (x3 &&& 31)) &&& 1) = 1) → (z_J G (d + 1) mX11_weightOf (4, [.ref 223, .int x1, .int (x2 + 0), .int (x3 + 1)], [], S, v) Q))))) :
    z_J G (d + 1) mX11_weightOf (4, [.ref 223, .int x1, .int x2, .int x3], [], S, v) Q := by
  refine zj_iload_n dX11_weightOf_4 rfl rfl ?_
  refine zj_aload_n dX11_weightOf_5 rfl rfl ?_
  refine zj_callV (M' := mX11_qubits) (avs := []) (st := [.int x3]) (ci := 11) dX11_weightOf_6 wm_X11_qubits wl_X11_148 wi_X11_qubits ws_X11_qubits (by decide) (zk_223 hL) rfl rfl (by decide) rfl (Nat.le_of_ble_eq_true rfl) (Nat.le_of_ble_eq_true rfl) ⟨Or.inl (z_k0 (zk_223 hL)), trivial⟩ trivial (hp_X11_qubits hL ?_)
  refine zj_icmp_ge (tgt := 42) dX11_weightOf_9 (by decide) (fun c => ?_) (fun c => ?_)
  · replace h := h.1 c
    refine zj_iload_n dX11_weightOf_42 rfl rfl ?_
    exact zj_iret dX11_weightOf_43 rfl rfl h
  · replace h := h.2 c
    refine zj_iload_n dX11_weightOf_12 rfl rfl ?_
    refine zj_iload_n dX11_weightOf_13 rfl rfl ?_
    refine zj_iload_n dX11_weightOf_14 rfl rfl ?_
    refine zj_callS (M' := mX11_bitOf) (avs := [.int x1, .int x3]) (st := [.int x2]) dX11_weightOf_15 wm_X11_bitOf wl_X11_161 wt_X11_bitOf rfl (by decide) rfl (Nat.le_of_ble_eq_true rfl) (Nat.le_of_ble_eq_true rfl) ⟨Or.inl (z_k0 (zk_223 hL)), trivial⟩ trivial (hp_X11_bitOf (fun c => ?_) (fun c => ?_))
    · replace h := h.1 c
      refine zj_if_eq (tgt := 33) dX11_weightOf_18 (by decide) (fun q => absurd q (by decide)) (fun _ => ?_)
      refine zj_aload_n dX11_weightOf_21 rfl rfl ?_
      refine zj_getR (ci := 11) (j := 1) dX11_weightOf_22 wf_X11_13 (by decide) (by decide) (zk_223 hL) rfl (zr_223_1 hL) ?_
      refine zj_bipush (x := 22) dX11_weightOf_25 rfl ?_
      refine zj_iload_n dX11_weightOf_27 rfl rfl ?_
      refine zj_iadd dX11_weightOf_28 ?_
      refine zj_iaload dX11_weightOf_29 (zk_224 hL) (by rw [(zl_224 hL)]; exact h.1) ?_
      replace h := h.2
      refine zj_goto (tgt := 34) dX11_weightOf_30 (by decide) ?_
      refine zj_iadd dX11_weightOf_34 ?_
      refine zj_istore_n (ls2 := [.ref 223, .int x1, .int (x2 + (v 224 ((22 : Int32) + x3).toNatClampNeg)), .int x3]) dX11_weightOf_35 rfl (by decide) rfl rfl ?_
      refine zj_iinc (y := x3 + 1) (ls2 := [.ref 223, .int x1, .int (x2 + (v 224 ((22 : Int32) + x3).toNatClampNeg)), .int (x3 + 1)]) dX11_weightOf_36 rfl rfl (by decide) rfl rfl ?_
      refine zj_goto (tgt := 4) dX11_weightOf_39 (by decide) ?_
      exact h
    · replace h := h.2 c
      refine zj_if_eq (tgt := 33) dX11_weightOf_18 (by decide) (fun _ => ?_) (fun q => absurd (by decide) q)
      refine zj_iconst (x := 0) dX11_weightOf_33 rfl ?_
      refine zj_iadd dX11_weightOf_34 ?_
      refine zj_istore_n (ls2 := [.ref 223, .int x1, .int (x2 + 0), .int x3]) dX11_weightOf_35 rfl (by decide) rfl rfl ?_
      refine zj_iinc (y := x3 + 1) (ls2 := [.ref 223, .int x1, .int (x2 + 0), .int (x3 + 1)]) dX11_weightOf_36 rfl rfl (by decide) rfl rfl ?_
      refine zj_goto (tgt := 4) dX11_weightOf_39 (by decide) ?_
      exact h
theorem sg_X11_wordHere_0 {G : z_G} {d : Nat} {S : z_Shp} {v : z_Dat} {Q : Option Value → z_Shp → z_Dat → Prop} (hL : z_L S)
    (h : z_J G d mX11_peek (0, [.ref 223], [], S, v) (fun r S1 v1 => ∃ y1 : Int32, r = some (.int y1) ∧ S1 = S ∧ (z_J G (d + 1) mX11_wordHere (17, [.ref 223, .int (v1 223 19), .int (v1 223 19), .null, .null, .null, .null], [], S, v1) Q))) :
    z_J G (d + 1) mX11_wordHere (0, [.ref 223, .null, .null, .null, .null, .null, .null], [], S, v) Q := by
  refine zj_aload_n dX11_wordHere_0 rfl rfl ?_
  refine zj_getI (ci := 11) (j := 19) dX11_wordHere_1 wf_X11_187 (by decide) (by decide) (zk_223 hL) rfl ?_
  refine zj_istore_n (ls2 := [.ref 223, .int (v 223 19), .null, .null, .null, .null, .null]) dX11_wordHere_4 rfl (by decide) rfl rfl ?_
  refine zj_aload_n dX11_wordHere_5 rfl rfl ?_
  refine zj_callV (M' := mX11_peek) (avs := []) (st := []) (ci := 11) dX11_wordHere_6 wm_X11_peek wl_X11_199 wi_X11_peek ws_X11_peek (by decide) (zk_223 hL) rfl rfl (by decide) rfl (Nat.le_of_ble_eq_true rfl) (Nat.le_of_ble_eq_true rfl) ⟨Or.inl (z_k0 (zk_223 hL)), trivial⟩ trivial (z_J.mono h (fun r S1 v1 hq => ?_))
  obtain ⟨y1, rfl, rfl, h⟩ := hq
  refine zj_pop dX11_wordHere_9 rfl ?_
  refine zj_aload_n dX11_wordHere_10 rfl rfl ?_
  refine zj_getI (ci := 11) (j := 19) dX11_wordHere_11 wf_X11_187 (by decide) (by decide) (zk_223 hL) rfl ?_
  refine zj_istore_n (ls2 := [.ref 223, .int (v1 223 19), .null, .null, .null, .null, .null]) dX11_wordHere_14 rfl (by decide) rfl rfl ?_
  refine zj_iload_n dX11_wordHere_15 rfl rfl ?_
  refine zj_istore_n (ls2 := [.ref 223, .int (v1 223 19), .int (v1 223 19), .null, .null, .null, .null]) dX11_wordHere_16 rfl (by decide) rfl rfl ?_
  exact h
theorem sg_X11_wordHere_17 {G : z_G} {d : Nat} {S : z_Shp} {v : z_Dat} {Q : Option Value → z_Shp → z_Dat → Prop} {x1 : Int32} {x2 : Int32} (hL : z_L S)
    (h : ((v 223 9) ≤ x2 → (z_J G d mX11_wordHere (64, [.ref 223, .int x1, .int x2, .int 0, .int x1, .int 1, .int 0], [], S, v) Q)) ∧ (¬ (v 223 9) ≤ x2 → ((vp_in x2 240) ∧ (((v 229 x2.toNatClampNeg) < 97 → (z_J G d mX11_wordHere (64, [.ref 223, .int x1, .int x2, .int 0, .int x1, .int 1, .int 0], [], S, v) Q)) ∧ (¬ (v 229 x2.toNatClampNeg) < 97 → ((vp_in x2 240) ∧ ((122 < (v 229 x2.toNatClampNeg) → (z_J G d mX11_wordHere (64, [.ref 223, .int x1, .int x2, .int 0, .int x1, .int 1, .int 0], [], S, v) Q)) ∧ (¬ 122 < (v 229 x2.toNatClampNeg) → (z_J G d mX11_wordHere (17, [.ref 223, .int x1, .int (x2 + 1), .null, .null, .null, .null], [], S, v) Q))))))))) :
    z_J G d mX11_wordHere (17, [.ref 223, .int x1, .int x2, .null, .null, .null, .null], [], S, v) Q := by
  refine zj_iload_n dX11_wordHere_17 rfl rfl ?_
  refine zj_aload_n dX11_wordHere_18 rfl rfl ?_
  refine zj_getI (ci := 11) (j := 9) dX11_wordHere_19 wf_X11_190 (by decide) (by decide) (zk_223 hL) rfl ?_
  refine zj_icmp_ge (tgt := 53) dX11_wordHere_22 (by decide) (fun c => ?_) (fun c => ?_)
  · replace h := h.1 c
    refine zj_iconst (x := 0) dX11_wordHere_53 rfl ?_
    refine zj_istore_n (ls2 := [.ref 223, .int x1, .int x2, .int 0, .null, .null, .null]) dX11_wordHere_54 rfl (by decide) rfl rfl ?_
    refine zj_iload_n dX11_wordHere_55 rfl rfl ?_
    refine zj_istore (ls2 := [.ref 223, .int x1, .int x2, .int 0, .int x1, .null, .null]) dX11_wordHere_56 (by decide) rfl rfl ?_
    refine zj_iconst (x := 1) dX11_wordHere_58 rfl ?_
    refine zj_istore (ls2 := [.ref 223, .int x1, .int x2, .int 0, .int x1, .int 1, .null]) dX11_wordHere_59 (by decide) rfl rfl ?_
    refine zj_iconst (x := 0) dX11_wordHere_61 rfl ?_
    refine zj_istore (ls2 := [.ref 223, .int x1, .int x2, .int 0, .int x1, .int 1, .int 0]) dX11_wordHere_62 (by decide) rfl rfl ?_
    exact h
  · replace h := h.2 c
    refine zj_aload_n dX11_wordHere_25 rfl rfl ?_
    refine zj_getR (ci := 11) (j := 7) dX11_wordHere_26 wf_X11_30 (by decide) (by decide) (zk_223 hL) rfl (zr_223_7 hL) ?_
    refine zj_iload_n dX11_wordHere_29 rfl rfl ?_
    refine zj_baload dX11_wordHere_30 (zk_229 hL) (by rw [(zl_229 hL)]; exact h.1) ?_
    replace h := h.2
    refine zj_bipush (x := 97) dX11_wordHere_31 rfl ?_
    refine zj_icmp_lt (tgt := 53) dX11_wordHere_33 (by decide) (fun c => ?_) (fun c => ?_)
    · replace h := h.1 c
      refine zj_iconst (x := 0) dX11_wordHere_53 rfl ?_
      refine zj_istore_n (ls2 := [.ref 223, .int x1, .int x2, .int 0, .null, .null, .null]) dX11_wordHere_54 rfl (by decide) rfl rfl ?_
      refine zj_iload_n dX11_wordHere_55 rfl rfl ?_
      refine zj_istore (ls2 := [.ref 223, .int x1, .int x2, .int 0, .int x1, .null, .null]) dX11_wordHere_56 (by decide) rfl rfl ?_
      refine zj_iconst (x := 1) dX11_wordHere_58 rfl ?_
      refine zj_istore (ls2 := [.ref 223, .int x1, .int x2, .int 0, .int x1, .int 1, .null]) dX11_wordHere_59 (by decide) rfl rfl ?_
      refine zj_iconst (x := 0) dX11_wordHere_61 rfl ?_
      refine zj_istore (ls2 := [.ref 223, .int x1, .int x2, .int 0, .int x1, .int 1, .int 0]) dX11_wordHere_62 (by decide) rfl rfl ?_
      exact h
    · replace h := h.2 c
      refine zj_aload_n dX11_wordHere_36 rfl rfl ?_
      refine zj_getR (ci := 11) (j := 7) dX11_wordHere_37 wf_X11_30 (by decide) (by decide) (zk_223 hL) rfl (zr_223_7 hL) ?_
      refine zj_iload_n dX11_wordHere_40 rfl rfl ?_
      refine zj_baload dX11_wordHere_41 (zk_229 hL) (by rw [(zl_229 hL)]; exact h.1) ?_
      replace h := h.2
      refine zj_bipush (x := 122) dX11_wordHere_42 rfl ?_
      refine zj_icmp_gt (tgt := 53) dX11_wordHere_44 (by decide) (fun c => ?_) (fun c => ?_)
      · replace h := h.1 c
        refine zj_iconst (x := 0) dX11_wordHere_53 rfl ?_
        refine zj_istore_n (ls2 := [.ref 223, .int x1, .int x2, .int 0, .null, .null, .null]) dX11_wordHere_54 rfl (by decide) rfl rfl ?_
        refine zj_iload_n dX11_wordHere_55 rfl rfl ?_
        refine zj_istore (ls2 := [.ref 223, .int x1, .int x2, .int 0, .int x1, .null, .null]) dX11_wordHere_56 (by decide) rfl rfl ?_
        refine zj_iconst (x := 1) dX11_wordHere_58 rfl ?_
        refine zj_istore (ls2 := [.ref 223, .int x1, .int x2, .int 0, .int x1, .int 1, .null]) dX11_wordHere_59 (by decide) rfl rfl ?_
        refine zj_iconst (x := 0) dX11_wordHere_61 rfl ?_
        refine zj_istore (ls2 := [.ref 223, .int x1, .int x2, .int 0, .int x1, .int 1, .int 0]) dX11_wordHere_62 (by decide) rfl rfl ?_
        exact h
      · replace h := h.2 c
        refine zj_iinc (y := x2 + 1) (ls2 := [.ref 223, .int x1, .int (x2 + 1), .null, .null, .null, .null]) dX11_wordHere_47 rfl rfl (by decide) rfl rfl ?_
        refine zj_goto (tgt := 17) dX11_wordHere_50 (by decide) ?_
        exact h
theorem sg_X11_wordHere_64 {G : z_G} {d : Nat} {S : z_Shp} {v : z_Dat} {Q : Option Value → z_Shp → z_Dat → Prop} {x1 : Int32} {x2 : Int32} {x3 : Int32} {x4 : Int32} {x5 : Int32} {x6 : Int32} (hL : z_L S)
    (h : (43 ≤ x6 → (Q (some (.int (-1))) S v)) ∧ (¬ 43 ≤ x6 → ((vp_in x6 43) ∧ ((¬ (z_wd.getD x6.toNatClampNeg 0) = 32 → ((x5 = 0 → (z_J G d mX11_wordHere (64, [.ref 223, .int x1, .int x2, .int x3, .int (x4 + 1), .int 0, .int (x6 + 1)], [], S, v) Q)) ∧ (¬ x5 = 0 → ((x2 ≤ x4 → (z_J G d mX11_wordHere (64, [.ref 223, .int x1, .int x2, .int x3, .int (x4 + 1), .int 0, .int (x6 + 1)], [], S, v) Q)) ∧ (¬ x2 ≤ x4 → ((vp_in x4 240) ∧ ((vp_in x6 43) ∧ ((¬ (v 229 x4.toNatClampNeg) = (z_wd.getD x6.toNatClampNeg 0) → (z_J G d mX11_wordHere (64, [.ref 223, .int x1, .int x2, .int x3, .int (x4 + 1), .int 0, .int (x6 + 1)], [], S, v) Q)) ∧ ((v 229 x4.toNatClampNeg) = (z_wd.getD x6.toNatClampNeg 0) → (z_J G d mX11_wordHere (64, [.ref 223, .int x1, .int x2, .int x3, .int (x4 + 1), .int 1, .int (x6 + 1)], [], S, v) Q)))))))))) ∧ ((z_wd.getD x6.toNatClampNeg 0) = 32 → ((x5 = 0 → (z_J G d mX11_wordHere (64, [.ref 223, .int x1, .int x2, .int (x3 + 1), .int x1, .int 1, .int (x6 + 1)], [], S, v) Q)) ∧ (¬ x5 = 0 → ((¬ x4 = x2 → (z_J G d mX11_wordHere (64, [.ref 223, .int x1, .int x2, .int (x3 + 1), .int x1, .int 1, .int (x6 + 1)], [], S, v) Q)) ∧ (x4 = x2 → (∀ v1, v1 = z_u v 223 23 x2 → (Q (some (.int x3)) S v1))))))))))) :
    z_J G d mX11_wordHere (64, [.ref 223, .int x1, .int x2, .int x3, .int x4, .int x5, .int x6], [], S, v) Q := by
  refine zj_iload dX11_wordHere_64 rfl ?_
  refine zj_wget dX11_wordHere_66 wf_X11_202 ?_
  refine zj_wlen dX11_wordHere_69 ?_
  refine zj_icmp_ge (tgt := 157) dX11_wordHere_70 (by decide) (fun c => ?_) (fun c => ?_)
  · replace h := h.1 c
    refine zj_iconst (x := (-1)) dX11_wordHere_157 rfl ?_
    exact zj_iret dX11_wordHere_158 rfl rfl h
  · replace h := h.2 c
    refine zj_wget dX11_wordHere_73 wf_X11_202 ?_
    refine zj_iload dX11_wordHere_76 rfl ?_
    refine zj_wload dX11_wordHere_78 h.1 ?_
    replace h := h.2
    refine zj_bipush (x := 32) dX11_wordHere_79 rfl ?_
    refine zj_icmp_ne (tgt := 114) dX11_wordHere_81 (by decide) (fun c => ?_) (fun c => ?_)
    · replace h := h.1 c
      refine zj_iload dX11_wordHere_114 rfl ?_
      refine zj_if_eq (tgt := 145) dX11_wordHere_116 (by decide) (fun c => ?_) (fun c => ?_)
      · replace h := h.1 c
        refine zj_iconst (x := 0) dX11_wordHere_145 rfl ?_
        refine zj_istore (ls2 := [.ref 223, .int x1, .int x2, .int x3, .int x4, .int 0, .int x6]) dX11_wordHere_146 (by decide) rfl rfl ?_
        refine zj_iinc (y := x4 + 1) (ls2 := [.ref 223, .int x1, .int x2, .int x3, .int (x4 + 1), .int 0, .int x6]) dX11_wordHere_148 rfl rfl (by decide) rfl rfl ?_
        refine zj_iinc (y := x6 + 1) (ls2 := [.ref 223, .int x1, .int x2, .int x3, .int (x4 + 1), .int 0, .int (x6 + 1)]) dX11_wordHere_151 rfl rfl (by decide) rfl rfl ?_
        refine zj_goto (tgt := 64) dX11_wordHere_154 (by decide) ?_
        exact h
      · replace h := h.2 c
        refine zj_iload dX11_wordHere_119 rfl ?_
        refine zj_iload_n dX11_wordHere_121 rfl rfl ?_
        refine zj_icmp_ge (tgt := 145) dX11_wordHere_122 (by decide) (fun c => ?_) (fun c => ?_)
        · replace h := h.1 c
          refine zj_iconst (x := 0) dX11_wordHere_145 rfl ?_
          refine zj_istore (ls2 := [.ref 223, .int x1, .int x2, .int x3, .int x4, .int 0, .int x6]) dX11_wordHere_146 (by decide) rfl rfl ?_
          refine zj_iinc (y := x4 + 1) (ls2 := [.ref 223, .int x1, .int x2, .int x3, .int (x4 + 1), .int 0, .int x6]) dX11_wordHere_148 rfl rfl (by decide) rfl rfl ?_
          refine zj_iinc (y := x6 + 1) (ls2 := [.ref 223, .int x1, .int x2, .int x3, .int (x4 + 1), .int 0, .int (x6 + 1)]) dX11_wordHere_151 rfl rfl (by decide) rfl rfl ?_
          refine zj_goto (tgt := 64) dX11_wordHere_154 (by decide) ?_
          exact h
        · replace h := h.2 c
          refine zj_aload_n dX11_wordHere_125 rfl rfl ?_
          refine zj_getR (ci := 11) (j := 7) dX11_wordHere_126 wf_X11_30 (by decide) (by decide) (zk_223 hL) rfl (zr_223_7 hL) ?_
          refine zj_iload dX11_wordHere_129 rfl ?_
          refine zj_baload dX11_wordHere_131 (zk_229 hL) (by rw [(zl_229 hL)]; exact h.1) ?_
          replace h := h.2
          refine zj_wget dX11_wordHere_132 wf_X11_202 ?_
          refine zj_iload dX11_wordHere_135 rfl ?_
          refine zj_wload dX11_wordHere_137 h.1 ?_
          replace h := h.2
          refine zj_icmp_ne (tgt := 145) dX11_wordHere_138 (by decide) (fun c => ?_) (fun c => ?_)
          · replace h := h.1 c
            refine zj_iconst (x := 0) dX11_wordHere_145 rfl ?_
            refine zj_istore (ls2 := [.ref 223, .int x1, .int x2, .int x3, .int x4, .int 0, .int x6]) dX11_wordHere_146 (by decide) rfl rfl ?_
            refine zj_iinc (y := x4 + 1) (ls2 := [.ref 223, .int x1, .int x2, .int x3, .int (x4 + 1), .int 0, .int x6]) dX11_wordHere_148 rfl rfl (by decide) rfl rfl ?_
            refine zj_iinc (y := x6 + 1) (ls2 := [.ref 223, .int x1, .int x2, .int x3, .int (x4 + 1), .int 0, .int (x6 + 1)]) dX11_wordHere_151 rfl rfl (by decide) rfl rfl ?_
            refine zj_goto (tgt := 64) dX11_wordHere_154 (by decide) ?_
            exact h
          · replace h := h.2 c
            refine zj_iconst (x := 1) dX11_wordHere_141 rfl ?_
            refine zj_goto (tgt := 146) dX11_wordHere_142 (by decide) ?_
            refine zj_istore (ls2 := [.ref 223, .int x1, .int x2, .int x3, .int x4, .int 1, .int x6]) dX11_wordHere_146 (by decide) rfl rfl ?_
            refine zj_iinc (y := x4 + 1) (ls2 := [.ref 223, .int x1, .int x2, .int x3, .int (x4 + 1), .int 1, .int x6]) dX11_wordHere_148 rfl rfl (by decide) rfl rfl ?_
            refine zj_iinc (y := x6 + 1) (ls2 := [.ref 223, .int x1, .int x2, .int x3, .int (x4 + 1), .int 1, .int (x6 + 1)]) dX11_wordHere_151 rfl rfl (by decide) rfl rfl ?_
            refine zj_goto (tgt := 64) dX11_wordHere_154 (by decide) ?_
            exact h
    · replace h := h.2 c
      refine zj_iload dX11_wordHere_84 rfl ?_
      refine zj_if_eq (tgt := 102) dX11_wordHere_86 (by decide) (fun c => ?_) (fun c => ?_)
      · replace h := h.1 c
        refine zj_iinc (y := x3 + 1) (ls2 := [.ref 223, .int x1, .int x2, .int (x3 + 1), .int x4, .int x5, .int x6]) dX11_wordHere_102 rfl rfl (by decide) rfl rfl ?_
        refine zj_iload_n dX11_wordHere_105 rfl rfl ?_
        refine zj_istore (ls2 := [.ref 223, .int x1, .int x2, .int (x3 + 1), .int x1, .int x5, .int x6]) dX11_wordHere_106 (by decide) rfl rfl ?_
        refine zj_iconst (x := 1) dX11_wordHere_108 rfl ?_
        refine zj_istore (ls2 := [.ref 223, .int x1, .int x2, .int (x3 + 1), .int x1, .int 1, .int x6]) dX11_wordHere_109 (by decide) rfl rfl ?_
        refine zj_goto (tgt := 151) dX11_wordHere_111 (by decide) ?_
        refine zj_iinc (y := x6 + 1) (ls2 := [.ref 223, .int x1, .int x2, .int (x3 + 1), .int x1, .int 1, .int (x6 + 1)]) dX11_wordHere_151 rfl rfl (by decide) rfl rfl ?_
        refine zj_goto (tgt := 64) dX11_wordHere_154 (by decide) ?_
        exact h
      · replace h := h.2 c
        refine zj_iload dX11_wordHere_89 rfl ?_
        refine zj_iload_n dX11_wordHere_91 rfl rfl ?_
        refine zj_icmp_ne (tgt := 102) dX11_wordHere_92 (by decide) (fun c => ?_) (fun c => ?_)
        · replace h := h.1 c
          refine zj_iinc (y := x3 + 1) (ls2 := [.ref 223, .int x1, .int x2, .int (x3 + 1), .int x4, .int x5, .int x6]) dX11_wordHere_102 rfl rfl (by decide) rfl rfl ?_
          refine zj_iload_n dX11_wordHere_105 rfl rfl ?_
          refine zj_istore (ls2 := [.ref 223, .int x1, .int x2, .int (x3 + 1), .int x1, .int x5, .int x6]) dX11_wordHere_106 (by decide) rfl rfl ?_
          refine zj_iconst (x := 1) dX11_wordHere_108 rfl ?_
          refine zj_istore (ls2 := [.ref 223, .int x1, .int x2, .int (x3 + 1), .int x1, .int 1, .int x6]) dX11_wordHere_109 (by decide) rfl rfl ?_
          refine zj_goto (tgt := 151) dX11_wordHere_111 (by decide) ?_
          refine zj_iinc (y := x6 + 1) (ls2 := [.ref 223, .int x1, .int x2, .int (x3 + 1), .int x1, .int 1, .int (x6 + 1)]) dX11_wordHere_151 rfl rfl (by decide) rfl rfl ?_
          refine zj_goto (tgt := 64) dX11_wordHere_154 (by decide) ?_
          exact h
        · replace h := h.2 c
          refine zj_aload_n dX11_wordHere_95 rfl rfl ?_
          refine zj_iload_n dX11_wordHere_96 rfl rfl ?_
          refine zj_putI (ci := 11) (j := 23) dX11_wordHere_97 wf_X11_205 (by decide) (by decide) (zk_223 hL) rfl rfl rfl rfl (fun v1 ev1 => ?_)
          replace h := h v1 ev1
          refine zj_iload_n dX11_wordHere_100 rfl rfl ?_
          exact zj_iret dX11_wordHere_101 rfl rfl h
theorem sg_X11_work_0 {G : z_G} {d : Nat} {S : z_Shp} {v : z_Dat} {Q : Option Value → z_Shp → z_Dat → Prop} (hL : z_L S)
    (h : ∀ v1, v1 = z_u v 223 0 0 → (∀ v2, v2 = z_u v1 223 9 (v1 223 8) → (∀ v3, v3 = z_u v2 223 8 0 → (∀ v4, v4 = z_u v3 223 20 0 → (((v4 223 9) ≤ 200 → (z_J G d mX11_reads (0, [.ref 223, .null, .null], [], S, v4) (fun r S1 v5 => ∃ y1 : Int32, r = some (.int y1) ∧ S1 = S ∧ ((¬ y1 = 0 → (z_J G d mX11_keeps (0, [.ref 223, .null], [], S, v5) (fun r S1 v6 => r = none ∧ S1 = S ∧ (z_J G d mX11_doesAll (0, [.ref 223, .null, .null, .null, .null], [], S, v6) (fun r S1 v7 => ∃ y2 : Int32, r = some (.int y2) ∧ S1 = S ∧ (Q (some (.int y2)) S v7)))))) ∧ (y1 = 0 → (Q (some (.int ((-1000 : Int32) - (v5 223 21)))) S v5)))))) ∧ (¬ (v4 223 9) ≤ 200 → (z_J G d mX11_bad (0, [.ref 223, .int 1, .int 200], [], S, v4) (fun r S1 v8 => ∃ y3 : Int32, r = some (.int y3) ∧ S1 = S ∧ (Q (some (.int (-1200))) S v8))))))))) :
    z_J G (d + 1) mX11_work (0, [.ref 223], [], S, v) Q := by
  refine zj_aload_n dX11_work_0 rfl rfl ?_
  refine zj_iconst (x := 0) dX11_work_1 rfl ?_
  refine zj_putI (ci := 11) (j := 0) dX11_work_2 wf_X11_1 (by decide) (by decide) (zk_223 hL) rfl rfl rfl rfl (fun v1 ev1 => ?_)
  replace h := h v1 ev1
  refine zj_aload_n dX11_work_5 rfl rfl ?_
  refine zj_aload_n dX11_work_6 rfl rfl ?_
  refine zj_getI (ci := 11) (j := 8) dX11_work_7 wf_X11_134 (by decide) (by decide) (zk_223 hL) rfl ?_
  refine zj_putI (ci := 11) (j := 9) dX11_work_10 wf_X11_190 (by decide) (by decide) (zk_223 hL) rfl rfl rfl rfl (fun v2 ev2 => ?_)
  replace h := h v2 ev2
  refine zj_aload_n dX11_work_13 rfl rfl ?_
  refine zj_iconst (x := 0) dX11_work_14 rfl ?_
  refine zj_putI (ci := 11) (j := 8) dX11_work_15 wf_X11_134 (by decide) (by decide) (zk_223 hL) rfl rfl rfl rfl (fun v3 ev3 => ?_)
  replace h := h v3 ev3
  refine zj_aload_n dX11_work_18 rfl rfl ?_
  refine zj_iconst (x := 0) dX11_work_19 rfl ?_
  refine zj_putI (ci := 11) (j := 20) dX11_work_20 wf_X11_193 (by decide) (by decide) (zk_223 hL) rfl rfl rfl rfl (fun v4 ev4 => ?_)
  replace h := h v4 ev4
  refine zj_aload_n dX11_work_23 rfl rfl ?_
  refine zj_getI (ci := 11) (j := 9) dX11_work_24 wf_X11_190 (by decide) (by decide) (zk_223 hL) rfl ?_
  refine zj_sipush (x := 200) dX11_work_27 rfl ?_
  refine zj_icmp_le (tgt := 46) dX11_work_30 (by decide) (fun c => ?_) (fun c => ?_)
  · replace h := h.1 c
    refine zj_aload_n dX11_work_46 rfl rfl ?_
    refine zj_callV (M' := mX11_reads) (avs := []) (st := []) (ci := 11) dX11_work_47 wm_X11_reads wl_X11_239 wi_X11_reads ws_X11_reads (by decide) (zk_223 hL) rfl rfl (by decide) rfl (Nat.le_of_ble_eq_true rfl) (Nat.le_of_ble_eq_true rfl) ⟨Or.inl (z_k0 (zk_223 hL)), trivial⟩ trivial (z_J.mono h (fun r S1 v5 hq => ?_))
    obtain ⟨y1, rfl, rfl, h⟩ := hq
    refine zj_if_ne (tgt := 62) dX11_work_50 (by decide) (fun c => ?_) (fun c => ?_)
    · replace h := h.1 c
      refine zj_aload_n dX11_work_62 rfl rfl ?_
      refine zj_callV (M' := mX11_keeps) (avs := []) (st := []) (ci := 11) dX11_work_63 wm_X11_keeps wl_X11_242 wi_X11_keeps ws_X11_keeps (by decide) (zk_223 hL) rfl rfl (by decide) rfl (Nat.le_of_ble_eq_true rfl) (Nat.le_of_ble_eq_true rfl) ⟨Or.inl (z_k0 (zk_223 hL)), trivial⟩ trivial (z_J.mono h (fun r S1 v6 hq => ?_))
      obtain ⟨rfl, rfl, h⟩ := hq
      refine zj_aload_n dX11_work_66 rfl rfl ?_
      refine zj_callV (M' := mX11_doesAll) (avs := []) (st := []) (ci := 11) dX11_work_67 wm_X11_doesAll wl_X11_245 wi_X11_doesAll ws_X11_doesAll (by decide) (zk_223 hL) rfl rfl (by decide) rfl (Nat.le_of_ble_eq_true rfl) (Nat.le_of_ble_eq_true rfl) ⟨Or.inl (z_k0 (zk_223 hL)), trivial⟩ trivial (z_J.mono h (fun r S1 v7 hq => ?_))
      obtain ⟨y2, rfl, rfl, h⟩ := hq
      exact zj_iret dX11_work_70 rfl rfl h
    · replace h := h.2 c
      refine zj_sipush (x := (-1000)) dX11_work_53 rfl ?_
      refine zj_aload_n dX11_work_56 rfl rfl ?_
      refine zj_getI (ci := 11) (j := 21) dX11_work_57 wf_X11_196 (by decide) (by decide) (zk_223 hL) rfl ?_
      refine zj_isub dX11_work_60 ?_
      exact zj_iret dX11_work_61 rfl rfl h
  · replace h := h.2 c
    refine zj_aload_n dX11_work_33 rfl rfl ?_
    refine zj_iconst (x := 1) dX11_work_34 rfl ?_
    refine zj_sipush (x := 200) dX11_work_35 rfl ?_
    refine zj_callV (M' := mX11_bad) (avs := [.int 1, .int 200]) (st := []) (ci := 11) dX11_work_38 wm_X11_bad wl_X11_208 wi_X11_bad ws_X11_bad (by decide) (zk_223 hL) rfl rfl (by decide) rfl (Nat.le_of_ble_eq_true rfl) (Nat.le_of_ble_eq_true rfl) ⟨Or.inl (z_k0 (zk_223 hL)), trivial⟩ trivial (z_J.mono h (fun r S1 v8 hq => ?_))
    obtain ⟨y3, rfl, rfl, h⟩ := hq
    refine zj_pop dX11_work_41 rfl ?_
    refine zj_sipush (x := (-1200)) dX11_work_42 rfl ?_
    exact zj_iret dX11_work_45 rfl rfl h
theorem sg_X1_addBranch_0 {G : z_G} {d : Nat} {S : z_Shp} {v : z_Dat} {Q : Option Value → z_Shp → z_Dat → Prop} {x1 : Int32} {x2 : Int32} (hL : z_L S)
    (h : (vp_in x1 109) ∧ (vp_in x1 109 ∧ (∀ v1, v1 = z_u v 193 x1.toNatClampNeg ((v 193 x1.toNatClampNeg) + 1) → ((vp_in x1 109) ∧ (vp_in x1 109 ∧ (∀ v2, v2 = z_u v1 194 x1.toNatClampNeg ((v1 194 x1.toNatClampNeg) ^^^ x2) → (Q none S v2))))))) :
    z_J G d mX1_addBranch (0, [.ref 186, .int x1, .int x2], [], S, v) Q := by
  refine zj_aload_n dX1_addBranch_0 rfl rfl ?_
  refine zj_getR (ci := 1) (j := 11) dX1_addBranch_1 wf_X1_30 (by decide) (by decide) (zk_186 hL) rfl (zr_186_11 hL) ?_
  refine zj_iload_n dX1_addBranch_4 rfl rfl ?_
  refine zj_dup2 dX1_addBranch_5 rfl rfl ?_
  refine zj_iaload dX1_addBranch_6 (zk_193 hL) (by rw [(zl_193 hL)]; exact h.1) ?_
  replace h := h.2
  refine zj_iconst (x := 1) dX1_addBranch_7 rfl ?_
  refine zj_iadd dX1_addBranch_8 ?_
  refine zj_iastore dX1_addBranch_9 (zk_193 hL) (by rw [(zl_193 hL)]; exact h.1) (fun v1 ev1 => ?_)
  replace h := h.2 v1 ev1
  refine zj_aload_n dX1_addBranch_10 rfl rfl ?_
  refine zj_getR (ci := 1) (j := 12) dX1_addBranch_11 wf_X1_33 (by decide) (by decide) (zk_186 hL) rfl (zr_186_12 hL) ?_
  refine zj_iload_n dX1_addBranch_14 rfl rfl ?_
  refine zj_dup2 dX1_addBranch_15 rfl rfl ?_
  refine zj_iaload dX1_addBranch_16 (zk_194 hL) (by rw [(zl_194 hL)]; exact h.1) ?_
  replace h := h.2
  refine zj_iload_n dX1_addBranch_17 rfl rfl ?_
  refine zj_ixor dX1_addBranch_18 ?_
  refine zj_iastore dX1_addBranch_19 (zk_194 hL) (by rw [(zl_194 hL)]; exact h.1) (fun v2 ev2 => ?_)
  replace h := h.2 v2 ev2
  exact zj_vret dX1_addBranch_20 rfl h
theorem sg_X1_findOpen_0 {G : z_G} {d : Nat} {S : z_Shp} {v : z_Dat} {Q : Option Value → z_Shp → z_Dat → Prop} (hL : z_L S)
    (h : z_J G d mX1_rootOf (0, [.ref 186, .int (v 149 1), .null, .null], [], S, v) (fun r S1 v1 => ∃ y1 : Int32, r = some (.int y1) ∧ S1 = S ∧ (z_J G (d + 1) mX1_findOpen (14, [.ref 186, .ref 149, .int y1, .int 0, .int 0, .null], [], S, v1) Q))) :
    z_J G (d + 1) mX1_findOpen (0, [.ref 186, .ref 149, .null, .null, .null, .null], [], S, v) Q := by
  refine zj_aload_n dX1_findOpen_0 rfl rfl ?_
  refine zj_aload_n dX1_findOpen_1 rfl rfl ?_
  refine zj_getI (ci := 4) (j := 1) dX1_findOpen_2 wf_X1_67 (by decide) (by decide) (zk_149 hL) rfl ?_
  refine zj_callV (M' := mX1_rootOf) (avs := [.int (v 149 1)]) (st := []) (ci := 1) dX1_findOpen_5 wm_X1_rootOf wl_X1_78 wi_X1_rootOf ws_X1_rootOf (by decide) (zk_186 hL) rfl rfl (by decide) rfl (Nat.le_of_ble_eq_true rfl) (Nat.le_of_ble_eq_true rfl) ⟨Or.inl (z_k0 (zk_186 hL)), Or.inl (z_k0 (zk_149 hL)), trivial⟩ trivial (z_J.mono h (fun r S1 v1 hq => ?_))
  obtain ⟨y1, rfl, rfl, h⟩ := hq
  refine zj_istore_n (ls2 := [.ref 186, .ref 149, .int y1, .null, .null, .null]) dX1_findOpen_8 rfl (by decide) rfl rfl ?_
  refine zj_iconst (x := 0) dX1_findOpen_9 rfl ?_
  refine zj_istore_n (ls2 := [.ref 186, .ref 149, .int y1, .int 0, .null, .null]) dX1_findOpen_10 rfl (by decide) rfl rfl ?_
  refine zj_iconst (x := 0) dX1_findOpen_11 rfl ?_
  refine zj_istore (ls2 := [.ref 186, .ref 149, .int y1, .int 0, .int 0, .null]) dX1_findOpen_12 (by decide) rfl rfl ?_
  exact h
theorem sg_X1_findOpen_14 {G : z_G} {d : Nat} {S : z_Shp} {v : z_Dat} {Q : Option Value → z_Shp → z_Dat → Prop} {x2 : Int32} {x3 : Int32} {x4 : Int32} (hL : z_L S)
    (h : ((v 149 0) ≤ x4 → (vp_in (v 149 1) 109 ∧ (∀ v1, v1 = z_u v 192 (v 149 1).toNatClampNeg 0 → ((¬ x3 = 1 → (Q (some (.int 0)) S v1)) ∧ (x3 = 1 → (Q (some (.int 1)) S v1)))))) ∧ (¬ (v 149 0) ≤ x4 → (z_J G d mX1_rootOf (0, [.ref 186, .int x4, .null, .null], [], S, v) (fun r S1 v2 => ∃ y1 : Int32, r = some (.int y1) ∧ S1 = S ∧ ((¬ y1 = x2 → ((vp_in y1 109) ∧ (vp_in x4 109 ∧ (∀ v3, v3 = z_u v2 192 x4.toNatClampNeg (v2 191 y1.toNatClampNeg) → ((vp_in x4 109) ∧ (z_J G (d + 1) mX1_findOpen (14, [.ref 186, .ref 149, .int x2, .int (x3 ||| (v3 192 x4.toNatClampNeg)), .int (x4 + 1), .null], [], S, v3) Q)))))) ∧ (y1 = x2 → (vp_in x4 109 ∧ (∀ v4, v4 = z_u v2 192 x4.toNatClampNeg 0 → ((vp_in x4 109) ∧ (z_J G (d + 1) mX1_findOpen (14, [.ref 186, .ref 149, .int x2, .int (x3 ||| (v4 192 x4.toNatClampNeg)), .int (x4 + 1), .null], [], S, v4) Q)))))))))) :
    z_J G (d + 1) mX1_findOpen (14, [.ref 186, .ref 149, .int x2, .int x3, .int x4, .null], [], S, v) Q := by
  refine zj_iload dX1_findOpen_14 rfl ?_
  refine zj_aload_n dX1_findOpen_16 rfl rfl ?_
  refine zj_getI (ci := 4) (j := 0) dX1_findOpen_17 wf_X1_82 (by decide) (by decide) (zk_149 hL) rfl ?_
  refine zj_icmp_ge (tgt := 71) dX1_findOpen_20 (by decide) (fun c => ?_) (fun c => ?_)
  · replace h := h.1 c
    refine zj_aload_n dX1_findOpen_71 rfl rfl ?_
    refine zj_getR (ci := 1) (j := 10) dX1_findOpen_72 wf_X1_27 (by decide) (by decide) (zk_186 hL) rfl (zr_186_10 hL) ?_
    refine zj_aload_n dX1_findOpen_75 rfl rfl ?_
    refine zj_getI (ci := 4) (j := 1) dX1_findOpen_76 wf_X1_67 (by decide) (by decide) (zk_149 hL) rfl ?_
    refine zj_iconst (x := 0) dX1_findOpen_79 rfl ?_
    refine zj_iastore dX1_findOpen_80 (zk_192 hL) (by rw [(zl_192 hL)]; exact h.1) (fun v1 ev1 => ?_)
    replace h := h.2 v1 ev1
    refine zj_iload_n dX1_findOpen_81 rfl rfl ?_
    refine zj_iconst (x := 1) dX1_findOpen_82 rfl ?_
    refine zj_icmp_ne (tgt := 90) dX1_findOpen_83 (by decide) (fun c => ?_) (fun c => ?_)
    · replace h := h.1 c
      refine zj_iconst (x := 0) dX1_findOpen_90 rfl ?_
      exact zj_iret dX1_findOpen_91 rfl (by decide) h
    · replace h := h.2 c
      refine zj_iconst (x := 1) dX1_findOpen_86 rfl ?_
      refine zj_goto (tgt := 91) dX1_findOpen_87 (by decide) ?_
      exact zj_iret dX1_findOpen_91 rfl (by decide) h
  · replace h := h.2 c
    refine zj_aload_n dX1_findOpen_23 rfl rfl ?_
    refine zj_iload dX1_findOpen_24 rfl ?_
    refine zj_callV (M' := mX1_rootOf) (avs := [.int x4]) (st := []) (ci := 1) dX1_findOpen_26 wm_X1_rootOf wl_X1_78 wi_X1_rootOf ws_X1_rootOf (by decide) (zk_186 hL) rfl rfl (by decide) rfl (Nat.le_of_ble_eq_true rfl) (Nat.le_of_ble_eq_true rfl) ⟨Or.inl (z_k0 (zk_186 hL)), Or.inl (z_k0 (zk_149 hL)), trivial⟩ trivial (z_J.mono h (fun r S1 v2 hq => ?_))
    obtain ⟨y1, rfl, rfl, h⟩ := hq
    refine zj_istore (ls2 := [.ref 186, .ref 149, .int x2, .int x3, .int x4, .int y1]) dX1_findOpen_29 (by decide) rfl rfl ?_
    refine zj_aload_n dX1_findOpen_31 rfl rfl ?_
    refine zj_getR (ci := 1) (j := 10) dX1_findOpen_32 wf_X1_27 (by decide) (by decide) (zk_186 hL) rfl (zr_186_10 hL) ?_
    refine zj_iload dX1_findOpen_35 rfl ?_
    refine zj_iload dX1_findOpen_37 rfl ?_
    refine zj_iload_n dX1_findOpen_39 rfl rfl ?_
    refine zj_icmp_ne (tgt := 47) dX1_findOpen_40 (by decide) (fun c => ?_) (fun c => ?_)
    · replace h := h.1 c
      refine zj_aload_n dX1_findOpen_47 rfl rfl ?_
      refine zj_getR (ci := 1) (j := 9) dX1_findOpen_48 wf_X1_24 (by decide) (by decide) (zk_186 hL) rfl (zr_186_9 hL) ?_
      refine zj_iload dX1_findOpen_51 rfl ?_
      refine zj_iaload dX1_findOpen_53 (zk_191 hL) (by rw [(zl_191 hL)]; exact h.1) ?_
      replace h := h.2
      refine zj_iastore dX1_findOpen_54 (zk_192 hL) (by rw [(zl_192 hL)]; exact h.1) (fun v3 ev3 => ?_)
      replace h := h.2 v3 ev3
      refine zj_iload_n dX1_findOpen_55 rfl rfl ?_
      refine zj_aload_n dX1_findOpen_56 rfl rfl ?_
      refine zj_getR (ci := 1) (j := 10) dX1_findOpen_57 wf_X1_27 (by decide) (by decide) (zk_186 hL) rfl (zr_186_10 hL) ?_
      refine zj_iload dX1_findOpen_60 rfl ?_
      refine zj_iaload dX1_findOpen_62 (zk_192 hL) (by rw [(zl_192 hL)]; exact h.1) ?_
      replace h := h.2
      refine zj_ior dX1_findOpen_63 ?_
      refine zj_istore_n (ls2 := [.ref 186, .ref 149, .int x2, .int (x3 ||| (v3 192 x4.toNatClampNeg)), .int x4, .int y1]) dX1_findOpen_64 rfl (by decide) rfl rfl ?_
      refine zj_iinc (y := x4 + 1) (ls2 := [.ref 186, .ref 149, .int x2, .int (x3 ||| (v3 192 x4.toNatClampNeg)), .int (x4 + 1), .int y1]) dX1_findOpen_65 rfl rfl (by decide) rfl rfl ?_
      refine zj_goto (tgt := 14) dX1_findOpen_68 (by decide) ?_
      refine zj_forget (ls2 := [.ref 186, .ref 149, .int x2, .int (x3 ||| (v3 192 x4.toNatClampNeg)), .int (x4 + 1), .null]) ⟨Or.inr rfl, Or.inr rfl, Or.inr rfl, Or.inr rfl, Or.inr rfl, Or.inl rfl, trivial⟩ ?_
      exact h
    · replace h := h.2 c
      refine zj_iconst (x := 0) dX1_findOpen_43 rfl ?_
      refine zj_goto (tgt := 54) dX1_findOpen_44 (by decide) ?_
      refine zj_iastore dX1_findOpen_54 (zk_192 hL) (by rw [(zl_192 hL)]; exact h.1) (fun v4 ev4 => ?_)
      replace h := h.2 v4 ev4
      refine zj_iload_n dX1_findOpen_55 rfl rfl ?_
      refine zj_aload_n dX1_findOpen_56 rfl rfl ?_
      refine zj_getR (ci := 1) (j := 10) dX1_findOpen_57 wf_X1_27 (by decide) (by decide) (zk_186 hL) rfl (zr_186_10 hL) ?_
      refine zj_iload dX1_findOpen_60 rfl ?_
      refine zj_iaload dX1_findOpen_62 (zk_192 hL) (by rw [(zl_192 hL)]; exact h.1) ?_
      replace h := h.2
      refine zj_ior dX1_findOpen_63 ?_
      refine zj_istore_n (ls2 := [.ref 186, .ref 149, .int x2, .int (x3 ||| (v4 192 x4.toNatClampNeg)), .int x4, .int y1]) dX1_findOpen_64 rfl (by decide) rfl rfl ?_
      refine zj_iinc (y := x4 + 1) (ls2 := [.ref 186, .ref 149, .int x2, .int (x3 ||| (v4 192 x4.toNatClampNeg)), .int (x4 + 1), .int y1]) dX1_findOpen_65 rfl rfl (by decide) rfl rfl ?_
      refine zj_goto (tgt := 14) dX1_findOpen_68 (by decide) ?_
      refine zj_forget (ls2 := [.ref 186, .ref 149, .int x2, .int (x3 ||| (v4 192 x4.toNatClampNeg)), .int (x4 + 1), .null]) ⟨Or.inr rfl, Or.inr rfl, Or.inr rfl, Or.inr rfl, Or.inr rfl, Or.inl rfl, trivial⟩ ?_
      exact h
theorem sg_X1_growClumps_0 {G : z_G} {d : Nat} {S : z_Shp} {v : z_Dat} {Q : Option Value → z_Shp → z_Dat → Prop} (hL : z_L S)
    (h : z_J G d mJ7_fill_53178 (0, [.ref 188, .int 0, .null, .null], [], S, v) (fun r S1 v1 => r = none ∧ S1 = S ∧ (z_J G d mJ7_fill_53178 (0, [.ref 189, .int 0, .null, .null], [], S, v1) (fun r S1 v2 => r = none ∧ S1 = S ∧ (∀ v3, v3 = z_u v2 186 1 0 → (z_J G d mX1_partAll (0, [.ref 186, .ref 149, .null], [], S, v3) (fun r S1 v4 => r = none ∧ S1 = S ∧ (z_J G d mX1_markEvents (0, [.ref 186, .ref 149, .null], [], S, v4) (fun r S1 v5 => r = none ∧ S1 = S ∧ (∀ v6, v6 = z_u v5 186 0 0 → (z_J G (d + 1) mX1_growClumps (36, [.ref 186, .ref 149], [], S, v6) Q))))))))))) :
    z_J G (d + 1) mX1_growClumps (0, [.ref 186, .ref 149], [], S, v) Q := by
  refine zj_aload_n dX1_growClumps_0 rfl rfl ?_
  refine zj_getR (ci := 1) (j := 6) dX1_growClumps_1 wf_X1_15 (by decide) (by decide) (zk_186 hL) rfl (zr_186_6 hL) ?_
  refine zj_iconst (x := 0) dX1_growClumps_4 rfl ?_
  refine zj_callS (M' := mJ7_fill_53178) (avs := [.ref 188, .int 0]) (st := []) dX1_growClumps_5 wm_J7_fill_53178 wl_X1_36 wt_J7_fill_53178 rfl (by decide) rfl (Nat.le_of_ble_eq_true rfl) (Nat.le_of_ble_eq_true rfl) ⟨Or.inl (z_k0 (zk_186 hL)), Or.inl (z_k0 (zk_149 hL)), trivial⟩ trivial (z_J.mono h (fun r S1 v1 hq => ?_))
  obtain ⟨rfl, rfl, h⟩ := hq
  refine zj_aload_n dX1_growClumps_8 rfl rfl ?_
  refine zj_getR (ci := 1) (j := 7) dX1_growClumps_9 wf_X1_18 (by decide) (by decide) (zk_186 hL) rfl (zr_186_7 hL) ?_
  refine zj_iconst (x := 0) dX1_growClumps_12 rfl ?_
  refine zj_callS (M' := mJ7_fill_53178) (avs := [.ref 189, .int 0]) (st := []) dX1_growClumps_13 wm_J7_fill_53178 wl_X1_36 wt_J7_fill_53178 rfl (by decide) rfl (Nat.le_of_ble_eq_true rfl) (Nat.le_of_ble_eq_true rfl) ⟨Or.inl (z_k0 (zk_186 hL)), Or.inl (z_k0 (zk_149 hL)), trivial⟩ trivial (z_J.mono h (fun r S1 v2 hq => ?_))
  obtain ⟨rfl, rfl, h⟩ := hq
  refine zj_aload_n dX1_growClumps_16 rfl rfl ?_
  refine zj_iconst (x := 0) dX1_growClumps_17 rfl ?_
  refine zj_putI (ci := 1) (j := 1) dX1_growClumps_18 wf_X1_42 (by decide) (by decide) (zk_186 hL) rfl rfl rfl rfl (fun v3 ev3 => ?_)
  replace h := h v3 ev3
  refine zj_aload_n dX1_growClumps_21 rfl rfl ?_
  refine zj_aload_n dX1_growClumps_22 rfl rfl ?_
  refine zj_callV (M' := mX1_partAll) (avs := [.ref 149]) (st := []) (ci := 1) dX1_growClumps_23 wm_X1_partAll wl_X1_46 wi_X1_partAll ws_X1_partAll (by decide) (zk_186 hL) rfl rfl (by decide) rfl (Nat.le_of_ble_eq_true rfl) (Nat.le_of_ble_eq_true rfl) ⟨Or.inl (z_k0 (zk_186 hL)), Or.inl (z_k0 (zk_149 hL)), trivial⟩ trivial (z_J.mono h (fun r S1 v4 hq => ?_))
  obtain ⟨rfl, rfl, h⟩ := hq
  refine zj_aload_n dX1_growClumps_26 rfl rfl ?_
  refine zj_aload_n dX1_growClumps_27 rfl rfl ?_
  refine zj_callV (M' := mX1_markEvents) (avs := [.ref 149]) (st := []) (ci := 1) dX1_growClumps_28 wm_X1_markEvents wl_X1_50 wi_X1_markEvents ws_X1_markEvents (by decide) (zk_186 hL) rfl rfl (by decide) rfl (Nat.le_of_ble_eq_true rfl) (Nat.le_of_ble_eq_true rfl) ⟨Or.inl (z_k0 (zk_186 hL)), Or.inl (z_k0 (zk_149 hL)), trivial⟩ trivial (z_J.mono h (fun r S1 v5 hq => ?_))
  obtain ⟨rfl, rfl, h⟩ := hq
  refine zj_aload_n dX1_growClumps_31 rfl rfl ?_
  refine zj_iconst (x := 0) dX1_growClumps_32 rfl ?_
  refine zj_putI (ci := 1) (j := 0) dX1_growClumps_33 wf_X1_53 (by decide) (by decide) (zk_186 hL) rfl rfl rfl rfl (fun v6 ev6 => ?_)
  replace h := h v6 ev6
  exact h
theorem sg_X1_growClumps_36 {G : z_G} {d : Nat} {S : z_Shp} {v : z_Dat} {Q : Option Value → z_Shp → z_Dat → Prop} (hL : z_L S)
    (h : (100000 ≤ (v 186 0) → (Q none S v)) ∧ (¬ 100000 ≤ (v 186 0) → (z_J G d mX1_findOpen (0, [.ref 186, .ref 149, .null, .null, .null, .null], [], S, v) (fun r S1 v1 => ∃ y1 : Int32, r = some (.int y1) ∧ S1 = S ∧ ((y1 = 0 → (Q none S v1)) ∧ (¬ y1 = 0 → (z_J G d mX1_growEdges (0, [.ref 186, .ref 149, .null], [], S, v1) (fun r S1 v2 => r = none ∧ S1 = S ∧ (z_J G d mX1_joinWhole (0, [.ref 186, .ref 149, .null], [], S, v2) (fun r S1 v3 => r = none ∧ S1 = S ∧ (∀ v4, v4 = z_u v3 186 0 ((v3 186 0) + 1) → (z_J G (d + 1) mX1_growClumps (36, [.ref 186, .ref 149], [], S, v4) Q)))))))))))) :
    z_J G (d + 1) mX1_growClumps (36, [.ref 186, .ref 149], [], S, v) Q := by
  refine zj_aload_n dX1_growClumps_36 rfl rfl ?_
  refine zj_getI (ci := 1) (j := 0) dX1_growClumps_37 wf_X1_53 (by decide) (by decide) (zk_186 hL) rfl ?_
  refine zj_ldc (x := 100000) dX1_growClumps_40 wc_X1_56 ?_
  refine zj_icmp_ge (tgt := 76) dX1_growClumps_42 (by decide) (fun c => ?_) (fun c => ?_)
  · replace h := h.1 c
    exact zj_vret dX1_growClumps_76 rfl h
  · replace h := h.2 c
    refine zj_aload_n dX1_growClumps_45 rfl rfl ?_
    refine zj_aload_n dX1_growClumps_46 rfl rfl ?_
    refine zj_callV (M' := mX1_findOpen) (avs := [.ref 149]) (st := []) (ci := 1) dX1_growClumps_47 wm_X1_findOpen wl_X1_57 wi_X1_findOpen ws_X1_findOpen (by decide) (zk_186 hL) rfl rfl (by decide) rfl (Nat.le_of_ble_eq_true rfl) (Nat.le_of_ble_eq_true rfl) ⟨Or.inl (z_k0 (zk_186 hL)), Or.inl (z_k0 (zk_149 hL)), trivial⟩ trivial (z_J.mono h (fun r S1 v1 hq => ?_))
    obtain ⟨y1, rfl, rfl, h⟩ := hq
    refine zj_if_eq (tgt := 76) dX1_growClumps_50 (by decide) (fun c => ?_) (fun c => ?_)
    · replace h := h.1 c
      exact zj_vret dX1_growClumps_76 rfl h
    · replace h := h.2 c
      refine zj_aload_n dX1_growClumps_53 rfl rfl ?_
      refine zj_aload_n dX1_growClumps_54 rfl rfl ?_
      refine zj_callV (M' := mX1_growEdges) (avs := [.ref 149]) (st := []) (ci := 1) dX1_growClumps_55 wm_X1_growEdges wl_X1_61 wi_X1_growEdges ws_X1_growEdges (by decide) (zk_186 hL) rfl rfl (by decide) rfl (Nat.le_of_ble_eq_true rfl) (Nat.le_of_ble_eq_true rfl) ⟨Or.inl (z_k0 (zk_186 hL)), Or.inl (z_k0 (zk_149 hL)), trivial⟩ trivial (z_J.mono h (fun r S1 v2 hq => ?_))
      obtain ⟨rfl, rfl, h⟩ := hq
      refine zj_aload_n dX1_growClumps_58 rfl rfl ?_
      refine zj_aload_n dX1_growClumps_59 rfl rfl ?_
      refine zj_callV (M' := mX1_joinWhole) (avs := [.ref 149]) (st := []) (ci := 1) dX1_growClumps_60 wm_X1_joinWhole wl_X1_64 wi_X1_joinWhole ws_X1_joinWhole (by decide) (zk_186 hL) rfl rfl (by decide) rfl (Nat.le_of_ble_eq_true rfl) (Nat.le_of_ble_eq_true rfl) ⟨Or.inl (z_k0 (zk_186 hL)), Or.inl (z_k0 (zk_149 hL)), trivial⟩ trivial (z_J.mono h (fun r S1 v3 hq => ?_))
      obtain ⟨rfl, rfl, h⟩ := hq
      refine zj_aload_n dX1_growClumps_63 rfl rfl ?_
      refine zj_dup dX1_growClumps_64 rfl ?_
      refine zj_getI (ci := 1) (j := 0) dX1_growClumps_65 wf_X1_53 (by decide) (by decide) (zk_186 hL) rfl ?_
      refine zj_iconst (x := 1) dX1_growClumps_68 rfl ?_
      refine zj_iadd dX1_growClumps_69 ?_
      refine zj_putI (ci := 1) (j := 0) dX1_growClumps_70 wf_X1_53 (by decide) (by decide) (zk_186 hL) rfl rfl rfl rfl (fun v4 ev4 => ?_)
      replace h := h v4 ev4
      refine zj_goto (tgt := 36) dX1_growClumps_73 (by decide) ?_
      exact h
theorem sg_X1_growEdges_0 {G : z_G} {d : Nat} {S : z_Shp} {v : z_Dat} {Q : Option Value → z_Shp → z_Dat → Prop}
    (h : z_J G d mX1_growEdges (2, [.ref 186, .ref 149, .int 0], [], S, v) Q) :
    z_J G d mX1_growEdges (0, [.ref 186, .ref 149, .null], [], S, v) Q := by
  refine zj_iconst (x := 0) dX1_growEdges_0 rfl ?_
  refine zj_istore_n (ls2 := [.ref 186, .ref 149, .int 0]) dX1_growEdges_1 rfl (by decide) rfl rfl ?_
  exact h
theorem sg_X1_growEdges_2 {G : z_G} {d : Nat} {S : z_Shp} {v : z_Dat} {Q : Option Value → z_Shp → z_Dat → Prop} {x2 : Int32} (hL : z_L S)
    (h : ((v 149 2) ≤ x2 → (Q none S v)) ∧ (¬ (v 149 2) ≤ x2 → ((vp_in x2 321) ∧ ((¬ (v 189 x2.toNatClampNeg) = 0 → (z_J G d mX1_growEdges (2, [.ref 186, .ref 149, .int (x2 + 1)], [], S, v) Q)) ∧ ((v 189 x2.toNatClampNeg) = 0 → ((vp_in x2 321) ∧ ((vp_in x2 321) ∧ ((vp_in (v 150 x2.toNatClampNeg) 109) ∧ ((vp_in x2 321) ∧ ((vp_in (v 151 x2.toNatClampNeg) 109) ∧ (vp_in x2 321 ∧ (∀ v1, v1 = z_u v 188 x2.toNatClampNeg ((v 188 x2.toNatClampNeg) + ((v 192 (v 150 x2.toNatClampNeg).toNatClampNeg) + (v 192 (v 151 x2.toNatClampNeg).toNatClampNeg))) → (z_J G d mX1_growEdges (2, [.ref 186, .ref 149, .int (x2 + 1)], [], S, v1) Q))))))))))))) :
    z_J G d mX1_growEdges (2, [.ref 186, .ref 149, .int x2], [], S, v) Q := by
  refine zj_iload_n dX1_growEdges_2 rfl rfl ?_
  refine zj_aload_n dX1_growEdges_3 rfl rfl ?_
  refine zj_getI (ci := 4) (j := 2) dX1_growEdges_4 wf_X1_85 (by decide) (by decide) (zk_149 hL) rfl ?_
  refine zj_icmp_ge (tgt := 57) dX1_growEdges_7 (by decide) (fun c => ?_) (fun c => ?_)
  · replace h := h.1 c
    exact zj_vret dX1_growEdges_57 rfl h
  · replace h := h.2 c
    refine zj_aload_n dX1_growEdges_10 rfl rfl ?_
    refine zj_getR (ci := 1) (j := 7) dX1_growEdges_11 wf_X1_18 (by decide) (by decide) (zk_186 hL) rfl (zr_186_7 hL) ?_
    refine zj_iload_n dX1_growEdges_14 rfl rfl ?_
    refine zj_iaload dX1_growEdges_15 (zk_189 hL) (by rw [(zl_189 hL)]; exact h.1) ?_
    replace h := h.2
    refine zj_if_ne (tgt := 51) dX1_growEdges_16 (by decide) (fun c => ?_) (fun c => ?_)
    · replace h := h.1 c
      refine zj_iinc (y := x2 + 1) (ls2 := [.ref 186, .ref 149, .int (x2 + 1)]) dX1_growEdges_51 rfl rfl (by decide) rfl rfl ?_
      refine zj_goto (tgt := 2) dX1_growEdges_54 (by decide) ?_
      exact h
    · replace h := h.2 c
      refine zj_aload_n dX1_growEdges_19 rfl rfl ?_
      refine zj_getR (ci := 1) (j := 6) dX1_growEdges_20 wf_X1_15 (by decide) (by decide) (zk_186 hL) rfl (zr_186_6 hL) ?_
      refine zj_iload_n dX1_growEdges_23 rfl rfl ?_
      refine zj_dup2 dX1_growEdges_24 rfl rfl ?_
      refine zj_iaload dX1_growEdges_25 (zk_188 hL) (by rw [(zl_188 hL)]; exact h.1) ?_
      replace h := h.2
      refine zj_aload_n dX1_growEdges_26 rfl rfl ?_
      refine zj_getR (ci := 1) (j := 10) dX1_growEdges_27 wf_X1_27 (by decide) (by decide) (zk_186 hL) rfl (zr_186_10 hL) ?_
      refine zj_aload_n dX1_growEdges_30 rfl rfl ?_
      refine zj_getR (ci := 4) (j := 4) dX1_growEdges_31 wf_X1_88 (by decide) (by decide) (zk_149 hL) rfl (zr_149_4 hL) ?_
      refine zj_iload_n dX1_growEdges_34 rfl rfl ?_
      refine zj_iaload dX1_growEdges_35 (zk_150 hL) (by rw [(zl_150 hL)]; exact h.1) ?_
      replace h := h.2
      refine zj_iaload dX1_growEdges_36 (zk_192 hL) (by rw [(zl_192 hL)]; exact h.1) ?_
      replace h := h.2
      refine zj_aload_n dX1_growEdges_37 rfl rfl ?_
      refine zj_getR (ci := 1) (j := 10) dX1_growEdges_38 wf_X1_27 (by decide) (by decide) (zk_186 hL) rfl (zr_186_10 hL) ?_
      refine zj_aload_n dX1_growEdges_41 rfl rfl ?_
      refine zj_getR (ci := 4) (j := 5) dX1_growEdges_42 wf_X1_91 (by decide) (by decide) (zk_149 hL) rfl (zr_149_5 hL) ?_
      refine zj_iload_n dX1_growEdges_45 rfl rfl ?_
      refine zj_iaload dX1_growEdges_46 (zk_151 hL) (by rw [(zl_151 hL)]; exact h.1) ?_
      replace h := h.2
      refine zj_iaload dX1_growEdges_47 (zk_192 hL) (by rw [(zl_192 hL)]; exact h.1) ?_
      replace h := h.2
      refine zj_iadd dX1_growEdges_48 ?_
      refine zj_iadd dX1_growEdges_49 ?_
      refine zj_iastore dX1_growEdges_50 (zk_188 hL) (by rw [(zl_188 hL)]; exact h.1) (fun v1 ev1 => ?_)
      replace h := h.2 v1 ev1
      refine zj_iinc (y := x2 + 1) (ls2 := [.ref 186, .ref 149, .int (x2 + 1)]) dX1_growEdges_51 rfl rfl (by decide) rfl rfl ?_
      refine zj_goto (tgt := 2) dX1_growEdges_54 (by decide) ?_
      exact h
theorem sg_X1_isLeaf_0 {G : z_G} {d : Nat} {S : z_Shp} {v : z_Dat} {Q : Option Value → z_Shp → z_Dat → Prop} {x2 : Int32} (hL : z_L S)
    (h : (x2 = (v 149 1) → (Q (some (.int 0)) S v)) ∧ (¬ x2 = (v 149 1) → ((vp_in x2 109) ∧ ((¬ (v 193 x2.toNatClampNeg) = 1 → (Q (some (.int 0)) S v)) ∧ ((v 193 x2.toNatClampNeg) = 1 → (Q (some (.int 1)) S v)))))) :
    z_J G d mX1_isLeaf (0, [.ref 186, .ref 149, .int x2], [], S, v) Q := by
  refine zj_iload_n dX1_isLeaf_0 rfl rfl ?_
  refine zj_aload_n dX1_isLeaf_1 rfl rfl ?_
  refine zj_getI (ci := 4) (j := 1) dX1_isLeaf_2 wf_X1_67 (by decide) (by decide) (zk_149 hL) rfl ?_
  refine zj_icmp_eq (tgt := 22) dX1_isLeaf_5 (by decide) (fun c => ?_) (fun c => ?_)
  · replace h := h.1 c
    refine zj_iconst (x := 0) dX1_isLeaf_22 rfl ?_
    exact zj_iret dX1_isLeaf_23 rfl (by decide) h
  · replace h := h.2 c
    refine zj_aload_n dX1_isLeaf_8 rfl rfl ?_
    refine zj_getR (ci := 1) (j := 11) dX1_isLeaf_9 wf_X1_30 (by decide) (by decide) (zk_186 hL) rfl (zr_186_11 hL) ?_
    refine zj_iload_n dX1_isLeaf_12 rfl rfl ?_
    refine zj_iaload dX1_isLeaf_13 (zk_193 hL) (by rw [(zl_193 hL)]; exact h.1) ?_
    replace h := h.2
    refine zj_iconst (x := 1) dX1_isLeaf_14 rfl ?_
    refine zj_icmp_ne (tgt := 22) dX1_isLeaf_15 (by decide) (fun c => ?_) (fun c => ?_)
    · replace h := h.1 c
      refine zj_iconst (x := 0) dX1_isLeaf_22 rfl ?_
      exact zj_iret dX1_isLeaf_23 rfl (by decide) h
    · replace h := h.2 c
      refine zj_iconst (x := 1) dX1_isLeaf_18 rfl ?_
      refine zj_goto (tgt := 23) dX1_isLeaf_19 (by decide) ?_
      exact zj_iret dX1_isLeaf_23 rfl (by decide) h
theorem sg_X1_joinEnds_0 {G : z_G} {d : Nat} {S : z_Shp} {v : z_Dat} {Q : Option Value → z_Shp → z_Dat → Prop} {x2 : Int32} (hL : z_L S)
    (h : (vp_in x2 321) ∧ (z_J G d mX1_rootOf (0, [.ref 186, .int (v 150 x2.toNatClampNeg), .null, .null], [], S, v) (fun r S1 v1 => ∃ y1 : Int32, r = some (.int y1) ∧ S1 = S ∧ ((vp_in x2 321) ∧ (z_J G d mX1_rootOf (0, [.ref 186, .int (v1 151 x2.toNatClampNeg), .null, .null], [], S, v1) (fun r S1 v2 => ∃ y2 : Int32, r = some (.int y2) ∧ S1 = S ∧ ((¬ y1 = y2 → (vp_in y1 109 ∧ (∀ v3, v3 = z_u v2 190 y1.toNatClampNeg y2 → ((vp_in y2 109) ∧ ((vp_in y1 109) ∧ (vp_in y2 109 ∧ (∀ v4, v4 = z_u v3 191 y2.toNatClampNeg ((v3 191 y2.toNatClampNeg) ^^^ (v3 191 y1.toNatClampNeg)) → (Q (some (.int 1)) S v4)))))))) ∧ (y1 = y2 → (Q (some (.int 0)) S v2))))))))) :
    z_J G (d + 1) mX1_joinEnds (0, [.ref 186, .ref 149, .int x2, .null, .null], [], S, v) Q := by
  refine zj_aload_n dX1_joinEnds_0 rfl rfl ?_
  refine zj_aload_n dX1_joinEnds_1 rfl rfl ?_
  refine zj_getR (ci := 4) (j := 4) dX1_joinEnds_2 wf_X1_88 (by decide) (by decide) (zk_149 hL) rfl (zr_149_4 hL) ?_
  refine zj_iload_n dX1_joinEnds_5 rfl rfl ?_
  refine zj_iaload dX1_joinEnds_6 (zk_150 hL) (by rw [(zl_150 hL)]; exact h.1) ?_
  replace h := h.2
  refine zj_callV (M' := mX1_rootOf) (avs := [.int (v 150 x2.toNatClampNeg)]) (st := []) (ci := 1) dX1_joinEnds_7 wm_X1_rootOf wl_X1_78 wi_X1_rootOf ws_X1_rootOf (by decide) (zk_186 hL) rfl rfl (by decide) rfl (Nat.le_of_ble_eq_true rfl) (Nat.le_of_ble_eq_true rfl) ⟨Or.inl (z_k0 (zk_186 hL)), Or.inl (z_k0 (zk_149 hL)), trivial⟩ trivial (z_J.mono h (fun r S1 v1 hq => ?_))
  obtain ⟨y1, rfl, rfl, h⟩ := hq
  refine zj_istore_n (ls2 := [.ref 186, .ref 149, .int x2, .int y1, .null]) dX1_joinEnds_10 rfl (by decide) rfl rfl ?_
  refine zj_aload_n dX1_joinEnds_11 rfl rfl ?_
  refine zj_aload_n dX1_joinEnds_12 rfl rfl ?_
  refine zj_getR (ci := 4) (j := 5) dX1_joinEnds_13 wf_X1_91 (by decide) (by decide) (zk_149 hL) rfl (zr_149_5 hL) ?_
  refine zj_iload_n dX1_joinEnds_16 rfl rfl ?_
  refine zj_iaload dX1_joinEnds_17 (zk_151 hL) (by rw [(zl_151 hL)]; exact h.1) ?_
  replace h := h.2
  refine zj_callV (M' := mX1_rootOf) (avs := [.int (v1 151 x2.toNatClampNeg)]) (st := []) (ci := 1) dX1_joinEnds_18 wm_X1_rootOf wl_X1_78 wi_X1_rootOf ws_X1_rootOf (by decide) (zk_186 hL) rfl rfl (by decide) rfl (Nat.le_of_ble_eq_true rfl) (Nat.le_of_ble_eq_true rfl) ⟨Or.inl (z_k0 (zk_186 hL)), Or.inl (z_k0 (zk_149 hL)), trivial⟩ trivial (z_J.mono h (fun r S1 v2 hq => ?_))
  obtain ⟨y2, rfl, rfl, h⟩ := hq
  refine zj_istore (ls2 := [.ref 186, .ref 149, .int x2, .int y1, .int y2]) dX1_joinEnds_21 (by decide) rfl rfl ?_
  refine zj_iload_n dX1_joinEnds_23 rfl rfl ?_
  refine zj_iload dX1_joinEnds_24 rfl ?_
  refine zj_icmp_ne (tgt := 31) dX1_joinEnds_26 (by decide) (fun c => ?_) (fun c => ?_)
  · replace h := h.1 c
    refine zj_aload_n dX1_joinEnds_31 rfl rfl ?_
    refine zj_getR (ci := 1) (j := 8) dX1_joinEnds_32 wf_X1_21 (by decide) (by decide) (zk_186 hL) rfl (zr_186_8 hL) ?_
    refine zj_iload_n dX1_joinEnds_35 rfl rfl ?_
    refine zj_iload dX1_joinEnds_36 rfl ?_
    refine zj_iastore dX1_joinEnds_38 (zk_190 hL) (by rw [(zl_190 hL)]; exact h.1) (fun v3 ev3 => ?_)
    replace h := h.2 v3 ev3
    refine zj_aload_n dX1_joinEnds_39 rfl rfl ?_
    refine zj_getR (ci := 1) (j := 9) dX1_joinEnds_40 wf_X1_24 (by decide) (by decide) (zk_186 hL) rfl (zr_186_9 hL) ?_
    refine zj_iload dX1_joinEnds_43 rfl ?_
    refine zj_dup2 dX1_joinEnds_45 rfl rfl ?_
    refine zj_iaload dX1_joinEnds_46 (zk_191 hL) (by rw [(zl_191 hL)]; exact h.1) ?_
    replace h := h.2
    refine zj_aload_n dX1_joinEnds_47 rfl rfl ?_
    refine zj_getR (ci := 1) (j := 9) dX1_joinEnds_48 wf_X1_24 (by decide) (by decide) (zk_186 hL) rfl (zr_186_9 hL) ?_
    refine zj_iload_n dX1_joinEnds_51 rfl rfl ?_
    refine zj_iaload dX1_joinEnds_52 (zk_191 hL) (by rw [(zl_191 hL)]; exact h.1) ?_
    replace h := h.2
    refine zj_ixor dX1_joinEnds_53 ?_
    refine zj_iastore dX1_joinEnds_54 (zk_191 hL) (by rw [(zl_191 hL)]; exact h.1) (fun v4 ev4 => ?_)
    replace h := h.2 v4 ev4
    refine zj_iconst (x := 1) dX1_joinEnds_55 rfl ?_
    exact zj_iret dX1_joinEnds_56 rfl (by decide) h
  · replace h := h.2 c
    refine zj_iconst (x := 0) dX1_joinEnds_29 rfl ?_
    exact zj_iret dX1_joinEnds_30 rfl (by decide) h
theorem sg_X1_joinWhole_0 {G : z_G} {d : Nat} {S : z_Shp} {v : z_Dat} {Q : Option Value → z_Shp → z_Dat → Prop}
    (h : z_J G d mX1_joinWhole (2, [.ref 186, .ref 149, .int 0], [], S, v) Q) :
    z_J G d mX1_joinWhole (0, [.ref 186, .ref 149, .null], [], S, v) Q := by
  refine zj_iconst (x := 0) dX1_joinWhole_0 rfl ?_
  refine zj_istore_n (ls2 := [.ref 186, .ref 149, .int 0]) dX1_joinWhole_1 rfl (by decide) rfl rfl ?_
  exact h
theorem sg_X1_joinWhole_2 {G : z_G} {d : Nat} {S : z_Shp} {v : z_Dat} {Q : Option Value → z_Shp → z_Dat → Prop} {x2 : Int32} (hL : z_L S)
    (h : ((v 149 2) ≤ x2 → (Q none S v)) ∧ (¬ (v 149 2) ≤ x2 → ((vp_in x2 321) ∧ ((¬ (v 189 x2.toNatClampNeg) = 0 → (z_J G (d + 1) mX1_joinWhole (2, [.ref 186, .ref 149, .int (x2 + 1)], [], S, v) Q)) ∧ ((v 189 x2.toNatClampNeg) = 0 → ((vp_in x2 321) ∧ ((vp_in x2 321) ∧ (((v 188 x2.toNatClampNeg) < ((2 : Int32) * (v 152 x2.toNatClampNeg)) → (z_J G (d + 1) mX1_joinWhole (2, [.ref 186, .ref 149, .int (x2 + 1)], [], S, v) Q)) ∧ (¬ (v 188 x2.toNatClampNeg) < ((2 : Int32) * (v 152 x2.toNatClampNeg)) → (vp_in x2 321 ∧ (∀ v1, v1 = z_u v 189 x2.toNatClampNeg 1 → (∀ v2, v2 = z_u v1 186 1 ((v1 186 1) + 1) → (z_J G d mX1_joinEnds (0, [.ref 186, .ref 149, .int x2, .null, .null], [], S, v2) (fun r S1 v3 => ∃ y1 : Int32, r = some (.int y1) ∧ S1 = S ∧ (z_J G (d + 1) mX1_joinWhole (2, [.ref 186, .ref 149, .int (x2 + 1)], [], S, v3) Q))))))))))))))) :
    z_J G (d + 1) mX1_joinWhole (2, [.ref 186, .ref 149, .int x2], [], S, v) Q := by
  refine zj_iload_n dX1_joinWhole_2 rfl rfl ?_
  refine zj_aload_n dX1_joinWhole_3 rfl rfl ?_
  refine zj_getI (ci := 4) (j := 2) dX1_joinWhole_4 wf_X1_85 (by decide) (by decide) (zk_149 hL) rfl ?_
  refine zj_icmp_ge (tgt := 66) dX1_joinWhole_7 (by decide) (fun c => ?_) (fun c => ?_)
  · replace h := h.1 c
    exact zj_vret dX1_joinWhole_66 rfl h
  · replace h := h.2 c
    refine zj_aload_n dX1_joinWhole_10 rfl rfl ?_
    refine zj_getR (ci := 1) (j := 7) dX1_joinWhole_11 wf_X1_18 (by decide) (by decide) (zk_186 hL) rfl (zr_186_7 hL) ?_
    refine zj_iload_n dX1_joinWhole_14 rfl rfl ?_
    refine zj_iaload dX1_joinWhole_15 (zk_189 hL) (by rw [(zl_189 hL)]; exact h.1) ?_
    replace h := h.2
    refine zj_if_ne (tgt := 60) dX1_joinWhole_16 (by decide) (fun c => ?_) (fun c => ?_)
    · replace h := h.1 c
      refine zj_iinc (y := x2 + 1) (ls2 := [.ref 186, .ref 149, .int (x2 + 1)]) dX1_joinWhole_60 rfl rfl (by decide) rfl rfl ?_
      refine zj_goto (tgt := 2) dX1_joinWhole_63 (by decide) ?_
      exact h
    · replace h := h.2 c
      refine zj_aload_n dX1_joinWhole_19 rfl rfl ?_
      refine zj_getR (ci := 1) (j := 6) dX1_joinWhole_20 wf_X1_15 (by decide) (by decide) (zk_186 hL) rfl (zr_186_6 hL) ?_
      refine zj_iload_n dX1_joinWhole_23 rfl rfl ?_
      refine zj_iaload dX1_joinWhole_24 (zk_188 hL) (by rw [(zl_188 hL)]; exact h.1) ?_
      replace h := h.2
      refine zj_iconst (x := 2) dX1_joinWhole_25 rfl ?_
      refine zj_aload_n dX1_joinWhole_26 rfl rfl ?_
      refine zj_getR (ci := 4) (j := 6) dX1_joinWhole_27 wf_X1_94 (by decide) (by decide) (zk_149 hL) rfl (zr_149_6 hL) ?_
      refine zj_iload_n dX1_joinWhole_30 rfl rfl ?_
      refine zj_iaload dX1_joinWhole_31 (zk_152 hL) (by rw [(zl_152 hL)]; exact h.1) ?_
      replace h := h.2
      refine zj_imul dX1_joinWhole_32 ?_
      refine zj_icmp_lt (tgt := 60) dX1_joinWhole_33 (by decide) (fun c => ?_) (fun c => ?_)
      · replace h := h.1 c
        refine zj_iinc (y := x2 + 1) (ls2 := [.ref 186, .ref 149, .int (x2 + 1)]) dX1_joinWhole_60 rfl rfl (by decide) rfl rfl ?_
        refine zj_goto (tgt := 2) dX1_joinWhole_63 (by decide) ?_
        exact h
      · replace h := h.2 c
        refine zj_aload_n dX1_joinWhole_36 rfl rfl ?_
        refine zj_getR (ci := 1) (j := 7) dX1_joinWhole_37 wf_X1_18 (by decide) (by decide) (zk_186 hL) rfl (zr_186_7 hL) ?_
        refine zj_iload_n dX1_joinWhole_40 rfl rfl ?_
        refine zj_iconst (x := 1) dX1_joinWhole_41 rfl ?_
        refine zj_iastore dX1_joinWhole_42 (zk_189 hL) (by rw [(zl_189 hL)]; exact h.1) (fun v1 ev1 => ?_)
        replace h := h.2 v1 ev1
        refine zj_aload_n dX1_joinWhole_43 rfl rfl ?_
        refine zj_dup dX1_joinWhole_44 rfl ?_
        refine zj_getI (ci := 1) (j := 1) dX1_joinWhole_45 wf_X1_42 (by decide) (by decide) (zk_186 hL) rfl ?_
        refine zj_iconst (x := 1) dX1_joinWhole_48 rfl ?_
        refine zj_iadd dX1_joinWhole_49 ?_
        refine zj_putI (ci := 1) (j := 1) dX1_joinWhole_50 wf_X1_42 (by decide) (by decide) (zk_186 hL) rfl rfl rfl rfl (fun v2 ev2 => ?_)
        replace h := h v2 ev2
        refine zj_aload_n dX1_joinWhole_53 rfl rfl ?_
        refine zj_aload_n dX1_joinWhole_54 rfl rfl ?_
        refine zj_iload_n dX1_joinWhole_55 rfl rfl ?_
        refine zj_callV (M' := mX1_joinEnds) (avs := [.ref 149, .int x2]) (st := []) (ci := 1) dX1_joinWhole_56 wm_X1_joinEnds wl_X1_97 wi_X1_joinEnds ws_X1_joinEnds (by decide) (zk_186 hL) rfl rfl (by decide) rfl (Nat.le_of_ble_eq_true rfl) (Nat.le_of_ble_eq_true rfl) ⟨Or.inl (z_k0 (zk_186 hL)), Or.inl (z_k0 (zk_149 hL)), trivial⟩ trivial (z_J.mono h (fun r S1 v3 hq => ?_))
        obtain ⟨y1, rfl, rfl, h⟩ := hq
        refine zj_pop dX1_joinWhole_59 rfl ?_
        refine zj_iinc (y := x2 + 1) (ls2 := [.ref 186, .ref 149, .int (x2 + 1)]) dX1_joinWhole_60 rfl rfl (by decide) rfl rfl ?_
        refine zj_goto (tgt := 2) dX1_joinWhole_63 (by decide) ?_
        exact h
theorem sg_X1_layForest_0 {G : z_G} {d : Nat} {S : z_Shp} {v : z_Dat} {Q : Option Value → z_Shp → z_Dat → Prop} (hL : z_L S)
    (h : z_J G d mJ7_fill_53178 (0, [.ref 193, .int 0, .null, .null], [], S, v) (fun r S1 v1 => r = none ∧ S1 = S ∧ (z_J G d mJ7_fill_53178 (0, [.ref 194, .int 0, .null, .null], [], S, v1) (fun r S1 v2 => r = none ∧ S1 = S ∧ (∀ v3, v3 = z_u v2 186 2 0 → (z_J G d mX1_partAll (0, [.ref 186, .ref 149, .null], [], S, v3) (fun r S1 v4 => r = none ∧ S1 = S ∧ (z_J G (d + 1) mX1_layForest (28, [.ref 186, .ref 149, .int 0], [], S, v4) Q)))))))) :
    z_J G (d + 1) mX1_layForest (0, [.ref 186, .ref 149, .null], [], S, v) Q := by
  refine zj_aload_n dX1_layForest_0 rfl rfl ?_
  refine zj_getR (ci := 1) (j := 11) dX1_layForest_1 wf_X1_30 (by decide) (by decide) (zk_186 hL) rfl (zr_186_11 hL) ?_
  refine zj_iconst (x := 0) dX1_layForest_4 rfl ?_
  refine zj_callS (M' := mJ7_fill_53178) (avs := [.ref 193, .int 0]) (st := []) dX1_layForest_5 wm_J7_fill_53178 wl_X1_36 wt_J7_fill_53178 rfl (by decide) rfl (Nat.le_of_ble_eq_true rfl) (Nat.le_of_ble_eq_true rfl) ⟨Or.inl (z_k0 (zk_186 hL)), Or.inl (z_k0 (zk_149 hL)), trivial⟩ trivial (z_J.mono h (fun r S1 v1 hq => ?_))
  obtain ⟨rfl, rfl, h⟩ := hq
  refine zj_aload_n dX1_layForest_8 rfl rfl ?_
  refine zj_getR (ci := 1) (j := 12) dX1_layForest_9 wf_X1_33 (by decide) (by decide) (zk_186 hL) rfl (zr_186_12 hL) ?_
  refine zj_iconst (x := 0) dX1_layForest_12 rfl ?_
  refine zj_callS (M' := mJ7_fill_53178) (avs := [.ref 194, .int 0]) (st := []) dX1_layForest_13 wm_J7_fill_53178 wl_X1_36 wt_J7_fill_53178 rfl (by decide) rfl (Nat.le_of_ble_eq_true rfl) (Nat.le_of_ble_eq_true rfl) ⟨Or.inl (z_k0 (zk_186 hL)), Or.inl (z_k0 (zk_149 hL)), trivial⟩ trivial (z_J.mono h (fun r S1 v2 hq => ?_))
  obtain ⟨rfl, rfl, h⟩ := hq
  refine zj_aload_n dX1_layForest_16 rfl rfl ?_
  refine zj_iconst (x := 0) dX1_layForest_17 rfl ?_
  refine zj_putI (ci := 1) (j := 2) dX1_layForest_18 wf_X1_101 (by decide) (by decide) (zk_186 hL) rfl rfl rfl rfl (fun v3 ev3 => ?_)
  replace h := h v3 ev3
  refine zj_aload_n dX1_layForest_21 rfl rfl ?_
  refine zj_aload_n dX1_layForest_22 rfl rfl ?_
  refine zj_callV (M' := mX1_partAll) (avs := [.ref 149]) (st := []) (ci := 1) dX1_layForest_23 wm_X1_partAll wl_X1_46 wi_X1_partAll ws_X1_partAll (by decide) (zk_186 hL) rfl rfl (by decide) rfl (Nat.le_of_ble_eq_true rfl) (Nat.le_of_ble_eq_true rfl) ⟨Or.inl (z_k0 (zk_186 hL)), Or.inl (z_k0 (zk_149 hL)), trivial⟩ trivial (z_J.mono h (fun r S1 v4 hq => ?_))
  obtain ⟨rfl, rfl, h⟩ := hq
  refine zj_iconst (x := 0) dX1_layForest_26 rfl ?_
  refine zj_istore_n (ls2 := [.ref 186, .ref 149, .int 0]) dX1_layForest_27 rfl (by decide) rfl rfl ?_
  exact h
theorem sg_X1_layForest_28 {G : z_G} {d : Nat} {S : z_Shp} {v : z_Dat} {Q : Option Value → z_Shp → z_Dat → Prop} {x2 : Int32} (hL : z_L S)
    (h : ((v 149 2) ≤ x2 → (Q none S v)) ∧ (¬ (v 149 2) ≤ x2 → ((vp_in x2 321) ∧ ((¬ (v 189 x2.toNatClampNeg) = 1 → (z_J G (d + 1) mX1_layForest (28, [.ref 186, .ref 149, .int (x2 + 1)], [], S, v) Q)) ∧ ((v 189 x2.toNatClampNeg) = 1 → (z_J G d mX1_joinEnds (0, [.ref 186, .ref 149, .int x2, .null, .null], [], S, v) (fun r S1 v1 => ∃ y1 : Int32, r = some (.int y1) ∧ S1 = S ∧ ((y1 = 0 → (z_J G (d + 1) mX1_layForest (28, [.ref 186, .ref 149, .int (x2 + 1)], [], S, v1) Q)) ∧ (¬ y1 = 0 → (∀ v2, v2 = z_u v1 186 2 ((v1 186 2) + 1) → ((vp_in x2 321) ∧ (z_J G d mX1_addBranch (0, [.ref 186, .int (v2 150 x2.toNatClampNeg), .int x2], [], S, v2) (fun r S1 v3 => r = none ∧ S1 = S ∧ ((vp_in x2 321) ∧ (z_J G d mX1_addBranch (0, [.ref 186, .int (v3 151 x2.toNatClampNeg), .int x2], [], S, v3) (fun r S1 v4 => r = none ∧ S1 = S ∧ (z_J G (d + 1) mX1_layForest (28, [.ref 186, .ref 149, .int (x2 + 1)], [], S, v4) Q))))))))))))))))) :
    z_J G (d + 1) mX1_layForest (28, [.ref 186, .ref 149, .int x2], [], S, v) Q := by
  refine zj_iload_n dX1_layForest_28 rfl rfl ?_
  refine zj_aload_n dX1_layForest_29 rfl rfl ?_
  refine zj_getI (ci := 4) (j := 2) dX1_layForest_30 wf_X1_85 (by decide) (by decide) (zk_149 hL) rfl ?_
  refine zj_icmp_ge (tgt := 93) dX1_layForest_33 (by decide) (fun c => ?_) (fun c => ?_)
  · replace h := h.1 c
    exact zj_vret dX1_layForest_93 rfl h
  · replace h := h.2 c
    refine zj_aload_n dX1_layForest_36 rfl rfl ?_
    refine zj_getR (ci := 1) (j := 7) dX1_layForest_37 wf_X1_18 (by decide) (by decide) (zk_186 hL) rfl (zr_186_7 hL) ?_
    refine zj_iload_n dX1_layForest_40 rfl rfl ?_
    refine zj_iaload dX1_layForest_41 (zk_189 hL) (by rw [(zl_189 hL)]; exact h.1) ?_
    replace h := h.2
    refine zj_iconst (x := 1) dX1_layForest_42 rfl ?_
    refine zj_icmp_ne (tgt := 87) dX1_layForest_43 (by decide) (fun c => ?_) (fun c => ?_)
    · replace h := h.1 c
      refine zj_iinc (y := x2 + 1) (ls2 := [.ref 186, .ref 149, .int (x2 + 1)]) dX1_layForest_87 rfl rfl (by decide) rfl rfl ?_
      refine zj_goto (tgt := 28) dX1_layForest_90 (by decide) ?_
      exact h
    · replace h := h.2 c
      refine zj_aload_n dX1_layForest_46 rfl rfl ?_
      refine zj_aload_n dX1_layForest_47 rfl rfl ?_
      refine zj_iload_n dX1_layForest_48 rfl rfl ?_
      refine zj_callV (M' := mX1_joinEnds) (avs := [.ref 149, .int x2]) (st := []) (ci := 1) dX1_layForest_49 wm_X1_joinEnds wl_X1_97 wi_X1_joinEnds ws_X1_joinEnds (by decide) (zk_186 hL) rfl rfl (by decide) rfl (Nat.le_of_ble_eq_true rfl) (Nat.le_of_ble_eq_true rfl) ⟨Or.inl (z_k0 (zk_186 hL)), Or.inl (z_k0 (zk_149 hL)), trivial⟩ trivial (z_J.mono h (fun r S1 v1 hq => ?_))
      obtain ⟨y1, rfl, rfl, h⟩ := hq
      refine zj_if_eq (tgt := 87) dX1_layForest_52 (by decide) (fun c => ?_) (fun c => ?_)
      · replace h := h.1 c
        refine zj_iinc (y := x2 + 1) (ls2 := [.ref 186, .ref 149, .int (x2 + 1)]) dX1_layForest_87 rfl rfl (by decide) rfl rfl ?_
        refine zj_goto (tgt := 28) dX1_layForest_90 (by decide) ?_
        exact h
      · replace h := h.2 c
        refine zj_aload_n dX1_layForest_55 rfl rfl ?_
        refine zj_dup dX1_layForest_56 rfl ?_
        refine zj_getI (ci := 1) (j := 2) dX1_layForest_57 wf_X1_101 (by decide) (by decide) (zk_186 hL) rfl ?_
        refine zj_iconst (x := 1) dX1_layForest_60 rfl ?_
        refine zj_iadd dX1_layForest_61 ?_
        refine zj_putI (ci := 1) (j := 2) dX1_layForest_62 wf_X1_101 (by decide) (by decide) (zk_186 hL) rfl rfl rfl rfl (fun v2 ev2 => ?_)
        replace h := h v2 ev2
        refine zj_aload_n dX1_layForest_65 rfl rfl ?_
        refine zj_aload_n dX1_layForest_66 rfl rfl ?_
        refine zj_getR (ci := 4) (j := 4) dX1_layForest_67 wf_X1_88 (by decide) (by decide) (zk_149 hL) rfl (zr_149_4 hL) ?_
        refine zj_iload_n dX1_layForest_70 rfl rfl ?_
        refine zj_iaload dX1_layForest_71 (zk_150 hL) (by rw [(zl_150 hL)]; exact h.1) ?_
        replace h := h.2
        refine zj_iload_n dX1_layForest_72 rfl rfl ?_
        refine zj_callV (M' := mX1_addBranch) (avs := [.int (v2 150 x2.toNatClampNeg), .int x2]) (st := []) (ci := 1) dX1_layForest_73 wm_X1_addBranch wl_X1_104 wi_X1_addBranch ws_X1_addBranch (by decide) (zk_186 hL) rfl rfl (by decide) rfl (Nat.le_of_ble_eq_true rfl) (Nat.le_of_ble_eq_true rfl) ⟨Or.inl (z_k0 (zk_186 hL)), Or.inl (z_k0 (zk_149 hL)), trivial⟩ trivial (z_J.mono h (fun r S1 v3 hq => ?_))
        obtain ⟨rfl, rfl, h⟩ := hq
        refine zj_aload_n dX1_layForest_76 rfl rfl ?_
        refine zj_aload_n dX1_layForest_77 rfl rfl ?_
        refine zj_getR (ci := 4) (j := 5) dX1_layForest_78 wf_X1_91 (by decide) (by decide) (zk_149 hL) rfl (zr_149_5 hL) ?_
        refine zj_iload_n dX1_layForest_81 rfl rfl ?_
        refine zj_iaload dX1_layForest_82 (zk_151 hL) (by rw [(zl_151 hL)]; exact h.1) ?_
        replace h := h.2
        refine zj_iload_n dX1_layForest_83 rfl rfl ?_
        refine zj_callV (M' := mX1_addBranch) (avs := [.int (v3 151 x2.toNatClampNeg), .int x2]) (st := []) (ci := 1) dX1_layForest_84 wm_X1_addBranch wl_X1_104 wi_X1_addBranch ws_X1_addBranch (by decide) (zk_186 hL) rfl rfl (by decide) rfl (Nat.le_of_ble_eq_true rfl) (Nat.le_of_ble_eq_true rfl) ⟨Or.inl (z_k0 (zk_186 hL)), Or.inl (z_k0 (zk_149 hL)), trivial⟩ trivial (z_J.mono h (fun r S1 v4 hq => ?_))
        obtain ⟨rfl, rfl, h⟩ := hq
        refine zj_iinc (y := x2 + 1) (ls2 := [.ref 186, .ref 149, .int (x2 + 1)]) dX1_layForest_87 rfl rfl (by decide) rfl rfl ?_
        refine zj_goto (tgt := 28) dX1_layForest_90 (by decide) ?_
        exact h
theorem sg_X1_markEvents_0 {G : z_G} {d : Nat} {S : z_Shp} {v : z_Dat} {Q : Option Value → z_Shp → z_Dat → Prop} (hL : z_L S)
    (h : z_J G d mJ7_fill_53178 (0, [.ref 191, .int 0, .null, .null], [], S, v) (fun r S1 v1 => r = none ∧ S1 = S ∧ (z_J G (d + 1) mX1_markEvents (10, [.ref 186, .ref 149, .int 0], [], S, v1) Q))) :
    z_J G (d + 1) mX1_markEvents (0, [.ref 186, .ref 149, .null], [], S, v) Q := by
  refine zj_aload_n dX1_markEvents_0 rfl rfl ?_
  refine zj_getR (ci := 1) (j := 9) dX1_markEvents_1 wf_X1_24 (by decide) (by decide) (zk_186 hL) rfl (zr_186_9 hL) ?_
  refine zj_iconst (x := 0) dX1_markEvents_4 rfl ?_
  refine zj_callS (M' := mJ7_fill_53178) (avs := [.ref 191, .int 0]) (st := []) dX1_markEvents_5 wm_J7_fill_53178 wl_X1_36 wt_J7_fill_53178 rfl (by decide) rfl (Nat.le_of_ble_eq_true rfl) (Nat.le_of_ble_eq_true rfl) ⟨Or.inl (z_k0 (zk_186 hL)), Or.inl (z_k0 (zk_149 hL)), trivial⟩ trivial (z_J.mono h (fun r S1 v1 hq => ?_))
  obtain ⟨rfl, rfl, h⟩ := hq
  refine zj_iconst (x := 0) dX1_markEvents_8 rfl ?_
  refine zj_istore_n (ls2 := [.ref 186, .ref 149, .int 0]) dX1_markEvents_9 rfl (by decide) rfl rfl ?_
  exact h
theorem sg_X1_markEvents_10 {G : z_G} {d : Nat} {S : z_Shp} {v : z_Dat} {Q : Option Value → z_Shp → z_Dat → Prop} {x2 : Int32} (hL : z_L S)
    (h : ((v 149 3) ≤ x2 → (Q none S v)) ∧ (¬ (v 149 3) ≤ x2 → ((vp_in x2 108) ∧ (vp_in (v 157 x2.toNatClampNeg) 109 ∧ (∀ v1, v1 = z_u v 191 (v 157 x2.toNatClampNeg).toNatClampNeg 1 → (z_J G d mX1_markEvents (10, [.ref 186, .ref 149, .int (x2 + 1)], [], S, v1) Q)))))) :
    z_J G d mX1_markEvents (10, [.ref 186, .ref 149, .int x2], [], S, v) Q := by
  refine zj_iload_n dX1_markEvents_10 rfl rfl ?_
  refine zj_aload_n dX1_markEvents_11 rfl rfl ?_
  refine zj_getI (ci := 4) (j := 3) dX1_markEvents_12 wf_X1_72 (by decide) (by decide) (zk_149 hL) rfl ?_
  refine zj_icmp_ge (tgt := 36) dX1_markEvents_15 (by decide) (fun c => ?_) (fun c => ?_)
  · replace h := h.1 c
    exact zj_vret dX1_markEvents_36 rfl h
  · replace h := h.2 c
    refine zj_aload_n dX1_markEvents_18 rfl rfl ?_
    refine zj_getR (ci := 1) (j := 9) dX1_markEvents_19 wf_X1_24 (by decide) (by decide) (zk_186 hL) rfl (zr_186_9 hL) ?_
    refine zj_aload_n dX1_markEvents_22 rfl rfl ?_
    refine zj_getR (ci := 4) (j := 11) dX1_markEvents_23 wf_X1_75 (by decide) (by decide) (zk_149 hL) rfl (zr_149_11 hL) ?_
    refine zj_iload_n dX1_markEvents_26 rfl rfl ?_
    refine zj_iaload dX1_markEvents_27 (zk_157 hL) (by rw [(zl_157 hL)]; exact h.1) ?_
    replace h := h.2
    refine zj_iconst (x := 1) dX1_markEvents_28 rfl ?_
    refine zj_iastore dX1_markEvents_29 (zk_191 hL) (by rw [(zl_191 hL)]; exact h.1) (fun v1 ev1 => ?_)
    replace h := h.2 v1 ev1
    refine zj_iinc (y := x2 + 1) (ls2 := [.ref 186, .ref 149, .int (x2 + 1)]) dX1_markEvents_30 rfl rfl (by decide) rfl rfl ?_
    refine zj_goto (tgt := 10) dX1_markEvents_33 (by decide) ?_
    exact h
theorem sg_X1_partAll_0 {G : z_G} {d : Nat} {S : z_Shp} {v : z_Dat} {Q : Option Value → z_Shp → z_Dat → Prop}
    (h : z_J G d mX1_partAll (2, [.ref 186, .ref 149, .int 0], [], S, v) Q) :
    z_J G d mX1_partAll (0, [.ref 186, .ref 149, .null], [], S, v) Q := by
  refine zj_iconst (x := 0) dX1_partAll_0 rfl ?_
  refine zj_istore_n (ls2 := [.ref 186, .ref 149, .int 0]) dX1_partAll_1 rfl (by decide) rfl rfl ?_
  exact h
theorem sg_X1_partAll_2 {G : z_G} {d : Nat} {S : z_Shp} {v : z_Dat} {Q : Option Value → z_Shp → z_Dat → Prop} {x2 : Int32} (hL : z_L S)
    (h : ((v 149 1) < x2 → (Q none S v)) ∧ (¬ (v 149 1) < x2 → (vp_in x2 109 ∧ (∀ v1, v1 = z_u v 190 x2.toNatClampNeg x2 → (z_J G d mX1_partAll (2, [.ref 186, .ref 149, .int (x2 + 1)], [], S, v1) Q))))) :
    z_J G d mX1_partAll (2, [.ref 186, .ref 149, .int x2], [], S, v) Q := by
  refine zj_iload_n dX1_partAll_2 rfl rfl ?_
  refine zj_aload_n dX1_partAll_3 rfl rfl ?_
  refine zj_getI (ci := 4) (j := 1) dX1_partAll_4 wf_X1_67 (by decide) (by decide) (zk_149 hL) rfl ?_
  refine zj_icmp_gt (tgt := 23) dX1_partAll_7 (by decide) (fun c => ?_) (fun c => ?_)
  · replace h := h.1 c
    exact zj_vret dX1_partAll_23 rfl h
  · replace h := h.2 c
    refine zj_aload_n dX1_partAll_10 rfl rfl ?_
    refine zj_getR (ci := 1) (j := 8) dX1_partAll_11 wf_X1_21 (by decide) (by decide) (zk_186 hL) rfl (zr_186_8 hL) ?_
    refine zj_iload_n dX1_partAll_14 rfl rfl ?_
    refine zj_iload_n dX1_partAll_15 rfl rfl ?_
    refine zj_iastore dX1_partAll_16 (zk_190 hL) (by rw [(zl_190 hL)]; exact h.1) (fun v1 ev1 => ?_)
    replace h := h.2 v1 ev1
    refine zj_iinc (y := x2 + 1) (ls2 := [.ref 186, .ref 149, .int (x2 + 1)]) dX1_partAll_17 rfl rfl (by decide) rfl rfl ?_
    refine zj_goto (tgt := 2) dX1_partAll_20 (by decide) ?_
    exact h
theorem sg_X1_peelForest_0 {G : z_G} {d : Nat} {S : z_Shp} {v : z_Dat} {Q : Option Value → z_Shp → z_Dat → Prop} (hL : z_L S)
    (h : z_J G d mJ7_fill_53178 (0, [.ref 187, .int 0, .null, .null], [], S, v) (fun r S1 v1 => r = none ∧ S1 = S ∧ (∀ v2, v2 = z_u v1 186 3 0 → (∀ v3, v3 = z_u v2 186 4 0 → (z_J G d mX1_markEvents (0, [.ref 186, .ref 149, .null], [], S, v3) (fun r S1 v4 => r = none ∧ S1 = S ∧ (z_J G (d + 1) mX1_peelForest (25, [.ref 186, .ref 149, .int 0, .null, .null], [], S, v4) Q))))))) :
    z_J G (d + 1) mX1_peelForest (0, [.ref 186, .ref 149, .null, .null, .null], [], S, v) Q := by
  refine zj_aload_n dX1_peelForest_0 rfl rfl ?_
  refine zj_getR (ci := 1) (j := 5) dX1_peelForest_1 wf_X1_9 (by decide) (by decide) (zk_186 hL) rfl (zr_186_5 hL) ?_
  refine zj_iconst (x := 0) dX1_peelForest_4 rfl ?_
  refine zj_callS (M' := mJ7_fill_53178) (avs := [.ref 187, .int 0]) (st := []) dX1_peelForest_5 wm_J7_fill_53178 wl_X1_36 wt_J7_fill_53178 rfl (by decide) rfl (Nat.le_of_ble_eq_true rfl) (Nat.le_of_ble_eq_true rfl) ⟨Or.inl (z_k0 (zk_186 hL)), Or.inl (z_k0 (zk_149 hL)), trivial⟩ trivial (z_J.mono h (fun r S1 v1 hq => ?_))
  obtain ⟨rfl, rfl, h⟩ := hq
  refine zj_aload_n dX1_peelForest_8 rfl rfl ?_
  refine zj_iconst (x := 0) dX1_peelForest_9 rfl ?_
  refine zj_putI (ci := 1) (j := 3) dX1_peelForest_10 wf_X1_108 (by decide) (by decide) (zk_186 hL) rfl rfl rfl rfl (fun v2 ev2 => ?_)
  replace h := h v2 ev2
  refine zj_aload_n dX1_peelForest_13 rfl rfl ?_
  refine zj_iconst (x := 0) dX1_peelForest_14 rfl ?_
  refine zj_putI (ci := 1) (j := 4) dX1_peelForest_15 wf_X1_111 (by decide) (by decide) (zk_186 hL) rfl rfl rfl rfl (fun v3 ev3 => ?_)
  replace h := h v3 ev3
  refine zj_aload_n dX1_peelForest_18 rfl rfl ?_
  refine zj_aload_n dX1_peelForest_19 rfl rfl ?_
  refine zj_callV (M' := mX1_markEvents) (avs := [.ref 149]) (st := []) (ci := 1) dX1_peelForest_20 wm_X1_markEvents wl_X1_50 wi_X1_markEvents ws_X1_markEvents (by decide) (zk_186 hL) rfl rfl (by decide) rfl (Nat.le_of_ble_eq_true rfl) (Nat.le_of_ble_eq_true rfl) ⟨Or.inl (z_k0 (zk_186 hL)), Or.inl (z_k0 (zk_149 hL)), trivial⟩ trivial (z_J.mono h (fun r S1 v4 hq => ?_))
  obtain ⟨rfl, rfl, h⟩ := hq
  refine zj_iconst (x := 0) dX1_peelForest_23 rfl ?_
  refine zj_istore_n (ls2 := [.ref 186, .ref 149, .int 0, .null, .null]) dX1_peelForest_24 rfl (by decide) rfl rfl ?_
  exact h
theorem sg_X1_peelForest_25 {G : z_G} {d : Nat} {S : z_Shp} {v : z_Dat} {Q : Option Value → z_Shp → z_Dat → Prop} {x2 : Int32} (hL : z_L S)
    (h : ((v 149 0) ≤ x2 → (Q none S v)) ∧ (¬ (v 149 0) ≤ x2 → (z_J G d mX1_peelForest (38, [.ref 186, .ref 149, .int x2, .int x2, .int 0], [], S, v) Q))) :
    z_J G d mX1_peelForest (25, [.ref 186, .ref 149, .int x2, .null, .null], [], S, v) Q := by
  refine zj_iload_n dX1_peelForest_25 rfl rfl ?_
  refine zj_aload_n dX1_peelForest_26 rfl rfl ?_
  refine zj_getI (ci := 4) (j := 0) dX1_peelForest_27 wf_X1_82 (by decide) (by decide) (zk_149 hL) rfl ?_
  refine zj_icmp_ge (tgt := 75) dX1_peelForest_30 (by decide) (fun c => ?_) (fun c => ?_)
  · replace h := h.1 c
    exact zj_vret dX1_peelForest_75 rfl h
  · replace h := h.2 c
    refine zj_iload_n dX1_peelForest_33 rfl rfl ?_
    refine zj_istore_n (ls2 := [.ref 186, .ref 149, .int x2, .int x2, .null]) dX1_peelForest_34 rfl (by decide) rfl rfl ?_
    refine zj_iconst (x := 0) dX1_peelForest_35 rfl ?_
    refine zj_istore (ls2 := [.ref 186, .ref 149, .int x2, .int x2, .int 0]) dX1_peelForest_36 (by decide) rfl rfl ?_
    exact h
theorem sg_X1_peelForest_38 {G : z_G} {d : Nat} {S : z_Shp} {v : z_Dat} {Q : Option Value → z_Shp → z_Dat → Prop} {x2 : Int32} {x3 : Int32} {x4 : Int32} (hL : z_L S)
    (h : ((v 149 0) < x4 → (z_J G (d + 1) mX1_peelForest (25, [.ref 186, .ref 149, .int (x2 + 1), .null, .null], [], S, v) Q)) ∧ (¬ (v 149 0) < x4 → (z_J G d mX1_isLeaf (0, [.ref 186, .ref 149, .int x3], [], S, v) (fun r S1 v1 => ∃ y1 : Int32, r = some (.int y1) ∧ S1 = S ∧ ((y1 = 0 → (z_J G (d + 1) mX1_peelForest (25, [.ref 186, .ref 149, .int (x2 + 1), .null, .null], [], S, v1) Q)) ∧ (¬ y1 = 0 → (z_J G d mX1_peelLeaf (0, [.ref 186, .ref 149, .int x3, .null, .null], [], S, v1) (fun r S1 v2 => ∃ y2 : Int32, r = some (.int y2) ∧ S1 = S ∧ (z_J G (d + 1) mX1_peelForest (38, [.ref 186, .ref 149, .int x2, .int y2, .int (x4 + 1)], [], S, v2) Q))))))))) :
    z_J G (d + 1) mX1_peelForest (38, [.ref 186, .ref 149, .int x2, .int x3, .int x4], [], S, v) Q := by
  refine zj_iload dX1_peelForest_38 rfl ?_
  refine zj_aload_n dX1_peelForest_40 rfl rfl ?_
  refine zj_getI (ci := 4) (j := 0) dX1_peelForest_41 wf_X1_82 (by decide) (by decide) (zk_149 hL) rfl ?_
  refine zj_icmp_gt (tgt := 69) dX1_peelForest_44 (by decide) (fun c => ?_) (fun c => ?_)
  · replace h := h.1 c
    refine zj_iinc (y := x2 + 1) (ls2 := [.ref 186, .ref 149, .int (x2 + 1), .int x3, .int x4]) dX1_peelForest_69 rfl rfl (by decide) rfl rfl ?_
    refine zj_goto (tgt := 25) dX1_peelForest_72 (by decide) ?_
    refine zj_forget (ls2 := [.ref 186, .ref 149, .int (x2 + 1), .null, .null]) ⟨Or.inr rfl, Or.inr rfl, Or.inr rfl, Or.inl rfl, Or.inl rfl, trivial⟩ ?_
    exact h
  · replace h := h.2 c
    refine zj_aload_n dX1_peelForest_47 rfl rfl ?_
    refine zj_aload_n dX1_peelForest_48 rfl rfl ?_
    refine zj_iload_n dX1_peelForest_49 rfl rfl ?_
    refine zj_callV (M' := mX1_isLeaf) (avs := [.ref 149, .int x3]) (st := []) (ci := 1) dX1_peelForest_50 wm_X1_isLeaf wl_X1_113 wi_X1_isLeaf ws_X1_isLeaf (by decide) (zk_186 hL) rfl rfl (by decide) rfl (Nat.le_of_ble_eq_true rfl) (Nat.le_of_ble_eq_true rfl) ⟨Or.inl (z_k0 (zk_186 hL)), Or.inl (z_k0 (zk_149 hL)), trivial⟩ trivial (z_J.mono h (fun r S1 v1 hq => ?_))
    obtain ⟨y1, rfl, rfl, h⟩ := hq
    refine zj_if_eq (tgt := 69) dX1_peelForest_53 (by decide) (fun c => ?_) (fun c => ?_)
    · replace h := h.1 c
      refine zj_iinc (y := x2 + 1) (ls2 := [.ref 186, .ref 149, .int (x2 + 1), .int x3, .int x4]) dX1_peelForest_69 rfl rfl (by decide) rfl rfl ?_
      refine zj_goto (tgt := 25) dX1_peelForest_72 (by decide) ?_
      refine zj_forget (ls2 := [.ref 186, .ref 149, .int (x2 + 1), .null, .null]) ⟨Or.inr rfl, Or.inr rfl, Or.inr rfl, Or.inl rfl, Or.inl rfl, trivial⟩ ?_
      exact h
    · replace h := h.2 c
      refine zj_aload_n dX1_peelForest_56 rfl rfl ?_
      refine zj_aload_n dX1_peelForest_57 rfl rfl ?_
      refine zj_iload_n dX1_peelForest_58 rfl rfl ?_
      refine zj_callV (M' := mX1_peelLeaf) (avs := [.ref 149, .int x3]) (st := []) (ci := 1) dX1_peelForest_59 wm_X1_peelLeaf wl_X1_116 wi_X1_peelLeaf ws_X1_peelLeaf (by decide) (zk_186 hL) rfl rfl (by decide) rfl (Nat.le_of_ble_eq_true rfl) (Nat.le_of_ble_eq_true rfl) ⟨Or.inl (z_k0 (zk_186 hL)), Or.inl (z_k0 (zk_149 hL)), trivial⟩ trivial (z_J.mono h (fun r S1 v2 hq => ?_))
      obtain ⟨y2, rfl, rfl, h⟩ := hq
      refine zj_istore_n (ls2 := [.ref 186, .ref 149, .int x2, .int y2, .int x4]) dX1_peelForest_62 rfl (by decide) rfl rfl ?_
      refine zj_iinc (y := x4 + 1) (ls2 := [.ref 186, .ref 149, .int x2, .int y2, .int (x4 + 1)]) dX1_peelForest_63 rfl rfl (by decide) rfl rfl ?_
      refine zj_goto (tgt := 38) dX1_peelForest_66 (by decide) ?_
      exact h
theorem sg_X1_peelLeaf_0 {G : z_G} {d : Nat} {S : z_Shp} {v : z_Dat} {Q : Option Value → z_Shp → z_Dat → Prop} {x2 : Int32} (hL : z_L S)
    (h : (vp_in x2 109) ∧ ((vp_in (v 194 x2.toNatClampNeg) 321) ∧ (vp_in x2 109 ∧ (∀ v1, v1 = z_u v 193 x2.toNatClampNeg 0 → ((vp_in (if v 150 (v 194 x2.toNatClampNeg).toNatClampNeg = x2 then v 151 (v 194 x2.toNatClampNeg).toNatClampNeg else v 150 (v 194 x2.toNatClampNeg).toNatClampNeg) 109) ∧ (vp_in (if v 150 (v 194 x2.toNatClampNeg).toNatClampNeg = x2 then v 151 (v 194 x2.toNatClampNeg).toNatClampNeg else v 150 (v 194 x2.toNatClampNeg).toNatClampNeg) 109 ∧ (∀ v2, v2 = z_u v1 193 (if v 150 (v 194 x2.toNatClampNeg).toNatClampNeg = x2 then v 151 (v 194 x2.toNatClampNeg).toNatClampNeg else v 150 (v 194 x2.toNatClampNeg).toNatClampNeg).toNatClampNeg ((v1 193 (if v 150 (v 194 x2.toNatClampNeg).toNatClampNeg = x2 then v 151 (v 194 x2.toNatClampNeg).toNatClampNeg else v 150 (v 194 x2.toNatClampNeg).toNatClampNeg).toNatClampNeg) - 1) → ((vp_in (if v 150 (v 194 x2.toNatClampNeg).toNatClampNeg = x2 then v 151 (v 194 x2.toNatClampNeg).toNatClampNeg else v 150 (v 194 x2.toNatClampNeg).toNatClampNeg) 109) ∧ (vp_in (if v 150 (v 194 x2.toNatClampNeg).toNatClampNeg = x2 then v 151 (v 194 x2.toNatClampNeg).toNatClampNeg else v 150 (v 194 x2.toNatClampNeg).toNatClampNeg) 109 ∧ (∀ v3, v3 = z_u v2 194 (if v 150 (v 194 x2.toNatClampNeg).toNatClampNeg = x2 then v 151 (v 194 x2.toNatClampNeg).toNatClampNeg else v 150 (v 194 x2.toNatClampNeg).toNatClampNeg).toNatClampNeg ((v2 194 (if v 150 (v 194 x2.toNatClampNeg).toNatClampNeg = x2 then v 151 (v 194 x2.toNatClampNeg).toNatClampNeg else v 150 (v 194 x2.toNatClampNeg).toNatClampNeg).toNatClampNeg) ^^^ (v 194 x2.toNatClampNeg)) → ((vp_in x2 109) ∧ ((¬ (v3 191 x2.toNatClampNeg) = 1 → (Q (some (.int (if v 150 (v 194 x2.toNatClampNeg).toNatClampNeg = x2 then v 151 (v 194 x2.toNatClampNeg).toNatClampNeg else v 150 (v 194 x2.toNatClampNeg).toNatClampNeg))) S v3)) ∧ ((v3 191 x2.toNatClampNeg) = 1 → ((vp_in (if v 150 (v 194 x2.toNatClampNeg).toNatClampNeg = x2 then v 151 (v 194 x2.toNatClampNeg).toNatClampNeg else v 150 (v 194 x2.toNatClampNeg).toNatClampNeg) 109) ∧ (vp_in (if v 150 (v 194 x2.toNatClampNeg).toNatClampNeg = x2 then v 151 (v 194 x2.toNatClampNeg).toNatClampNeg else v 150 (v 194 x2.toNatClampNeg).toNatClampNeg) 109 ∧ (∀ v4, v4 = z_u v3 191 (if v 150 (v 194 x2.toNatClampNeg).toNatClampNeg = x2 then v 151 (v 194 x2.toNatClampNeg).toNatClampNeg else v 150 (v 194 x2.toNatClampNeg).toNatClampNeg).toNatClampNeg ((v3 191 (if v 150 (v 194 x2.toNatClampNeg).toNatClampNeg = x2 then v 151 (v 194 x2.toNatClampNeg).toNatClampNeg else v 150 (v 194 x2.toNatClampNeg).toNatClampNeg).toNatClampNeg) ^^^ 1) → (vp_in (v 194 x2.toNatClampNeg) 321 ∧ (∀ v5, v5 = z_u v4 187 (v 194 x2.toNatClampNeg).toNatClampNeg 1 → (∀ v6, v6 = z_u v5 186 3 ((v5 186 3) + 1) → ((vp_in (v 194 x2.toNatClampNeg) 321) ∧ (∀ v7, v7 = z_u v6 186 4 ((v6 186 4) + (v6 152 (v 194 x2.toNatClampNeg).toNatClampNeg)) → (Q (some (.int (if v 150 (v 194 x2.toNatClampNeg).toNatClampNeg = x2 then v 151 (v 194 x2.toNatClampNeg).toNatClampNeg else v 150 (v 194 x2.toNatClampNeg).toNatClampNeg))) S v7)))))))))))))))))))))) :
    z_J G (d + 1) mX1_peelLeaf (0, [.ref 186, .ref 149, .int x2, .null, .null], [], S, v) Q := by
  refine zj_aload_n dX1_peelLeaf_0 rfl rfl ?_
  refine zj_getR (ci := 1) (j := 12) dX1_peelLeaf_1 wf_X1_33 (by decide) (by decide) (zk_186 hL) rfl (zr_186_12 hL) ?_
  refine zj_iload_n dX1_peelLeaf_4 rfl rfl ?_
  refine zj_iaload dX1_peelLeaf_5 (zk_194 hL) (by rw [(zl_194 hL)]; exact h.1) ?_
  replace h := h.2
  refine zj_istore_n (ls2 := [.ref 186, .ref 149, .int x2, .int (v 194 x2.toNatClampNeg), .null]) dX1_peelLeaf_6 rfl (by decide) rfl rfl ?_
  refine zj_aload_n dX1_peelLeaf_7 rfl rfl ?_
  refine zj_iload_n dX1_peelLeaf_8 rfl rfl ?_
  refine zj_iload_n dX1_peelLeaf_9 rfl rfl ?_
  refine zj_callV (M' := mX4_otherEnd) (avs := [.int (v 194 x2.toNatClampNeg), .int x2]) (st := []) (ci := 4) dX1_peelLeaf_10 wm_X4_otherEnd wl_X1_120 wi_X4_otherEnd ws_X4_otherEnd (by decide) (zk_149 hL) rfl rfl (by decide) rfl (Nat.le_of_ble_eq_true rfl) (Nat.le_of_ble_eq_true rfl) ⟨Or.inl (z_k0 (zk_186 hL)), Or.inl (z_k0 (zk_149 hL)), trivial⟩ trivial (hp_X4_otherEnd hL h.1 ?_)
  replace h := h.2
  refine zj_istore (ls2 := [.ref 186, .ref 149, .int x2, .int (v 194 x2.toNatClampNeg), .int (if v 150 (v 194 x2.toNatClampNeg).toNatClampNeg = x2 then v 151 (v 194 x2.toNatClampNeg).toNatClampNeg else v 150 (v 194 x2.toNatClampNeg).toNatClampNeg)]) dX1_peelLeaf_13 (by decide) rfl rfl ?_
  refine zj_aload_n dX1_peelLeaf_15 rfl rfl ?_
  refine zj_getR (ci := 1) (j := 11) dX1_peelLeaf_16 wf_X1_30 (by decide) (by decide) (zk_186 hL) rfl (zr_186_11 hL) ?_
  refine zj_iload_n dX1_peelLeaf_19 rfl rfl ?_
  refine zj_iconst (x := 0) dX1_peelLeaf_20 rfl ?_
  refine zj_iastore dX1_peelLeaf_21 (zk_193 hL) (by rw [(zl_193 hL)]; exact h.1) (fun v1 ev1 => ?_)
  replace h := h.2 v1 ev1
  refine zj_aload_n dX1_peelLeaf_22 rfl rfl ?_
  refine zj_getR (ci := 1) (j := 11) dX1_peelLeaf_23 wf_X1_30 (by decide) (by decide) (zk_186 hL) rfl (zr_186_11 hL) ?_
  refine zj_iload dX1_peelLeaf_26 rfl ?_
  refine zj_dup2 dX1_peelLeaf_28 rfl rfl ?_
  refine zj_iaload dX1_peelLeaf_29 (zk_193 hL) (by rw [(zl_193 hL)]; exact h.1) ?_
  replace h := h.2
  refine zj_iconst (x := 1) dX1_peelLeaf_30 rfl ?_
  refine zj_isub dX1_peelLeaf_31 ?_
  refine zj_iastore dX1_peelLeaf_32 (zk_193 hL) (by rw [(zl_193 hL)]; exact h.1) (fun v2 ev2 => ?_)
  replace h := h.2 v2 ev2
  refine zj_aload_n dX1_peelLeaf_33 rfl rfl ?_
  refine zj_getR (ci := 1) (j := 12) dX1_peelLeaf_34 wf_X1_33 (by decide) (by decide) (zk_186 hL) rfl (zr_186_12 hL) ?_
  refine zj_iload dX1_peelLeaf_37 rfl ?_
  refine zj_dup2 dX1_peelLeaf_39 rfl rfl ?_
  refine zj_iaload dX1_peelLeaf_40 (zk_194 hL) (by rw [(zl_194 hL)]; exact h.1) ?_
  replace h := h.2
  refine zj_iload_n dX1_peelLeaf_41 rfl rfl ?_
  refine zj_ixor dX1_peelLeaf_42 ?_
  refine zj_iastore dX1_peelLeaf_43 (zk_194 hL) (by rw [(zl_194 hL)]; exact h.1) (fun v3 ev3 => ?_)
  replace h := h.2 v3 ev3
  refine zj_aload_n dX1_peelLeaf_44 rfl rfl ?_
  refine zj_getR (ci := 1) (j := 9) dX1_peelLeaf_45 wf_X1_24 (by decide) (by decide) (zk_186 hL) rfl (zr_186_9 hL) ?_
  refine zj_iload_n dX1_peelLeaf_48 rfl rfl ?_
  refine zj_iaload dX1_peelLeaf_49 (zk_191 hL) (by rw [(zl_191 hL)]; exact h.1) ?_
  replace h := h.2
  refine zj_iconst (x := 1) dX1_peelLeaf_50 rfl ?_
  refine zj_icmp_ne (tgt := 97) dX1_peelLeaf_51 (by decide) (fun c => ?_) (fun c => ?_)
  · replace h := h.1 c
    refine zj_iload dX1_peelLeaf_97 rfl ?_
    exact zj_iret dX1_peelLeaf_99 rfl rfl h
  · replace h := h.2 c
    refine zj_aload_n dX1_peelLeaf_54 rfl rfl ?_
    refine zj_getR (ci := 1) (j := 9) dX1_peelLeaf_55 wf_X1_24 (by decide) (by decide) (zk_186 hL) rfl (zr_186_9 hL) ?_
    refine zj_iload dX1_peelLeaf_58 rfl ?_
    refine zj_dup2 dX1_peelLeaf_60 rfl rfl ?_
    refine zj_iaload dX1_peelLeaf_61 (zk_191 hL) (by rw [(zl_191 hL)]; exact h.1) ?_
    replace h := h.2
    refine zj_iconst (x := 1) dX1_peelLeaf_62 rfl ?_
    refine zj_ixor dX1_peelLeaf_63 ?_
    refine zj_iastore dX1_peelLeaf_64 (zk_191 hL) (by rw [(zl_191 hL)]; exact h.1) (fun v4 ev4 => ?_)
    replace h := h.2 v4 ev4
    refine zj_aload_n dX1_peelLeaf_65 rfl rfl ?_
    refine zj_getR (ci := 1) (j := 5) dX1_peelLeaf_66 wf_X1_9 (by decide) (by decide) (zk_186 hL) rfl (zr_186_5 hL) ?_
    refine zj_iload_n dX1_peelLeaf_69 rfl rfl ?_
    refine zj_iconst (x := 1) dX1_peelLeaf_70 rfl ?_
    refine zj_iastore dX1_peelLeaf_71 (zk_187 hL) (by rw [(zl_187 hL)]; exact h.1) (fun v5 ev5 => ?_)
    replace h := h.2 v5 ev5
    refine zj_aload_n dX1_peelLeaf_72 rfl rfl ?_
    refine zj_dup dX1_peelLeaf_73 rfl ?_
    refine zj_getI (ci := 1) (j := 3) dX1_peelLeaf_74 wf_X1_108 (by decide) (by decide) (zk_186 hL) rfl ?_
    refine zj_iconst (x := 1) dX1_peelLeaf_77 rfl ?_
    refine zj_iadd dX1_peelLeaf_78 ?_
    refine zj_putI (ci := 1) (j := 3) dX1_peelLeaf_79 wf_X1_108 (by decide) (by decide) (zk_186 hL) rfl rfl rfl rfl (fun v6 ev6 => ?_)
    replace h := h v6 ev6
    refine zj_aload_n dX1_peelLeaf_82 rfl rfl ?_
    refine zj_dup dX1_peelLeaf_83 rfl ?_
    refine zj_getI (ci := 1) (j := 4) dX1_peelLeaf_84 wf_X1_111 (by decide) (by decide) (zk_186 hL) rfl ?_
    refine zj_aload_n dX1_peelLeaf_87 rfl rfl ?_
    refine zj_getR (ci := 4) (j := 6) dX1_peelLeaf_88 wf_X1_94 (by decide) (by decide) (zk_149 hL) rfl (zr_149_6 hL) ?_
    refine zj_iload_n dX1_peelLeaf_91 rfl rfl ?_
    refine zj_iaload dX1_peelLeaf_92 (zk_152 hL) (by rw [(zl_152 hL)]; exact h.1) ?_
    replace h := h.2
    refine zj_iadd dX1_peelLeaf_93 ?_
    refine zj_putI (ci := 1) (j := 4) dX1_peelLeaf_94 wf_X1_111 (by decide) (by decide) (zk_186 hL) rfl rfl rfl rfl (fun v7 ev7 => ?_)
    replace h := h v7 ev7
    refine zj_iload dX1_peelLeaf_97 rfl ?_
    exact zj_iret dX1_peelLeaf_99 rfl rfl h
theorem sg_X1_rootOf_0 {G : z_G} {d : Nat} {S : z_Shp} {v : z_Dat} {Q : Option Value → z_Shp → z_Dat → Prop} {x1 : Int32}
    (h : z_J G d mX1_rootOf (4, [.ref 186, .int x1, .int x1, .int 0], [], S, v) Q) :
    z_J G d mX1_rootOf (0, [.ref 186, .int x1, .null, .null], [], S, v) Q := by
  refine zj_iload_n dX1_rootOf_0 rfl rfl ?_
  refine zj_istore_n (ls2 := [.ref 186, .int x1, .int x1, .null]) dX1_rootOf_1 rfl (by decide) rfl rfl ?_
  refine zj_iconst (x := 0) dX1_rootOf_2 rfl ?_
  refine zj_istore_n (ls2 := [.ref 186, .int x1, .int x1, .int 0]) dX1_rootOf_3 rfl (by decide) rfl rfl ?_
  exact h
theorem sg_X1_rootOf_4 {G : z_G} {d : Nat} {S : z_Shp} {v : z_Dat} {Q : Option Value → z_Shp → z_Dat → Prop} {x1 : Int32} {x2 : Int32} {x3 : Int32} (hL : z_L S)
    (h : (108 < x3 → (Q (some (.int x2)) S v)) ∧ (¬ 108 < x3 → ((vp_in x2 109) ∧ (((v 190 x2.toNatClampNeg) = x2 → (Q (some (.int x2)) S v)) ∧ (¬ (v 190 x2.toNatClampNeg) = x2 → ((vp_in x2 109) ∧ ((vp_in (v 190 x2.toNatClampNeg) 109) ∧ (vp_in x2 109 ∧ (∀ v1, v1 = z_u v 190 x2.toNatClampNeg (v 190 (v 190 x2.toNatClampNeg).toNatClampNeg) → ((vp_in x2 109) ∧ (z_J G d mX1_rootOf (4, [.ref 186, .int x1, .int (v1 190 x2.toNatClampNeg), .int (x3 + 1)], [], S, v1) Q))))))))))) :
    z_J G d mX1_rootOf (4, [.ref 186, .int x1, .int x2, .int x3], [], S, v) Q := by
  refine zj_iload_n dX1_rootOf_4 rfl rfl ?_
  refine zj_bipush (x := 108) dX1_rootOf_5 rfl ?_
  refine zj_icmp_gt (tgt := 50) dX1_rootOf_7 (by decide) (fun c => ?_) (fun c => ?_)
  · replace h := h.1 c
    refine zj_iload_n dX1_rootOf_50 rfl rfl ?_
    exact zj_iret dX1_rootOf_51 rfl rfl h
  · replace h := h.2 c
    refine zj_aload_n dX1_rootOf_10 rfl rfl ?_
    refine zj_getR (ci := 1) (j := 8) dX1_rootOf_11 wf_X1_21 (by decide) (by decide) (zk_186 hL) rfl (zr_186_8 hL) ?_
    refine zj_iload_n dX1_rootOf_14 rfl rfl ?_
    refine zj_iaload dX1_rootOf_15 (zk_190 hL) (by rw [(zl_190 hL)]; exact h.1) ?_
    replace h := h.2
    refine zj_iload_n dX1_rootOf_16 rfl rfl ?_
    refine zj_icmp_eq (tgt := 50) dX1_rootOf_17 (by decide) (fun c => ?_) (fun c => ?_)
    · replace h := h.1 c
      refine zj_iload_n dX1_rootOf_50 rfl rfl ?_
      exact zj_iret dX1_rootOf_51 rfl rfl h
    · replace h := h.2 c
      refine zj_aload_n dX1_rootOf_20 rfl rfl ?_
      refine zj_getR (ci := 1) (j := 8) dX1_rootOf_21 wf_X1_21 (by decide) (by decide) (zk_186 hL) rfl (zr_186_8 hL) ?_
      refine zj_iload_n dX1_rootOf_24 rfl rfl ?_
      refine zj_aload_n dX1_rootOf_25 rfl rfl ?_
      refine zj_getR (ci := 1) (j := 8) dX1_rootOf_26 wf_X1_21 (by decide) (by decide) (zk_186 hL) rfl (zr_186_8 hL) ?_
      refine zj_aload_n dX1_rootOf_29 rfl rfl ?_
      refine zj_getR (ci := 1) (j := 8) dX1_rootOf_30 wf_X1_21 (by decide) (by decide) (zk_186 hL) rfl (zr_186_8 hL) ?_
      refine zj_iload_n dX1_rootOf_33 rfl rfl ?_
      refine zj_iaload dX1_rootOf_34 (zk_190 hL) (by rw [(zl_190 hL)]; exact h.1) ?_
      replace h := h.2
      refine zj_iaload dX1_rootOf_35 (zk_190 hL) (by rw [(zl_190 hL)]; exact h.1) ?_
      replace h := h.2
      refine zj_iastore dX1_rootOf_36 (zk_190 hL) (by rw [(zl_190 hL)]; exact h.1) (fun v1 ev1 => ?_)
      replace h := h.2 v1 ev1
      refine zj_aload_n dX1_rootOf_37 rfl rfl ?_
      refine zj_getR (ci := 1) (j := 8) dX1_rootOf_38 wf_X1_21 (by decide) (by decide) (zk_186 hL) rfl (zr_186_8 hL) ?_
      refine zj_iload_n dX1_rootOf_41 rfl rfl ?_
      refine zj_iaload dX1_rootOf_42 (zk_190 hL) (by rw [(zl_190 hL)]; exact h.1) ?_
      replace h := h.2
      refine zj_istore_n (ls2 := [.ref 186, .int x1, .int (v1 190 x2.toNatClampNeg), .int x3]) dX1_rootOf_43 rfl (by decide) rfl rfl ?_
      refine zj_iinc (y := x3 + 1) (ls2 := [.ref 186, .int x1, .int (v1 190 x2.toNatClampNeg), .int (x3 + 1)]) dX1_rootOf_44 rfl rfl (by decide) rfl rfl ?_
      refine zj_goto (tgt := 4) dX1_rootOf_47 (by decide) ?_
      exact h
theorem sg_X2_keep_0 {G : z_G} {d : Nat} {S : z_Shp} {v : z_Dat} {Q : Option Value → z_Shp → z_Dat → Prop} {x1 : Nat} (hL : z_L S) (hx1 : z_isF x1)
    (h : (vp_in (v 59 1) 8) ∧ (z_J G d mX0_copyFrom (0, [.ref (61 + 10 * (v 59 1).toNatClampNeg), .ref x1, .null], [], S, v) (fun r S1 v1 => r = none ∧ z_J G (d + 1) mX2_keep (13, [.ref 59, .ref x1], [], S1, v1) Q))) :
    z_J G (d + 1) mX2_keep (0, [.ref 59, .ref x1], [], S, v) Q := by
  refine zj_aload_n dX2_keep_0 rfl rfl ?_
  refine zj_getR (ci := 2) (j := 2) dX2_keep_1 wf_X2_11 (by decide) (by decide) (zk_59 hL) rfl (zr_59_2 hL) ?_
  refine zj_aload_n dX2_keep_4 rfl rfl ?_
  refine zj_getI (ci := 2) (j := 1) dX2_keep_5 wf_X2_20 (by decide) (by decide) (zk_59 hL) rfl ?_
  obtain ⟨hi1, h⟩ := h
  refine zj_aaload1 dX2_keep_8 (zk_60 hL) (by rw [(zl_60 hL)]; exact hi1) (zRir hL hi1) ?_
  refine zj_aload_n dX2_keep_9 rfl rfl ?_
  refine zj_callV (M' := mX0_copyFrom) (avs := [.ref x1]) (st := []) (ci := 0) dX2_keep_10 wm_X0_copyFrom wl_X2_24 wi_X0_copyFrom ws_X0_copyFrom (by decide) (zFk0 hL (zRif hi1)) rfl rfl (by decide) rfl (Nat.le_of_ble_eq_true rfl) (Nat.le_of_ble_eq_true rfl) ⟨Or.inl (z_k0 (zk_59 hL)), Or.inl (z_k0 (zFk0 hL hx1)), trivial⟩ trivial (z_J.mono h (fun r S1 v1 hq => ?_))
  obtain ⟨rfl, h⟩ := hq
  exact h
theorem sg_X2_keep_13 {G : z_G} {d : Nat} {S : z_Shp} {v : z_Dat} {Q : Option Value → z_Shp → z_Dat → Prop} {x1 : Nat} (hL : z_L S) (hx1 : z_isF x1)
    (h : (8 ≤ ((v 59 1) + 1) → (∀ v1, v1 = z_u v 59 1 0 → (∀ v2, v2 = z_u v1 59 0 (if ((v1 59 0) + 1) < 8 then ((v1 59 0) + 1) else 8) → (Q none S v2)))) ∧ (¬ 8 ≤ ((v 59 1) + 1) → (∀ v3, v3 = z_u v 59 1 ((v 59 1) + 1) → (∀ v4, v4 = z_u v3 59 0 (if ((v3 59 0) + 1) < 8 then ((v3 59 0) + 1) else 8) → (Q none S v4))))) :
    z_J G (d + 1) mX2_keep (13, [.ref 59, .ref x1], [], S, v) Q := by
  refine zj_aload_n dX2_keep_13 rfl rfl ?_
  refine zj_aload_n dX2_keep_14 rfl rfl ?_
  refine zj_getI (ci := 2) (j := 1) dX2_keep_15 wf_X2_20 (by decide) (by decide) (zk_59 hL) rfl ?_
  refine zj_iconst (x := 1) dX2_keep_18 rfl ?_
  refine zj_iadd dX2_keep_19 ?_
  refine zj_bipush (x := 8) dX2_keep_20 rfl ?_
  refine zj_icmp_ge (tgt := 34) dX2_keep_22 (by decide) (fun c => ?_) (fun c => ?_)
  · replace h := h.1 c
    refine zj_iconst (x := 0) dX2_keep_34 rfl ?_
    refine zj_putI (ci := 2) (j := 1) dX2_keep_35 wf_X2_20 (by decide) (by decide) (zk_59 hL) rfl rfl rfl rfl (fun v1 ev1 => ?_)
    replace h := h v1 ev1
    refine zj_aload_n dX2_keep_38 rfl rfl ?_
    refine zj_bipush (x := 8) dX2_keep_39 rfl ?_
    refine zj_aload_n dX2_keep_41 rfl rfl ?_
    refine zj_getI (ci := 2) (j := 0) dX2_keep_42 wf_X2_28 (by decide) (by decide) (zk_59 hL) rfl ?_
    refine zj_iconst (x := 1) dX2_keep_45 rfl ?_
    refine zj_iadd dX2_keep_46 ?_
    refine zj_mmin dX2_keep_47 wl_X2_31 (Nat.le_of_ble_eq_true rfl) ?_
    refine zj_putI (ci := 2) (j := 0) dX2_keep_50 wf_X2_28 (by decide) (by decide) (zk_59 hL) rfl rfl rfl rfl (fun v2 ev2 => ?_)
    replace h := h v2 ev2
    exact zj_vret dX2_keep_53 rfl h
  · replace h := h.2 c
    refine zj_aload_n dX2_keep_25 rfl rfl ?_
    refine zj_getI (ci := 2) (j := 1) dX2_keep_26 wf_X2_20 (by decide) (by decide) (zk_59 hL) rfl ?_
    refine zj_iconst (x := 1) dX2_keep_29 rfl ?_
    refine zj_iadd dX2_keep_30 ?_
    refine zj_goto (tgt := 35) dX2_keep_31 (by decide) ?_
    refine zj_putI (ci := 2) (j := 1) dX2_keep_35 wf_X2_20 (by decide) (by decide) (zk_59 hL) rfl rfl rfl rfl (fun v3 ev3 => ?_)
    replace h := h v3 ev3
    refine zj_aload_n dX2_keep_38 rfl rfl ?_
    refine zj_bipush (x := 8) dX2_keep_39 rfl ?_
    refine zj_aload_n dX2_keep_41 rfl rfl ?_
    refine zj_getI (ci := 2) (j := 0) dX2_keep_42 wf_X2_28 (by decide) (by decide) (zk_59 hL) rfl ?_
    refine zj_iconst (x := 1) dX2_keep_45 rfl ?_
    refine zj_iadd dX2_keep_46 ?_
    refine zj_mmin dX2_keep_47 wl_X2_31 (Nat.le_of_ble_eq_true rfl) ?_
    refine zj_putI (ci := 2) (j := 0) dX2_keep_50 wf_X2_28 (by decide) (by decide) (zk_59 hL) rfl rfl rfl rfl (fun v4 ev4 => ?_)
    replace h := h v4 ev4
    exact zj_vret dX2_keep_53 rfl h
theorem sg_X2_takeBack_0 {G : z_G} {d : Nat} {S : z_Shp} {v : z_Dat} {Q : Option Value → z_Shp → z_Dat → Prop} {x1 : Nat} (hL : z_L S) (hx1 : z_isF x1)
    (h : ((v 59 1) ≤ 0 → (∀ v1, v1 = z_u v 59 1 7 → (∀ v2, v2 = z_u v1 59 0 ((v1 59 0) - 1) → ((vp_in (v2 59 1) 8) ∧ (z_J G d mX0_copyFrom (0, [.ref x1, .ref (61 + 10 * (v2 59 1).toNatClampNeg), .null], [], S, v2) (fun r S1 v3 => r = none ∧ z_J G (d + 1) mX2_takeBack (45, [.ref 59, .ref x1], [], S1, v3) Q)))))) ∧ (¬ (v 59 1) ≤ 0 → (∀ v4, v4 = z_u v 59 1 ((v 59 1) - 1) → (∀ v5, v5 = z_u v4 59 0 ((v4 59 0) - 1) → ((vp_in (v5 59 1) 8) ∧ (z_J G d mX0_copyFrom (0, [.ref x1, .ref (61 + 10 * (v5 59 1).toNatClampNeg), .null], [], S, v5) (fun r S1 v6 => r = none ∧ z_J G (d + 1) mX2_takeBack (45, [.ref 59, .ref x1], [], S1, v6) Q))))))) :
    z_J G (d + 1) mX2_takeBack (0, [.ref 59, .ref x1], [], S, v) Q := by
  refine zj_aload_n dX2_takeBack_0 rfl rfl ?_
  refine zj_aload_n dX2_takeBack_1 rfl rfl ?_
  refine zj_getI (ci := 2) (j := 1) dX2_takeBack_2 wf_X2_20 (by decide) (by decide) (zk_59 hL) rfl ?_
  refine zj_if_le (tgt := 17) dX2_takeBack_5 (by decide) (fun c => ?_) (fun c => ?_)
  · replace h := h.1 c
    refine zj_bipush (x := 7) dX2_takeBack_17 rfl ?_
    refine zj_putI (ci := 2) (j := 1) dX2_takeBack_19 wf_X2_20 (by decide) (by decide) (zk_59 hL) rfl rfl rfl rfl (fun v1 ev1 => ?_)
    replace h := h v1 ev1
    refine zj_aload_n dX2_takeBack_22 rfl rfl ?_
    refine zj_dup dX2_takeBack_23 rfl ?_
    refine zj_getI (ci := 2) (j := 0) dX2_takeBack_24 wf_X2_28 (by decide) (by decide) (zk_59 hL) rfl ?_
    refine zj_iconst (x := 1) dX2_takeBack_27 rfl ?_
    refine zj_isub dX2_takeBack_28 ?_
    refine zj_putI (ci := 2) (j := 0) dX2_takeBack_29 wf_X2_28 (by decide) (by decide) (zk_59 hL) rfl rfl rfl rfl (fun v2 ev2 => ?_)
    replace h := h v2 ev2
    refine zj_aload_n dX2_takeBack_32 rfl rfl ?_
    refine zj_aload_n dX2_takeBack_33 rfl rfl ?_
    refine zj_getR (ci := 2) (j := 2) dX2_takeBack_34 wf_X2_11 (by decide) (by decide) (zk_59 hL) rfl (zr_59_2 hL) ?_
    refine zj_aload_n dX2_takeBack_37 rfl rfl ?_
    refine zj_getI (ci := 2) (j := 1) dX2_takeBack_38 wf_X2_20 (by decide) (by decide) (zk_59 hL) rfl ?_
    obtain ⟨hi1, h⟩ := h
    refine zj_aaload1 dX2_takeBack_41 (zk_60 hL) (by rw [(zl_60 hL)]; exact hi1) (zRir hL hi1) ?_
    refine zj_callV (M' := mX0_copyFrom) (avs := [.ref (61 + 10 * (v2 59 1).toNatClampNeg)]) (st := []) (ci := 0) dX2_takeBack_42 wm_X0_copyFrom wl_X2_24 wi_X0_copyFrom ws_X0_copyFrom (by decide) (zFk0 hL hx1) rfl rfl (by decide) rfl (Nat.le_of_ble_eq_true rfl) (Nat.le_of_ble_eq_true rfl) ⟨Or.inl (z_k0 (zk_59 hL)), Or.inl (z_k0 (zFk0 hL hx1)), trivial⟩ trivial (z_J.mono h (fun r S1 v3 hq => ?_))
    obtain ⟨rfl, h⟩ := hq
    exact h
  · replace h := h.2 c
    refine zj_aload_n dX2_takeBack_8 rfl rfl ?_
    refine zj_getI (ci := 2) (j := 1) dX2_takeBack_9 wf_X2_20 (by decide) (by decide) (zk_59 hL) rfl ?_
    refine zj_iconst (x := 1) dX2_takeBack_12 rfl ?_
    refine zj_isub dX2_takeBack_13 ?_
    refine zj_goto (tgt := 19) dX2_takeBack_14 (by decide) ?_
    refine zj_putI (ci := 2) (j := 1) dX2_takeBack_19 wf_X2_20 (by decide) (by decide) (zk_59 hL) rfl rfl rfl rfl (fun v4 ev4 => ?_)
    replace h := h v4 ev4
    refine zj_aload_n dX2_takeBack_22 rfl rfl ?_
    refine zj_dup dX2_takeBack_23 rfl ?_
    refine zj_getI (ci := 2) (j := 0) dX2_takeBack_24 wf_X2_28 (by decide) (by decide) (zk_59 hL) rfl ?_
    refine zj_iconst (x := 1) dX2_takeBack_27 rfl ?_
    refine zj_isub dX2_takeBack_28 ?_
    refine zj_putI (ci := 2) (j := 0) dX2_takeBack_29 wf_X2_28 (by decide) (by decide) (zk_59 hL) rfl rfl rfl rfl (fun v5 ev5 => ?_)
    replace h := h v5 ev5
    refine zj_aload_n dX2_takeBack_32 rfl rfl ?_
    refine zj_aload_n dX2_takeBack_33 rfl rfl ?_
    refine zj_getR (ci := 2) (j := 2) dX2_takeBack_34 wf_X2_11 (by decide) (by decide) (zk_59 hL) rfl (zr_59_2 hL) ?_
    refine zj_aload_n dX2_takeBack_37 rfl rfl ?_
    refine zj_getI (ci := 2) (j := 1) dX2_takeBack_38 wf_X2_20 (by decide) (by decide) (zk_59 hL) rfl ?_
    obtain ⟨hi2, h⟩ := h
    refine zj_aaload1 dX2_takeBack_41 (zk_60 hL) (by rw [(zl_60 hL)]; exact hi2) (zRir hL hi2) ?_
    refine zj_callV (M' := mX0_copyFrom) (avs := [.ref (61 + 10 * (v5 59 1).toNatClampNeg)]) (st := []) (ci := 0) dX2_takeBack_42 wm_X0_copyFrom wl_X2_24 wi_X0_copyFrom ws_X0_copyFrom (by decide) (zFk0 hL hx1) rfl rfl (by decide) rfl (Nat.le_of_ble_eq_true rfl) (Nat.le_of_ble_eq_true rfl) ⟨Or.inl (z_k0 (zk_59 hL)), Or.inl (z_k0 (zFk0 hL hx1)), trivial⟩ trivial (z_J.mono h (fun r S1 v6 hq => ?_))
    obtain ⟨rfl, h⟩ := hq
    exact h
theorem sg_X2_takeBack_45 {G : z_G} {d : Nat} {S : z_Shp} {v : z_Dat} {Q : Option Value → z_Shp → z_Dat → Prop} {x1 : Nat} (hx1 : z_isF x1)
    (h : Q none S v) :
    z_J G d mX2_takeBack (45, [.ref 59, .ref x1], [], S, v) Q := by
  exact zj_vret dX2_takeBack_45 rfl h
theorem sg_X3_chances_0 {G : z_G} {d : Nat} {S : z_Shp} {v : z_Dat} {Q : Option Value → z_Shp → z_Dat → Prop} {x1 : Int32} {x2 : Int32} {x3 : Int32}
    (h : z_J G d mX3_chances (6, [.ref 195, .int x1, .int x2, .int x3, .long 0, .null, .int 0, .null, .null, .null, .null], [], S, v) Q) :
    z_J G d mX3_chances (0, [.ref 195, .int x1, .int x2, .int x3, .null, .null, .null, .null, .null, .null, .null], [], S, v) Q := by
  refine zj_lconst (x := 0) dX3_chances_0 rfl ?_
  refine zj_lstore (ls2 := [.ref 195, .int x1, .int x2, .int x3, .long 0, .null, .null, .null, .null, .null, .null]) dX3_chances_1 (by decide) rfl rfl ?_
  refine zj_iconst (x := 0) dX3_chances_3 rfl ?_
  refine zj_istore (ls2 := [.ref 195, .int x1, .int x2, .int x3, .long 0, .null, .int 0, .null, .null, .null, .null]) dX3_chances_4 (by decide) rfl rfl ?_
  exact h
theorem sg_X3_chances_6 {G : z_G} {d : Nat} {S : z_Shp} {v : z_Dat} {Q : Option Value → z_Shp → z_Dat → Prop} {x1 : Int32} {x2 : Int32} {x3 : Int32} {x4 : Int64} {x6 : Int32} (hL : z_L S)
    (h : (x1 < x6 → (Q (some (.long x4)) S v)) ∧ (¬ x1 < x6 → (z_J G d mX3_power (0, [.int x2, .int x6, .null, .null, .null], [], S, v) (fun r S1 v1 => ∃ y1 : Int64, r = some (.long y1) ∧ S1 = S ∧ (z_J G d mX3_power (0, [.int x3, .int (x1 - x6), .null, .null, .null], [], S, v1) (fun r S1 v2 => ∃ y2 : Int64, r = some (.long y2) ∧ S1 = S ∧ (z_J G d mX3_times (0, [.long y1, .null, .long y2, .null], [], S, v2) (fun r S1 v3 => ∃ y3 : Int64, r = some (.long y3) ∧ S1 = S ∧ ((vp_in x6 26) ∧ (z_J G d mX3_times (0, [.long ((v3 196 x6.toNatClampNeg).toInt64), .null, .long y3, .null], [], S, v3) (fun r S1 v4 => ∃ y4 : Int64, r = some (.long y4) ∧ S1 = S ∧ (((lg_cmp y4 (-1)) = 0 → (Q (some (.long (-1))) S v4)) ∧ (¬ (lg_cmp y4 (-1)) = 0 → (((lg_cmp y4 (9223372036854775807 - x4)) ≤ 0 → (z_J G (d + 1) mX3_chances (6, [.ref 195, .int x1, .int x2, .int x3, .long (x4 + y4), .null, .int (x6 + 1), .null, .null, .null, .null], [], S, v4) Q)) ∧ (¬ (lg_cmp y4 (9223372036854775807 - x4)) ≤ 0 → (Q (some (.long (-1))) S v4)))))))))))))))) :
    z_J G (d + 1) mX3_chances (6, [.ref 195, .int x1, .int x2, .int x3, .long x4, .null, .int x6, .null, .null, .null, .null], [], S, v) Q := by
  refine zj_iload dX3_chances_6 rfl ?_
  refine zj_iload_n dX3_chances_8 rfl rfl ?_
  refine zj_icmp_gt (tgt := 84) dX3_chances_9 (by decide) (fun c => ?_) (fun c => ?_)
  · replace h := h.1 c
    refine zj_lload dX3_chances_84 rfl ?_
    exact zj_lret dX3_chances_86 rfl h
  · replace h := h.2 c
    refine zj_iload_n dX3_chances_12 rfl rfl ?_
    refine zj_iload dX3_chances_13 rfl ?_
    refine zj_callS (M' := mX3_power) (avs := [.int x2, .int x6]) (st := []) dX3_chances_15 wm_X3_power wl_X3_59 wt_X3_power rfl (by decide) rfl (Nat.le_of_ble_eq_true rfl) (Nat.le_of_ble_eq_true rfl) ⟨Or.inl (z_k0 (zk_195 hL)), trivial⟩ trivial (z_J.mono h (fun r S1 v1 hq => ?_))
    obtain ⟨y1, rfl, rfl, h⟩ := hq
    refine zj_iload_n dX3_chances_18 rfl rfl ?_
    refine zj_iload_n dX3_chances_19 rfl rfl ?_
    refine zj_iload dX3_chances_20 rfl ?_
    refine zj_isub dX3_chances_22 ?_
    refine zj_callS (M' := mX3_power) (avs := [.int x3, .int (x1 - x6)]) (st := [.long y1]) dX3_chances_23 wm_X3_power wl_X3_59 wt_X3_power rfl (by decide) rfl (Nat.le_of_ble_eq_true rfl) (Nat.le_of_ble_eq_true rfl) ⟨Or.inl (z_k0 (zk_195 hL)), trivial⟩ trivial (z_J.mono h (fun r S1 v2 hq => ?_))
    obtain ⟨y2, rfl, rfl, h⟩ := hq
    refine zj_callS (M' := mX3_times) (avs := [.long y1, .long y2]) (st := []) dX3_chances_26 wm_X3_times wl_X3_63 wt_X3_times rfl (by decide) rfl (Nat.le_of_ble_eq_true rfl) (Nat.le_of_ble_eq_true rfl) ⟨Or.inl (z_k0 (zk_195 hL)), trivial⟩ trivial (z_J.mono h (fun r S1 v3 hq => ?_))
    obtain ⟨y3, rfl, rfl, h⟩ := hq
    refine zj_lstore (ls2 := [.ref 195, .int x1, .int x2, .int x3, .long x4, .null, .int x6, .long y3, .null, .null, .null]) dX3_chances_29 (by decide) rfl rfl ?_
    refine zj_aload_n dX3_chances_31 rfl rfl ?_
    refine zj_getR (ci := 3) (j := 0) dX3_chances_32 wf_X3_9 (by decide) (by decide) (zk_195 hL) rfl (zr_195_0 hL) ?_
    refine zj_iload dX3_chances_35 rfl ?_
    refine zj_iaload dX3_chances_37 (zk_196 hL) (by rw [(zl_196 hL)]; exact h.1) ?_
    replace h := h.2
    refine zj_i2l dX3_chances_38 ?_
    refine zj_lload dX3_chances_39 rfl ?_
    refine zj_callS (M' := mX3_times) (avs := [.long ((v3 196 x6.toNatClampNeg).toInt64), .long y3]) (st := []) dX3_chances_41 wm_X3_times wl_X3_63 wt_X3_times rfl (by decide) rfl (Nat.le_of_ble_eq_true rfl) (Nat.le_of_ble_eq_true rfl) ⟨Or.inl (z_k0 (zk_195 hL)), trivial⟩ trivial (z_J.mono h (fun r S1 v4 hq => ?_))
    obtain ⟨y4, rfl, rfl, h⟩ := hq
    refine zj_lstore (ls2 := [.ref 195, .int x1, .int x2, .int x3, .long x4, .null, .int x6, .long y3, .null, .long y4, .null]) dX3_chances_44 (by decide) rfl rfl ?_
    refine zj_lload dX3_chances_46 rfl ?_
    refine zj_ldc2 (x := (-1)) dX3_chances_48 wc_X3_67 ?_
    refine zj_lcmp dX3_chances_51 ?_
    refine zj_if_eq (tgt := 67) dX3_chances_52 (by decide) (fun c => ?_) (fun c => ?_)
    · replace h := h.1 c
      refine zj_ldc2 (x := (-1)) dX3_chances_67 wc_X3_67 ?_
      exact zj_lret dX3_chances_70 rfl h
    · replace h := h.2 c
      refine zj_lload dX3_chances_55 rfl ?_
      refine zj_ldc2 (x := 9223372036854775807) dX3_chances_57 wc_X3_69 ?_
      refine zj_lload dX3_chances_60 rfl ?_
      refine zj_lsub dX3_chances_62 ?_
      refine zj_lcmp dX3_chances_63 ?_
      refine zj_if_le (tgt := 71) dX3_chances_64 (by decide) (fun c => ?_) (fun c => ?_)
      · replace h := h.1 c
        refine zj_lload dX3_chances_71 rfl ?_
        refine zj_lload dX3_chances_73 rfl ?_
        refine zj_ladd dX3_chances_75 ?_
        refine zj_lstore (ls2 := [.ref 195, .int x1, .int x2, .int x3, .long (x4 + y4), .null, .int x6, .long y3, .null, .long y4, .null]) dX3_chances_76 (by decide) rfl rfl ?_
        refine zj_iinc (y := x6 + 1) (ls2 := [.ref 195, .int x1, .int x2, .int x3, .long (x4 + y4), .null, .int (x6 + 1), .long y3, .null, .long y4, .null]) dX3_chances_78 rfl rfl (by decide) rfl rfl ?_
        refine zj_goto (tgt := 6) dX3_chances_81 (by decide) ?_
        refine zj_forget (ls2 := [.ref 195, .int x1, .int x2, .int x3, .long (x4 + y4), .null, .int (x6 + 1), .null, .null, .null, .null]) ⟨Or.inr rfl, Or.inr rfl, Or.inr rfl, Or.inr rfl, Or.inr rfl, Or.inr rfl, Or.inr rfl, Or.inl rfl, Or.inr rfl, Or.inl rfl, Or.inr rfl, trivial⟩ ?_
        exact h
      · replace h := h.2 c
        refine zj_ldc2 (x := (-1)) dX3_chances_67 wc_X3_67 ?_
        exact zj_lret dX3_chances_70 rfl h
theorem sg_X3_countSizes_0 {G : z_G} {d : Nat} {S : z_Shp} {v : z_Dat} {Q : Option Value → z_Shp → z_Dat → Prop} {x1 : Nat} {x2 : Int32} {x3 : Int32} {w_x1 : Nat} (hL : z_L S) (hx1 : z_isF x1) (rw_x1 : z_r S x1 0 = some w_x1) (hw_x1 : z_isW w_x1)
    (h : z_J G d mJ7_fill_53178 (0, [.ref 196, .int 0, .null, .null], [], S, v) (fun r S1 v1 => r = none ∧ S1 = S ∧ ((vp_in x2 2) ∧ (z_J G d mX9_logicalOf (0, [.ref w_x1, .int x2, .int (v1 (x1 + 1) x2.toNatClampNeg)], [], S, v1) (fun r S1 v2 => ∃ y1 : Int32, r = some (.int y1) ∧ S1 = S ∧ ((y1 = x3 → ((vp_in (z_pc (v1 (x1 + 1) x2.toNatClampNeg)) 26) ∧ (vp_in (z_pc (v1 (x1 + 1) x2.toNatClampNeg)) 26 ∧ (∀ v3, v3 = z_u v2 196 (z_pc (v1 (x1 + 1) x2.toNatClampNeg)).toNatClampNeg ((v2 196 (z_pc (v1 (x1 + 1) x2.toNatClampNeg)).toNatClampNeg) + 1) → (z_J G (d + 1) mX3_countSizes (72, [.ref 195, .ref x1, .int x2, .int x3, .ref w_x1, .int (v1 (x1 + 1) x2.toNatClampNeg), .int ((1 : Int32) <<< ((v3 w_x1 2) &&& 31)), .int 1], [], S, v3) Q))))) ∧ (¬ y1 = x3 → ((vp_in x2 2) ∧ ((vp_in (z_pc ((v1 (x1 + 1) x2.toNatClampNeg) ^^^ (v2 (w_x1 + 17) x2.toNatClampNeg))) 26) ∧ (vp_in (z_pc ((v1 (x1 + 1) x2.toNatClampNeg) ^^^ (v2 (w_x1 + 17) x2.toNatClampNeg))) 26 ∧ (∀ v4, v4 = z_u v2 196 (z_pc ((v1 (x1 + 1) x2.toNatClampNeg) ^^^ (v2 (w_x1 + 17) x2.toNatClampNeg))).toNatClampNeg ((v2 196 (z_pc ((v1 (x1 + 1) x2.toNatClampNeg) ^^^ (v2 (w_x1 + 17) x2.toNatClampNeg))).toNatClampNeg) + 1) → (z_J G (d + 1) mX3_countSizes (72, [.ref 195, .ref x1, .int x2, .int x3, .ref w_x1, .int ((v1 (x1 + 1) x2.toNatClampNeg) ^^^ (v2 (w_x1 + 17) x2.toNatClampNeg)), .int ((1 : Int32) <<< ((v4 w_x1 2) &&& 31)), .int 1], [], S, v4) Q)))))))))))) :
    z_J G (d + 1) mX3_countSizes (0, [.ref 195, .ref x1, .int x2, .int x3, .null, .null, .null, .null], [], S, v) Q := by
  refine zj_aload_n dX3_countSizes_0 rfl rfl ?_
  refine zj_getR (ci := 0) (j := 0) dX3_countSizes_1 wf_X3_18 (by decide) (by decide) (zFk0 hL hx1) rfl rw_x1 ?_
  refine zj_astore (ls2 := [.ref 195, .ref x1, .int x2, .int x3, .ref w_x1, .null, .null, .null]) dX3_countSizes_4 (by decide) rfl rfl ?_
  refine zj_aload_n dX3_countSizes_6 rfl rfl ?_
  refine zj_getR (ci := 3) (j := 0) dX3_countSizes_7 wf_X3_9 (by decide) (by decide) (zk_195 hL) rfl (zr_195_0 hL) ?_
  refine zj_iconst (x := 0) dX3_countSizes_10 rfl ?_
  refine zj_callS (M' := mJ7_fill_53178) (avs := [.ref 196, .int 0]) (st := []) dX3_countSizes_11 wm_J7_fill_53178 wl_X3_24 wt_J7_fill_53178 rfl (by decide) rfl (Nat.le_of_ble_eq_true rfl) (Nat.le_of_ble_eq_true rfl) ⟨Or.inl (z_k0 (zk_195 hL)), Or.inl (z_k0 (zFk0 hL hx1)), Or.inl (z_k0 (zWk0 hL hw_x1)), trivial⟩ trivial (z_J.mono h (fun r S1 v1 hq => ?_))
  obtain ⟨rfl, rfl, h⟩ := hq
  refine zj_aload_n dX3_countSizes_14 rfl rfl ?_
  refine zj_getR (ci := 0) (j := 2) dX3_countSizes_15 wf_X3_30 (by decide) (by decide) (zFk0 hL hx1) rfl (zFr0_2 hL hx1) ?_
  refine zj_iload_n dX3_countSizes_18 rfl rfl ?_
  refine zj_iaload dX3_countSizes_19 (zFk1 hL hx1) (by rw [(zFl1 hL hx1)]; exact h.1) ?_
  replace h := h.2
  refine zj_istore (ls2 := [.ref 195, .ref x1, .int x2, .int x3, .ref w_x1, .int (v1 (x1 + 1) x2.toNatClampNeg), .null, .null]) dX3_countSizes_20 (by decide) rfl rfl ?_
  refine zj_aload dX3_countSizes_22 rfl ?_
  refine zj_iload_n dX3_countSizes_24 rfl rfl ?_
  refine zj_iload dX3_countSizes_25 rfl ?_
  refine zj_callV (M' := mX9_logicalOf) (avs := [.int x2, .int (v1 (x1 + 1) x2.toNatClampNeg)]) (st := []) (ci := 9) dX3_countSizes_27 wm_X9_logicalOf wl_X3_33 wi_X9_logicalOf ws_X9_logicalOf (by decide) (zWk0 hL hw_x1) rfl rfl (by decide) rfl (Nat.le_of_ble_eq_true rfl) (Nat.le_of_ble_eq_true rfl) ⟨Or.inl (z_k0 (zk_195 hL)), Or.inl (z_k0 (zFk0 hL hx1)), Or.inl (z_k0 (zWk0 hL hw_x1)), trivial⟩ trivial (z_J.mono h (fun r S1 v2 hq => ?_))
  obtain ⟨y1, rfl, rfl, h⟩ := hq
  refine zj_iload_n dX3_countSizes_30 rfl rfl ?_
  refine zj_icmp_eq (tgt := 46) dX3_countSizes_31 (by decide) (fun c => ?_) (fun c => ?_)
  · replace h := h.1 c
    refine zj_aload_n dX3_countSizes_46 rfl rfl ?_
    refine zj_getR (ci := 3) (j := 0) dX3_countSizes_47 wf_X3_9 (by decide) (by decide) (zk_195 hL) rfl (zr_195_0 hL) ?_
    refine zj_iload dX3_countSizes_50 rfl ?_
    refine zj_callS (M' := mJ6_bitCount_0f7a4) (avs := [.int (v1 (x1 + 1) x2.toNatClampNeg)]) (st := [.ref 196]) dX3_countSizes_52 wm_J6_bitCount_0f7a4 wl_X3_42 wt_J6_bitCount_0f7a4 rfl (by decide) rfl (Nat.le_of_ble_eq_true rfl) (Nat.le_of_ble_eq_true rfl) ⟨Or.inl (z_k0 (zk_195 hL)), Or.inl (z_k0 (zFk0 hL hx1)), Or.inl (z_k0 (zWk0 hL hw_x1)), trivial⟩ ⟨Or.inl (z_k0 (zk_196 hL)), trivial⟩ (hp_J6_bitCount_0f7a4 ?_)
    refine zj_dup2 dX3_countSizes_55 rfl rfl ?_
    refine zj_iaload dX3_countSizes_56 (zk_196 hL) (by rw [(zl_196 hL)]; exact h.1) ?_
    replace h := h.2
    refine zj_iconst (x := 1) dX3_countSizes_57 rfl ?_
    refine zj_iadd dX3_countSizes_58 ?_
    refine zj_iastore dX3_countSizes_59 (zk_196 hL) (by rw [(zl_196 hL)]; exact h.1) (fun v3 ev3 => ?_)
    replace h := h.2 v3 ev3
    refine zj_iconst (x := 1) dX3_countSizes_60 rfl ?_
    refine zj_aload dX3_countSizes_61 rfl ?_
    refine zj_getI (ci := 9) (j := 2) dX3_countSizes_63 wf_X3_48 (by decide) (by decide) (zWk0 hL hw_x1) rfl ?_
    refine zj_ishl dX3_countSizes_66 ?_
    refine zj_istore (ls2 := [.ref 195, .ref x1, .int x2, .int x3, .ref w_x1, .int (v1 (x1 + 1) x2.toNatClampNeg), .int ((1 : Int32) <<< ((v3 w_x1 2) &&& 31)), .null]) dX3_countSizes_67 (by decide) rfl rfl ?_
    refine zj_iconst (x := 1) dX3_countSizes_69 rfl ?_
    refine zj_istore (ls2 := [.ref 195, .ref x1, .int x2, .int x3, .ref w_x1, .int (v1 (x1 + 1) x2.toNatClampNeg), .int ((1 : Int32) <<< ((v3 w_x1 2) &&& 31)), .int 1]) dX3_countSizes_70 (by decide) rfl rfl ?_
    exact h
  · replace h := h.2 c
    refine zj_iload dX3_countSizes_34 rfl ?_
    refine zj_aload dX3_countSizes_36 rfl ?_
    refine zj_getR (ci := 9) (j := 9) dX3_countSizes_38 wf_X3_39 (by decide) (by decide) (zWk0 hL hw_x1) rfl (zWr0_9 hL hw_x1) ?_
    refine zj_iload_n dX3_countSizes_41 rfl rfl ?_
    refine zj_iaload dX3_countSizes_42 (zWk17 hL hw_x1) (by rw [(zWl17 hL hw_x1)]; exact h.1) ?_
    replace h := h.2
    refine zj_ixor dX3_countSizes_43 ?_
    refine zj_istore (ls2 := [.ref 195, .ref x1, .int x2, .int x3, .ref w_x1, .int ((v1 (x1 + 1) x2.toNatClampNeg) ^^^ (v2 (w_x1 + 17) x2.toNatClampNeg)), .null, .null]) dX3_countSizes_44 (by decide) rfl rfl ?_
    refine zj_aload_n dX3_countSizes_46 rfl rfl ?_
    refine zj_getR (ci := 3) (j := 0) dX3_countSizes_47 wf_X3_9 (by decide) (by decide) (zk_195 hL) rfl (zr_195_0 hL) ?_
    refine zj_iload dX3_countSizes_50 rfl ?_
    refine zj_callS (M' := mJ6_bitCount_0f7a4) (avs := [.int ((v1 (x1 + 1) x2.toNatClampNeg) ^^^ (v2 (w_x1 + 17) x2.toNatClampNeg))]) (st := [.ref 196]) dX3_countSizes_52 wm_J6_bitCount_0f7a4 wl_X3_42 wt_J6_bitCount_0f7a4 rfl (by decide) rfl (Nat.le_of_ble_eq_true rfl) (Nat.le_of_ble_eq_true rfl) ⟨Or.inl (z_k0 (zk_195 hL)), Or.inl (z_k0 (zFk0 hL hx1)), Or.inl (z_k0 (zWk0 hL hw_x1)), trivial⟩ ⟨Or.inl (z_k0 (zk_196 hL)), trivial⟩ (hp_J6_bitCount_0f7a4 ?_)
    refine zj_dup2 dX3_countSizes_55 rfl rfl ?_
    refine zj_iaload dX3_countSizes_56 (zk_196 hL) (by rw [(zl_196 hL)]; exact h.1) ?_
    replace h := h.2
    refine zj_iconst (x := 1) dX3_countSizes_57 rfl ?_
    refine zj_iadd dX3_countSizes_58 ?_
    refine zj_iastore dX3_countSizes_59 (zk_196 hL) (by rw [(zl_196 hL)]; exact h.1) (fun v4 ev4 => ?_)
    replace h := h.2 v4 ev4
    refine zj_iconst (x := 1) dX3_countSizes_60 rfl ?_
    refine zj_aload dX3_countSizes_61 rfl ?_
    refine zj_getI (ci := 9) (j := 2) dX3_countSizes_63 wf_X3_48 (by decide) (by decide) (zWk0 hL hw_x1) rfl ?_
    refine zj_ishl dX3_countSizes_66 ?_
    refine zj_istore (ls2 := [.ref 195, .ref x1, .int x2, .int x3, .ref w_x1, .int ((v1 (x1 + 1) x2.toNatClampNeg) ^^^ (v2 (w_x1 + 17) x2.toNatClampNeg)), .int ((1 : Int32) <<< ((v4 w_x1 2) &&& 31)), .null]) dX3_countSizes_67 (by decide) rfl rfl ?_
    refine zj_iconst (x := 1) dX3_countSizes_69 rfl ?_
    refine zj_istore (ls2 := [.ref 195, .ref x1, .int x2, .int x3, .ref w_x1, .int ((v1 (x1 + 1) x2.toNatClampNeg) ^^^ (v2 (w_x1 + 17) x2.toNatClampNeg)), .int ((1 : Int32) <<< ((v4 w_x1 2) &&& 31)), .int 1]) dX3_countSizes_70 (by decide) rfl rfl ?_
    exact h
theorem sg_X3_countSizes_72 {G : z_G} {d : Nat} {S : z_Shp} {v : z_Dat} {Q : Option Value → z_Shp → z_Dat → Prop} {x2 : Int32} {x3 : Int32} {x5 : Int32} {x6 : Int32} {x7 : Int32} {x1 : Nat} {w_x1 : Nat} (hL : z_L S) (hx1 : z_isF x1) (hw_x1 : z_isW w_x1)
    (h : (x6 ≤ x7 → (Q none S v)) ∧ (¬ x6 ≤ x7 → ((vp_in ((1 : Int32) - x2) 2) ∧ ((vp_in (z_tz x7) 12) ∧ ((vp_in (z_pc (x5 ^^^ (v (w_x1 + 8 + ((1 : Int32) - x2).toNatClampNeg) (z_tz x7).toNatClampNeg))) 26) ∧ (vp_in (z_pc (x5 ^^^ (v (w_x1 + 8 + ((1 : Int32) - x2).toNatClampNeg) (z_tz x7).toNatClampNeg))) 26 ∧ (∀ v1, v1 = z_u v 196 (z_pc (x5 ^^^ (v (w_x1 + 8 + ((1 : Int32) - x2).toNatClampNeg) (z_tz x7).toNatClampNeg))).toNatClampNeg ((v 196 (z_pc (x5 ^^^ (v (w_x1 + 8 + ((1 : Int32) - x2).toNatClampNeg) (z_tz x7).toNatClampNeg))).toNatClampNeg) + 1) → (z_J G (d + 1) mX3_countSizes (72, [.ref 195, .ref x1, .int x2, .int x3, .ref w_x1, .int (x5 ^^^ (v (w_x1 + 8 + ((1 : Int32) - x2).toNatClampNeg) (z_tz x7).toNatClampNeg)), .int x6, .int (x7 + 1)], [], S, v1) Q)))))))) :
    z_J G (d + 1) mX3_countSizes (72, [.ref 195, .ref x1, .int x2, .int x3, .ref w_x1, .int x5, .int x6, .int x7], [], S, v) Q := by
  refine zj_iload dX3_countSizes_72 rfl ?_
  refine zj_iload dX3_countSizes_74 rfl ?_
  refine zj_icmp_ge (tgt := 119) dX3_countSizes_76 (by decide) (fun c => ?_) (fun c => ?_)
  · replace h := h.1 c
    exact zj_vret dX3_countSizes_119 rfl h
  · replace h := h.2 c
    refine zj_iload dX3_countSizes_79 rfl ?_
    refine zj_aload dX3_countSizes_81 rfl ?_
    refine zj_getR (ci := 9) (j := 5) dX3_countSizes_83 wf_X3_52 (by decide) (by decide) (zWk0 hL hw_x1) rfl (zWr0_5 hL hw_x1) ?_
    refine zj_iconst (x := 1) dX3_countSizes_86 rfl ?_
    refine zj_iload_n dX3_countSizes_87 rfl rfl ?_
    refine zj_isub dX3_countSizes_88 ?_
    obtain ⟨hi1, h⟩ := h
    refine zj_aaload0 dX3_countSizes_89 (zWk7 hL hw_x1) (by rw [(zWl7 hL hw_x1)]; exact hi1) (zWg7r hL hw_x1 hi1) ?_
    refine zj_iload dX3_countSizes_90 rfl ?_
    refine zj_callS (M' := mJ6_numberOfTrailingZeros_0f7a4) (avs := [.int x7]) (st := [.ref (w_x1 + 8 + ((1 : Int32) - x2).toNatClampNeg), .int x5]) dX3_countSizes_92 wm_J6_numberOfTrailingZeros_0f7a4 wl_X3_56 wt_J6_numberOfTrailingZeros_0f7a4 rfl (by decide) rfl (Nat.le_of_ble_eq_true rfl) (Nat.le_of_ble_eq_true rfl) ⟨Or.inl (z_k0 (zk_195 hL)), Or.inl (z_k0 (zFk0 hL hx1)), Or.inl (z_k0 (zWk0 hL hw_x1)), trivial⟩ ⟨Or.inl (z_k0 (zWg7k hL hw_x1 hi1)), trivial⟩ (hp_J6_numberOfTrailingZeros_0f7a4 ?_)
    refine zj_iaload dX3_countSizes_95 (zWg7k hL hw_x1 hi1) (by rw [(zWg7l hL hw_x1 hi1)]; exact h.1) ?_
    replace h := h.2
    refine zj_ixor dX3_countSizes_96 ?_
    refine zj_istore (ls2 := [.ref 195, .ref x1, .int x2, .int x3, .ref w_x1, .int (x5 ^^^ (v (w_x1 + 8 + ((1 : Int32) - x2).toNatClampNeg) (z_tz x7).toNatClampNeg)), .int x6, .int x7]) dX3_countSizes_97 (by decide) rfl rfl ?_
    refine zj_aload_n dX3_countSizes_99 rfl rfl ?_
    refine zj_getR (ci := 3) (j := 0) dX3_countSizes_100 wf_X3_9 (by decide) (by decide) (zk_195 hL) rfl (zr_195_0 hL) ?_
    refine zj_iload dX3_countSizes_103 rfl ?_
    refine zj_callS (M' := mJ6_bitCount_0f7a4) (avs := [.int (x5 ^^^ (v (w_x1 + 8 + ((1 : Int32) - x2).toNatClampNeg) (z_tz x7).toNatClampNeg))]) (st := [.ref 196]) dX3_countSizes_105 wm_J6_bitCount_0f7a4 wl_X3_42 wt_J6_bitCount_0f7a4 rfl (by decide) rfl (Nat.le_of_ble_eq_true rfl) (Nat.le_of_ble_eq_true rfl) ⟨Or.inl (z_k0 (zk_195 hL)), Or.inl (z_k0 (zFk0 hL hx1)), Or.inl (z_k0 (zWk0 hL hw_x1)), trivial⟩ ⟨Or.inl (z_k0 (zk_196 hL)), trivial⟩ (hp_J6_bitCount_0f7a4 ?_)
    refine zj_dup2 dX3_countSizes_108 rfl rfl ?_
    refine zj_iaload dX3_countSizes_109 (zk_196 hL) (by rw [(zl_196 hL)]; exact h.1) ?_
    replace h := h.2
    refine zj_iconst (x := 1) dX3_countSizes_110 rfl ?_
    refine zj_iadd dX3_countSizes_111 ?_
    refine zj_iastore dX3_countSizes_112 (zk_196 hL) (by rw [(zl_196 hL)]; exact h.1) (fun v1 ev1 => ?_)
    replace h := h.2 v1 ev1
    refine zj_iinc (y := x7 + 1) (ls2 := [.ref 195, .ref x1, .int x2, .int x3, .ref w_x1, .int (x5 ^^^ (v (w_x1 + 8 + ((1 : Int32) - x2).toNatClampNeg) (z_tz x7).toNatClampNeg)), .int x6, .int (x7 + 1)]) dX3_countSizes_113 rfl rfl (by decide) rfl rfl ?_
    refine zj_goto (tgt := 72) dX3_countSizes_116 (by decide) ?_
    exact h
theorem sg_X3_leastChain_0 {G : z_G} {d : Nat} {S : z_Shp} {v : z_Dat} {Q : Option Value → z_Shp → z_Dat → Prop} {x1 : Nat} {x2 : Int32} {w_x1 : Nat} (hL : z_L S) (hx1 : z_isF x1) (rw_x1 : z_r S x1 0 = some w_x1) (hw_x1 : z_isW w_x1)
    (h : z_J G d mX3_weighRows (0, [.ref 195, .ref x1, .null, .null, .null], [], S, v) (fun r S1 v1 => r = none ∧ S1 = S ∧ ((vp_in x2 2) ∧ (z_J G d mX3_seekLightest (0, [.ref 195, .ref w_x1, .int x2, .int (v1 (w_x1 + 17) x2.toNatClampNeg), .null, .null, .null], [], S, v1) (fun r S1 v2 => r = none ∧ S1 = S ∧ (Q (some (.int (v2 195 3))) S v2)))))) :
    z_J G (d + 1) mX3_leastChain (0, [.ref 195, .ref x1, .int x2], [], S, v) Q := by
  refine zj_aload_n dX3_leastChain_0 rfl rfl ?_
  refine zj_aload_n dX3_leastChain_1 rfl rfl ?_
  refine zj_callV (M' := mX3_weighRows) (avs := [.ref x1]) (st := []) (ci := 3) dX3_leastChain_2 wm_X3_weighRows wl_X3_71 wi_X3_weighRows ws_X3_weighRows (by decide) (zk_195 hL) rfl rfl (by decide) rfl (Nat.le_of_ble_eq_true rfl) (Nat.le_of_ble_eq_true rfl) ⟨Or.inl (z_k0 (zk_195 hL)), Or.inl (z_k0 (zFk0 hL hx1)), trivial⟩ trivial (z_J.mono h (fun r S1 v1 hq => ?_))
  obtain ⟨rfl, rfl, h⟩ := hq
  refine zj_aload_n dX3_leastChain_5 rfl rfl ?_
  refine zj_aload_n dX3_leastChain_6 rfl rfl ?_
  refine zj_getR (ci := 0) (j := 0) dX3_leastChain_7 wf_X3_18 (by decide) (by decide) (zFk0 hL hx1) rfl rw_x1 ?_
  refine zj_iload_n dX3_leastChain_10 rfl rfl ?_
  refine zj_aload_n dX3_leastChain_11 rfl rfl ?_
  refine zj_getR (ci := 0) (j := 0) dX3_leastChain_12 wf_X3_18 (by decide) (by decide) (zFk0 hL hx1) rfl rw_x1 ?_
  refine zj_getR (ci := 9) (j := 9) dX3_leastChain_15 wf_X3_39 (by decide) (by decide) (zWk0 hL hw_x1) rfl (zWr0_9 hL hw_x1) ?_
  refine zj_iload_n dX3_leastChain_18 rfl rfl ?_
  refine zj_iaload dX3_leastChain_19 (zWk17 hL hw_x1) (by rw [(zWl17 hL hw_x1)]; exact h.1) ?_
  replace h := h.2
  refine zj_callV (M' := mX3_seekLightest) (avs := [.ref w_x1, .int x2, .int (v1 (w_x1 + 17) x2.toNatClampNeg)]) (st := []) (ci := 3) dX3_leastChain_20 wm_X3_seekLightest wl_X3_75 wi_X3_seekLightest ws_X3_seekLightest (by decide) (zk_195 hL) rfl rfl (by decide) rfl (Nat.le_of_ble_eq_true rfl) (Nat.le_of_ble_eq_true rfl) ⟨Or.inl (z_k0 (zk_195 hL)), Or.inl (z_k0 (zFk0 hL hx1)), trivial⟩ trivial (z_J.mono h (fun r S1 v2 hq => ?_))
  obtain ⟨rfl, rfl, h⟩ := hq
  refine zj_aload_n dX3_leastChain_23 rfl rfl ?_
  refine zj_getI (ci := 3) (j := 3) dX3_leastChain_24 wf_X3_82 (by decide) (by decide) (zk_195 hL) rfl ?_
  exact zj_iret dX3_leastChain_27 rfl rfl h
theorem sg_X3_leastSize_0 {G : z_G} {d : Nat} {S : z_Shp} {v : z_Dat} {Q : Option Value → z_Shp → z_Dat → Prop} {x1 : Int32}
    (h : z_J G d mX3_leastSize (2, [.ref 195, .int x1, .int 0], [], S, v) Q) :
    z_J G d mX3_leastSize (0, [.ref 195, .int x1, .null], [], S, v) Q := by
  refine zj_iconst (x := 0) dX3_leastSize_0 rfl ?_
  refine zj_istore_n (ls2 := [.ref 195, .int x1, .int 0]) dX3_leastSize_1 rfl (by decide) rfl rfl ?_
  exact h
theorem sg_X3_leastSize_2 {G : z_G} {d : Nat} {S : z_Shp} {v : z_Dat} {Q : Option Value → z_Shp → z_Dat → Prop} {x1 : Int32} {x2 : Int32} (hL : z_L S)
    (h : (x1 < x2 → (Q (some (.int (-1))) S v)) ∧ (¬ x1 < x2 → ((vp_in x2 26) ∧ (((v 196 x2.toNatClampNeg) ≤ 0 → (z_J G d mX3_leastSize (2, [.ref 195, .int x1, .int (x2 + 1)], [], S, v) Q)) ∧ (¬ (v 196 x2.toNatClampNeg) ≤ 0 → (Q (some (.int x2)) S v)))))) :
    z_J G d mX3_leastSize (2, [.ref 195, .int x1, .int x2], [], S, v) Q := by
  refine zj_iload_n dX3_leastSize_2 rfl rfl ?_
  refine zj_iload_n dX3_leastSize_3 rfl rfl ?_
  refine zj_icmp_gt (tgt := 24) dX3_leastSize_4 (by decide) (fun c => ?_) (fun c => ?_)
  · replace h := h.1 c
    refine zj_iconst (x := (-1)) dX3_leastSize_24 rfl ?_
    exact zj_iret dX3_leastSize_25 rfl rfl h
  · replace h := h.2 c
    refine zj_aload_n dX3_leastSize_7 rfl rfl ?_
    refine zj_getR (ci := 3) (j := 0) dX3_leastSize_8 wf_X3_9 (by decide) (by decide) (zk_195 hL) rfl (zr_195_0 hL) ?_
    refine zj_iload_n dX3_leastSize_11 rfl rfl ?_
    refine zj_iaload dX3_leastSize_12 (zk_196 hL) (by rw [(zl_196 hL)]; exact h.1) ?_
    replace h := h.2
    refine zj_if_le (tgt := 18) dX3_leastSize_13 (by decide) (fun c => ?_) (fun c => ?_)
    · replace h := h.1 c
      refine zj_iinc (y := x2 + 1) (ls2 := [.ref 195, .int x1, .int (x2 + 1)]) dX3_leastSize_18 rfl rfl (by decide) rfl rfl ?_
      refine zj_goto (tgt := 2) dX3_leastSize_21 (by decide) ?_
      exact h
    · replace h := h.2 c
      refine zj_iload_n dX3_leastSize_16 rfl rfl ?_
      exact zj_iret dX3_leastSize_17 rfl rfl h
theorem sg_X3_lightestSet_0 {G : z_G} {d : Nat} {S : z_Shp} {v : z_Dat} {Q : Option Value → z_Shp → z_Dat → Prop} {x1 : Nat} {x2 : Int32} {w_x1 : Nat} (hL : z_L S) (hx1 : z_isF x1) (rw_x1 : z_r S x1 0 = some w_x1) (hw_x1 : z_isW w_x1)
    (h : (vp_in x2 2) ∧ (z_J G d mX3_weighRows (0, [.ref 195, .ref x1, .null, .null, .null], [], S, v) (fun r S1 v1 => r = none ∧ S1 = S ∧ (z_J G d mX3_seekLightest (0, [.ref 195, .ref w_x1, .int x2, .int (v (x1 + 1) x2.toNatClampNeg), .null, .null, .null], [], S, v1) (fun r S1 v2 => r = none ∧ S1 = S ∧ ((vp_in x2 2) ∧ (z_J G d mX3_seekLightest (0, [.ref 195, .ref w_x1, .int x2, .int ((v (x1 + 1) x2.toNatClampNeg) ^^^ (v2 (w_x1 + 17) x2.toNatClampNeg)), .null, .null, .null], [], S, v2) (fun r S1 v3 => r = none ∧ S1 = S ∧ (Q (some (.int (v3 195 2))) S v3))))))))) :
    z_J G (d + 1) mX3_lightestSet (0, [.ref 195, .ref x1, .int x2, .null], [], S, v) Q := by
  refine zj_aload_n dX3_lightestSet_0 rfl rfl ?_
  refine zj_getR (ci := 0) (j := 2) dX3_lightestSet_1 wf_X3_30 (by decide) (by decide) (zFk0 hL hx1) rfl (zFr0_2 hL hx1) ?_
  refine zj_iload_n dX3_lightestSet_4 rfl rfl ?_
  refine zj_iaload dX3_lightestSet_5 (zFk1 hL hx1) (by rw [(zFl1 hL hx1)]; exact h.1) ?_
  replace h := h.2
  refine zj_istore_n (ls2 := [.ref 195, .ref x1, .int x2, .int (v (x1 + 1) x2.toNatClampNeg)]) dX3_lightestSet_6 rfl (by decide) rfl rfl ?_
  refine zj_aload_n dX3_lightestSet_7 rfl rfl ?_
  refine zj_aload_n dX3_lightestSet_8 rfl rfl ?_
  refine zj_callV (M' := mX3_weighRows) (avs := [.ref x1]) (st := []) (ci := 3) dX3_lightestSet_9 wm_X3_weighRows wl_X3_71 wi_X3_weighRows ws_X3_weighRows (by decide) (zk_195 hL) rfl rfl (by decide) rfl (Nat.le_of_ble_eq_true rfl) (Nat.le_of_ble_eq_true rfl) ⟨Or.inl (z_k0 (zk_195 hL)), Or.inl (z_k0 (zFk0 hL hx1)), trivial⟩ trivial (z_J.mono h (fun r S1 v1 hq => ?_))
  obtain ⟨rfl, rfl, h⟩ := hq
  refine zj_aload_n dX3_lightestSet_12 rfl rfl ?_
  refine zj_aload_n dX3_lightestSet_13 rfl rfl ?_
  refine zj_getR (ci := 0) (j := 0) dX3_lightestSet_14 wf_X3_18 (by decide) (by decide) (zFk0 hL hx1) rfl rw_x1 ?_
  refine zj_iload_n dX3_lightestSet_17 rfl rfl ?_
  refine zj_iload_n dX3_lightestSet_18 rfl rfl ?_
  refine zj_callV (M' := mX3_seekLightest) (avs := [.ref w_x1, .int x2, .int (v (x1 + 1) x2.toNatClampNeg)]) (st := []) (ci := 3) dX3_lightestSet_19 wm_X3_seekLightest wl_X3_75 wi_X3_seekLightest ws_X3_seekLightest (by decide) (zk_195 hL) rfl rfl (by decide) rfl (Nat.le_of_ble_eq_true rfl) (Nat.le_of_ble_eq_true rfl) ⟨Or.inl (z_k0 (zk_195 hL)), Or.inl (z_k0 (zFk0 hL hx1)), trivial⟩ trivial (z_J.mono h (fun r S1 v2 hq => ?_))
  obtain ⟨rfl, rfl, h⟩ := hq
  refine zj_aload_n dX3_lightestSet_22 rfl rfl ?_
  refine zj_aload_n dX3_lightestSet_23 rfl rfl ?_
  refine zj_getR (ci := 0) (j := 0) dX3_lightestSet_24 wf_X3_18 (by decide) (by decide) (zFk0 hL hx1) rfl rw_x1 ?_
  refine zj_iload_n dX3_lightestSet_27 rfl rfl ?_
  refine zj_iload_n dX3_lightestSet_28 rfl rfl ?_
  refine zj_aload_n dX3_lightestSet_29 rfl rfl ?_
  refine zj_getR (ci := 0) (j := 0) dX3_lightestSet_30 wf_X3_18 (by decide) (by decide) (zFk0 hL hx1) rfl rw_x1 ?_
  refine zj_getR (ci := 9) (j := 9) dX3_lightestSet_33 wf_X3_39 (by decide) (by decide) (zWk0 hL hw_x1) rfl (zWr0_9 hL hw_x1) ?_
  refine zj_iload_n dX3_lightestSet_36 rfl rfl ?_
  refine zj_iaload dX3_lightestSet_37 (zWk17 hL hw_x1) (by rw [(zWl17 hL hw_x1)]; exact h.1) ?_
  replace h := h.2
  refine zj_ixor dX3_lightestSet_38 ?_
  refine zj_callV (M' := mX3_seekLightest) (avs := [.ref w_x1, .int x2, .int ((v (x1 + 1) x2.toNatClampNeg) ^^^ (v2 (w_x1 + 17) x2.toNatClampNeg))]) (st := []) (ci := 3) dX3_lightestSet_39 wm_X3_seekLightest wl_X3_75 wi_X3_seekLightest ws_X3_seekLightest (by decide) (zk_195 hL) rfl rfl (by decide) rfl (Nat.le_of_ble_eq_true rfl) (Nat.le_of_ble_eq_true rfl) ⟨Or.inl (z_k0 (zk_195 hL)), Or.inl (z_k0 (zFk0 hL hx1)), trivial⟩ trivial (z_J.mono h (fun r S1 v3 hq => ?_))
  obtain ⟨rfl, rfl, h⟩ := hq
  refine zj_aload_n dX3_lightestSet_42 rfl rfl ?_
  refine zj_getI (ci := 3) (j := 2) dX3_lightestSet_43 wf_X3_79 (by decide) (by decide) (zk_195 hL) rfl ?_
  exact zj_iret dX3_lightestSet_46 rfl rfl h
theorem sg_X3_lookAt_0 {G : z_G} {d : Nat} {S : z_Shp} {v : z_Dat} {Q : Option Value → z_Shp → z_Dat → Prop} {x1 : Int32} (hL : z_L S)
    (h : (vp_in (x1 &&& 31) 160) ∧ ((vp_in ((32 : Int32) + ((x1 >>> ((5 : Int32) &&& 31)) &&& 31)) 160) ∧ ((vp_in ((64 : Int32) + ((x1 >>> ((10 : Int32) &&& 31)) &&& 31)) 160) ∧ ((vp_in ((96 : Int32) + ((x1 >>> ((15 : Int32) &&& 31)) &&& 31)) 160) ∧ ((vp_in ((128 : Int32) + ((x1 >>> ((20 : Int32) &&& 31)) &&& 31)) 160) ∧ (((((((v 197 (x1 &&& 31).toNatClampNeg) + (v 197 ((32 : Int32) + ((x1 >>> ((5 : Int32) &&& 31)) &&& 31)).toNatClampNeg)) + (v 197 ((64 : Int32) + ((x1 >>> ((10 : Int32) &&& 31)) &&& 31)).toNatClampNeg)) + (v 197 ((96 : Int32) + ((x1 >>> ((15 : Int32) &&& 31)) &&& 31)).toNatClampNeg)) + (v 197 ((128 : Int32) + ((x1 >>> ((20 : Int32) &&& 31)) &&& 31)).toNatClampNeg)) < (v 195 3) → (∀ v1, v1 = z_u v 195 3 (((((v 197 (x1 &&& 31).toNatClampNeg) + (v 197 ((32 : Int32) + ((x1 >>> ((5 : Int32) &&& 31)) &&& 31)).toNatClampNeg)) + (v 197 ((64 : Int32) + ((x1 >>> ((10 : Int32) &&& 31)) &&& 31)).toNatClampNeg)) + (v 197 ((96 : Int32) + ((x1 >>> ((15 : Int32) &&& 31)) &&& 31)).toNatClampNeg)) + (v 197 ((128 : Int32) + ((x1 >>> ((20 : Int32) &&& 31)) &&& 31)).toNatClampNeg)) → (∀ v2, v2 = z_u v1 195 2 x1 → (Q none S v2)))) ∧ (¬ (((((v 197 (x1 &&& 31).toNatClampNeg) + (v 197 ((32 : Int32) + ((x1 >>> ((5 : Int32) &&& 31)) &&& 31)).toNatClampNeg)) + (v 197 ((64 : Int32) + ((x1 >>> ((10 : Int32) &&& 31)) &&& 31)).toNatClampNeg)) + (v 197 ((96 : Int32) + ((x1 >>> ((15 : Int32) &&& 31)) &&& 31)).toNatClampNeg)) + (v 197 ((128 : Int32) + ((x1 >>> ((20 : Int32) &&& 31)) &&& 31)).toNatClampNeg)) < (v 195 3) → ((¬ (((((v 197 (x1 &&& 31).toNatClampNeg) + (v 197 ((32 : Int32) + ((x1 >>> ((5 : Int32) &&& 31)) &&& 31)).toNatClampNeg)) + (v 197 ((64 : Int32) + ((x1 >>> ((10 : Int32) &&& 31)) &&& 31)).toNatClampNeg)) + (v 197 ((96 : Int32) + ((x1 >>> ((15 : Int32) &&& 31)) &&& 31)).toNatClampNeg)) + (v 197 ((128 : Int32) + ((x1 >>> ((20 : Int32) &&& 31)) &&& 31)).toNatClampNeg)) = (v 195 3) → (Q none S v)) ∧ ((((((v 197 (x1 &&& 31).toNatClampNeg) + (v 197 ((32 : Int32) + ((x1 >>> ((5 : Int32) &&& 31)) &&& 31)).toNatClampNeg)) + (v 197 ((64 : Int32) + ((x1 >>> ((10 : Int32) &&& 31)) &&& 31)).toNatClampNeg)) + (v 197 ((96 : Int32) + ((x1 >>> ((15 : Int32) &&& 31)) &&& 31)).toNatClampNeg)) + (v 197 ((128 : Int32) + ((x1 >>> ((20 : Int32) &&& 31)) &&& 31)).toNatClampNeg)) = (v 195 3) → (((v 195 2) ≤ x1 → (Q none S v)) ∧ (¬ (v 195 2) ≤ x1 → (∀ v3, v3 = z_u v 195 3 (((((v 197 (x1 &&& 31).toNatClampNeg) + (v 197 ((32 : Int32) + ((x1 >>> ((5 : Int32) &&& 31)) &&& 31)).toNatClampNeg)) + (v 197 ((64 : Int32) + ((x1 >>> ((10 : Int32) &&& 31)) &&& 31)).toNatClampNeg)) + (v 197 ((96 : Int32) + ((x1 >>> ((15 : Int32) &&& 31)) &&& 31)).toNatClampNeg)) + (v 197 ((128 : Int32) + ((x1 >>> ((20 : Int32) &&& 31)) &&& 31)).toNatClampNeg)) → (∀ v4, v4 = z_u v3 195 2 x1 → (Q none S v4)))))))))))))) :
    z_J G d mX3_lookAt (0, [.ref 195, .int x1, .null], [], S, v) Q := by
  refine zj_aload_n dX3_lookAt_0 rfl rfl ?_
  refine zj_getR (ci := 3) (j := 1) dX3_lookAt_1 wf_X3_15 (by decide) (by decide) (zk_195 hL) rfl (zr_195_1 hL) ?_
  refine zj_iload_n dX3_lookAt_4 rfl rfl ?_
  refine zj_bipush (x := 31) dX3_lookAt_5 rfl ?_
  refine zj_iand dX3_lookAt_7 ?_
  refine zj_iaload dX3_lookAt_8 (zk_197 hL) (by rw [(zl_197 hL)]; exact h.1) ?_
  replace h := h.2
  refine zj_aload_n dX3_lookAt_9 rfl rfl ?_
  refine zj_getR (ci := 3) (j := 1) dX3_lookAt_10 wf_X3_15 (by decide) (by decide) (zk_195 hL) rfl (zr_195_1 hL) ?_
  refine zj_bipush (x := 32) dX3_lookAt_13 rfl ?_
  refine zj_iload_n dX3_lookAt_15 rfl rfl ?_
  refine zj_iconst (x := 5) dX3_lookAt_16 rfl ?_
  refine zj_ishr dX3_lookAt_17 ?_
  refine zj_bipush (x := 31) dX3_lookAt_18 rfl ?_
  refine zj_iand dX3_lookAt_20 ?_
  refine zj_iadd dX3_lookAt_21 ?_
  refine zj_iaload dX3_lookAt_22 (zk_197 hL) (by rw [(zl_197 hL)]; exact h.1) ?_
  replace h := h.2
  refine zj_iadd dX3_lookAt_23 ?_
  refine zj_aload_n dX3_lookAt_24 rfl rfl ?_
  refine zj_getR (ci := 3) (j := 1) dX3_lookAt_25 wf_X3_15 (by decide) (by decide) (zk_195 hL) rfl (zr_195_1 hL) ?_
  refine zj_bipush (x := 64) dX3_lookAt_28 rfl ?_
  refine zj_iload_n dX3_lookAt_30 rfl rfl ?_
  refine zj_bipush (x := 10) dX3_lookAt_31 rfl ?_
  refine zj_ishr dX3_lookAt_33 ?_
  refine zj_bipush (x := 31) dX3_lookAt_34 rfl ?_
  refine zj_iand dX3_lookAt_36 ?_
  refine zj_iadd dX3_lookAt_37 ?_
  refine zj_iaload dX3_lookAt_38 (zk_197 hL) (by rw [(zl_197 hL)]; exact h.1) ?_
  replace h := h.2
  refine zj_iadd dX3_lookAt_39 ?_
  refine zj_aload_n dX3_lookAt_40 rfl rfl ?_
  refine zj_getR (ci := 3) (j := 1) dX3_lookAt_41 wf_X3_15 (by decide) (by decide) (zk_195 hL) rfl (zr_195_1 hL) ?_
  refine zj_bipush (x := 96) dX3_lookAt_44 rfl ?_
  refine zj_iload_n dX3_lookAt_46 rfl rfl ?_
  refine zj_bipush (x := 15) dX3_lookAt_47 rfl ?_
  refine zj_ishr dX3_lookAt_49 ?_
  refine zj_bipush (x := 31) dX3_lookAt_50 rfl ?_
  refine zj_iand dX3_lookAt_52 ?_
  refine zj_iadd dX3_lookAt_53 ?_
  refine zj_iaload dX3_lookAt_54 (zk_197 hL) (by rw [(zl_197 hL)]; exact h.1) ?_
  replace h := h.2
  refine zj_iadd dX3_lookAt_55 ?_
  refine zj_aload_n dX3_lookAt_56 rfl rfl ?_
  refine zj_getR (ci := 3) (j := 1) dX3_lookAt_57 wf_X3_15 (by decide) (by decide) (zk_195 hL) rfl (zr_195_1 hL) ?_
  refine zj_sipush (x := 128) dX3_lookAt_60 rfl ?_
  refine zj_iload_n dX3_lookAt_63 rfl rfl ?_
  refine zj_bipush (x := 20) dX3_lookAt_64 rfl ?_
  refine zj_ishr dX3_lookAt_66 ?_
  refine zj_bipush (x := 31) dX3_lookAt_67 rfl ?_
  refine zj_iand dX3_lookAt_69 ?_
  refine zj_iadd dX3_lookAt_70 ?_
  refine zj_iaload dX3_lookAt_71 (zk_197 hL) (by rw [(zl_197 hL)]; exact h.1) ?_
  replace h := h.2
  refine zj_iadd dX3_lookAt_72 ?_
  refine zj_istore_n (ls2 := [.ref 195, .int x1, .int (((((v 197 (x1 &&& 31).toNatClampNeg) + (v 197 ((32 : Int32) + ((x1 >>> ((5 : Int32) &&& 31)) &&& 31)).toNatClampNeg)) + (v 197 ((64 : Int32) + ((x1 >>> ((10 : Int32) &&& 31)) &&& 31)).toNatClampNeg)) + (v 197 ((96 : Int32) + ((x1 >>> ((15 : Int32) &&& 31)) &&& 31)).toNatClampNeg)) + (v 197 ((128 : Int32) + ((x1 >>> ((20 : Int32) &&& 31)) &&& 31)).toNatClampNeg))]) dX3_lookAt_73 rfl (by decide) rfl rfl ?_
  refine zj_iload_n dX3_lookAt_74 rfl rfl ?_
  refine zj_aload_n dX3_lookAt_75 rfl rfl ?_
  refine zj_getI (ci := 3) (j := 3) dX3_lookAt_76 wf_X3_82 (by decide) (by decide) (zk_195 hL) rfl ?_
  refine zj_icmp_lt (tgt := 98) dX3_lookAt_79 (by decide) (fun c => ?_) (fun c => ?_)
  · replace h := h.1 c
    refine zj_aload_n dX3_lookAt_98 rfl rfl ?_
    refine zj_iload_n dX3_lookAt_99 rfl rfl ?_
    refine zj_putI (ci := 3) (j := 3) dX3_lookAt_100 wf_X3_82 (by decide) (by decide) (zk_195 hL) rfl rfl rfl rfl (fun v1 ev1 => ?_)
    replace h := h v1 ev1
    refine zj_aload_n dX3_lookAt_103 rfl rfl ?_
    refine zj_iload_n dX3_lookAt_104 rfl rfl ?_
    refine zj_putI (ci := 3) (j := 2) dX3_lookAt_105 wf_X3_79 (by decide) (by decide) (zk_195 hL) rfl rfl rfl rfl (fun v2 ev2 => ?_)
    replace h := h v2 ev2
    exact zj_vret dX3_lookAt_108 rfl h
  · replace h := h.2 c
    refine zj_iload_n dX3_lookAt_82 rfl rfl ?_
    refine zj_aload_n dX3_lookAt_83 rfl rfl ?_
    refine zj_getI (ci := 3) (j := 3) dX3_lookAt_84 wf_X3_82 (by decide) (by decide) (zk_195 hL) rfl ?_
    refine zj_icmp_ne (tgt := 108) dX3_lookAt_87 (by decide) (fun c => ?_) (fun c => ?_)
    · replace h := h.1 c
      exact zj_vret dX3_lookAt_108 rfl h
    · replace h := h.2 c
      refine zj_iload_n dX3_lookAt_90 rfl rfl ?_
      refine zj_aload_n dX3_lookAt_91 rfl rfl ?_
      refine zj_getI (ci := 3) (j := 2) dX3_lookAt_92 wf_X3_79 (by decide) (by decide) (zk_195 hL) rfl ?_
      refine zj_icmp_ge (tgt := 108) dX3_lookAt_95 (by decide) (fun c => ?_) (fun c => ?_)
      · replace h := h.1 c
        exact zj_vret dX3_lookAt_108 rfl h
      · replace h := h.2 c
        refine zj_aload_n dX3_lookAt_98 rfl rfl ?_
        refine zj_iload_n dX3_lookAt_99 rfl rfl ?_
        refine zj_putI (ci := 3) (j := 3) dX3_lookAt_100 wf_X3_82 (by decide) (by decide) (zk_195 hL) rfl rfl rfl rfl (fun v3 ev3 => ?_)
        replace h := h v3 ev3
        refine zj_aload_n dX3_lookAt_103 rfl rfl ?_
        refine zj_iload_n dX3_lookAt_104 rfl rfl ?_
        refine zj_putI (ci := 3) (j := 2) dX3_lookAt_105 wf_X3_79 (by decide) (by decide) (zk_195 hL) rfl rfl rfl rfl (fun v4 ev4 => ?_)
        replace h := h v4 ev4
        exact zj_vret dX3_lookAt_108 rfl h
theorem sg_X3_power_0 {G : z_G} {d : Nat} {S : z_Shp} {v : z_Dat} {Q : Option Value → z_Shp → z_Dat → Prop} {x0 : Int32} {x1 : Int32}
    (h : z_J G d mX3_power (5, [.int x0, .int x1, .long 1, .null, .int 0], [], S, v) Q) :
    z_J G d mX3_power (0, [.int x0, .int x1, .null, .null, .null], [], S, v) Q := by
  refine zj_lconst (x := 1) dX3_power_0 rfl ?_
  refine zj_lstore_n (ls2 := [.int x0, .int x1, .long 1, .null, .null]) dX3_power_1 rfl (by decide) rfl rfl ?_
  refine zj_iconst (x := 0) dX3_power_2 rfl ?_
  refine zj_istore (ls2 := [.int x0, .int x1, .long 1, .null, .int 0]) dX3_power_3 (by decide) rfl rfl ?_
  exact h
theorem sg_X3_power_5 {G : z_G} {d : Nat} {S : z_Shp} {v : z_Dat} {Q : Option Value → z_Shp → z_Dat → Prop} {x0 : Int32} {x1 : Int32} {x2 : Int64} {x4 : Int32}
    (h : (x1 ≤ x4 → (Q (some (.long x2)) S v)) ∧ (¬ x1 ≤ x4 → (z_J G d mX3_times (0, [.long x2, .null, .long x0.toInt64, .null], [], S, v) (fun r S1 v1 => ∃ y1 : Int64, r = some (.long y1) ∧ S1 = S ∧ (z_J G (d + 1) mX3_power (5, [.int x0, .int x1, .long y1, .null, .int (x4 + 1)], [], S, v1) Q))))) :
    z_J G (d + 1) mX3_power (5, [.int x0, .int x1, .long x2, .null, .int x4], [], S, v) Q := by
  refine zj_iload dX3_power_5 rfl ?_
  refine zj_iload_n dX3_power_7 rfl rfl ?_
  refine zj_icmp_ge (tgt := 24) dX3_power_8 (by decide) (fun c => ?_) (fun c => ?_)
  · replace h := h.1 c
    refine zj_lload_n dX3_power_24 rfl rfl ?_
    exact zj_lret dX3_power_25 rfl h
  · replace h := h.2 c
    refine zj_lload_n dX3_power_11 rfl rfl ?_
    refine zj_iload_n dX3_power_12 rfl rfl ?_
    refine zj_i2l dX3_power_13 ?_
    refine zj_callS (M' := mX3_times) (avs := [.long x2, .long x0.toInt64]) (st := []) dX3_power_14 wm_X3_times wl_X3_63 wt_X3_times rfl (by decide) rfl (Nat.le_of_ble_eq_true rfl) (Nat.le_of_ble_eq_true rfl) trivial trivial (z_J.mono h (fun r S1 v1 hq => ?_))
    obtain ⟨y1, rfl, rfl, h⟩ := hq
    refine zj_lstore_n (ls2 := [.int x0, .int x1, .long y1, .null, .int x4]) dX3_power_17 rfl (by decide) rfl rfl ?_
    refine zj_iinc (y := x4 + 1) (ls2 := [.int x0, .int x1, .long y1, .null, .int (x4 + 1)]) dX3_power_18 rfl rfl (by decide) rfl rfl ?_
    refine zj_goto (tgt := 5) dX3_power_21 (by decide) ?_
    exact h
theorem sg_X3_seekLightest_0 {G : z_G} {d : Nat} {S : z_Shp} {v : z_Dat} {Q : Option Value → z_Shp → z_Dat → Prop} {x1 : Nat} {x2 : Int32} {x3 : Int32} (hL : z_L S) (hx1 : z_isW x1)
    (h : z_J G d mX3_lookAt (0, [.ref 195, .int x3, .null], [], S, v) (fun r S1 v1 => r = none ∧ S1 = S ∧ (z_J G (d + 1) mX3_seekLightest (20, [.ref 195, .ref x1, .int x2, .int x3, .int x3, .int ((1 : Int32) <<< ((v1 x1 2) &&& 31)), .int 1], [], S, v1) Q))) :
    z_J G (d + 1) mX3_seekLightest (0, [.ref 195, .ref x1, .int x2, .int x3, .null, .null, .null], [], S, v) Q := by
  refine zj_iload_n dX3_seekLightest_0 rfl rfl ?_
  refine zj_istore (ls2 := [.ref 195, .ref x1, .int x2, .int x3, .int x3, .null, .null]) dX3_seekLightest_1 (by decide) rfl rfl ?_
  refine zj_aload_n dX3_seekLightest_3 rfl rfl ?_
  refine zj_iload dX3_seekLightest_4 rfl ?_
  refine zj_callV (M' := mX3_lookAt) (avs := [.int x3]) (st := []) (ci := 3) dX3_seekLightest_6 wm_X3_lookAt wl_X3_88 wi_X3_lookAt ws_X3_lookAt (by decide) (zk_195 hL) rfl rfl (by decide) rfl (Nat.le_of_ble_eq_true rfl) (Nat.le_of_ble_eq_true rfl) ⟨Or.inl (z_k0 (zk_195 hL)), Or.inl (z_k0 (zWk0 hL hx1)), trivial⟩ trivial (z_J.mono h (fun r S1 v1 hq => ?_))
  obtain ⟨rfl, rfl, h⟩ := hq
  refine zj_iconst (x := 1) dX3_seekLightest_9 rfl ?_
  refine zj_aload_n dX3_seekLightest_10 rfl rfl ?_
  refine zj_getI (ci := 9) (j := 2) dX3_seekLightest_11 wf_X3_48 (by decide) (by decide) (zWk0 hL hx1) rfl ?_
  refine zj_ishl dX3_seekLightest_14 ?_
  refine zj_istore (ls2 := [.ref 195, .ref x1, .int x2, .int x3, .int x3, .int ((1 : Int32) <<< ((v1 x1 2) &&& 31)), .null]) dX3_seekLightest_15 (by decide) rfl rfl ?_
  refine zj_iconst (x := 1) dX3_seekLightest_17 rfl ?_
  refine zj_istore (ls2 := [.ref 195, .ref x1, .int x2, .int x3, .int x3, .int ((1 : Int32) <<< ((v1 x1 2) &&& 31)), .int 1]) dX3_seekLightest_18 (by decide) rfl rfl ?_
  exact h
theorem sg_X3_seekLightest_20 {G : z_G} {d : Nat} {S : z_Shp} {v : z_Dat} {Q : Option Value → z_Shp → z_Dat → Prop} {x2 : Int32} {x3 : Int32} {x4 : Int32} {x5 : Int32} {x6 : Int32} {x1 : Nat} (hL : z_L S) (hx1 : z_isW x1)
    (h : (x5 ≤ x6 → (Q none S v)) ∧ (¬ x5 ≤ x6 → ((vp_in ((1 : Int32) - x2) 2) ∧ ((vp_in (z_tz x6) 12) ∧ (z_J G d mX3_lookAt (0, [.ref 195, .int (x4 ^^^ (v (x1 + 8 + ((1 : Int32) - x2).toNatClampNeg) (z_tz x6).toNatClampNeg)), .null], [], S, v) (fun r S1 v1 => r = none ∧ S1 = S ∧ (z_J G (d + 1) mX3_seekLightest (20, [.ref 195, .ref x1, .int x2, .int x3, .int (x4 ^^^ (v (x1 + 8 + ((1 : Int32) - x2).toNatClampNeg) (z_tz x6).toNatClampNeg)), .int x5, .int (x6 + 1)], [], S, v1) Q))))))) :
    z_J G (d + 1) mX3_seekLightest (20, [.ref 195, .ref x1, .int x2, .int x3, .int x4, .int x5, .int x6], [], S, v) Q := by
  refine zj_iload dX3_seekLightest_20 rfl ?_
  refine zj_iload dX3_seekLightest_22 rfl ?_
  refine zj_icmp_ge (tgt := 58) dX3_seekLightest_24 (by decide) (fun c => ?_) (fun c => ?_)
  · replace h := h.1 c
    exact zj_vret dX3_seekLightest_58 rfl h
  · replace h := h.2 c
    refine zj_iload dX3_seekLightest_27 rfl ?_
    refine zj_aload_n dX3_seekLightest_29 rfl rfl ?_
    refine zj_getR (ci := 9) (j := 5) dX3_seekLightest_30 wf_X3_52 (by decide) (by decide) (zWk0 hL hx1) rfl (zWr0_5 hL hx1) ?_
    refine zj_iconst (x := 1) dX3_seekLightest_33 rfl ?_
    refine zj_iload_n dX3_seekLightest_34 rfl rfl ?_
    refine zj_isub dX3_seekLightest_35 ?_
    obtain ⟨hi1, h⟩ := h
    refine zj_aaload0 dX3_seekLightest_36 (zWk7 hL hx1) (by rw [(zWl7 hL hx1)]; exact hi1) (zWg7r hL hx1 hi1) ?_
    refine zj_iload dX3_seekLightest_37 rfl ?_
    refine zj_callS (M' := mJ6_numberOfTrailingZeros_0f7a4) (avs := [.int x6]) (st := [.ref (x1 + 8 + ((1 : Int32) - x2).toNatClampNeg), .int x4]) dX3_seekLightest_39 wm_J6_numberOfTrailingZeros_0f7a4 wl_X3_56 wt_J6_numberOfTrailingZeros_0f7a4 rfl (by decide) rfl (Nat.le_of_ble_eq_true rfl) (Nat.le_of_ble_eq_true rfl) ⟨Or.inl (z_k0 (zk_195 hL)), Or.inl (z_k0 (zWk0 hL hx1)), trivial⟩ ⟨Or.inl (z_k0 (zWg7k hL hx1 hi1)), trivial⟩ (hp_J6_numberOfTrailingZeros_0f7a4 ?_)
    refine zj_iaload dX3_seekLightest_42 (zWg7k hL hx1 hi1) (by rw [(zWg7l hL hx1 hi1)]; exact h.1) ?_
    replace h := h.2
    refine zj_ixor dX3_seekLightest_43 ?_
    refine zj_istore (ls2 := [.ref 195, .ref x1, .int x2, .int x3, .int (x4 ^^^ (v (x1 + 8 + ((1 : Int32) - x2).toNatClampNeg) (z_tz x6).toNatClampNeg)), .int x5, .int x6]) dX3_seekLightest_44 (by decide) rfl rfl ?_
    refine zj_aload_n dX3_seekLightest_46 rfl rfl ?_
    refine zj_iload dX3_seekLightest_47 rfl ?_
    refine zj_callV (M' := mX3_lookAt) (avs := [.int (x4 ^^^ (v (x1 + 8 + ((1 : Int32) - x2).toNatClampNeg) (z_tz x6).toNatClampNeg))]) (st := []) (ci := 3) dX3_seekLightest_49 wm_X3_lookAt wl_X3_88 wi_X3_lookAt ws_X3_lookAt (by decide) (zk_195 hL) rfl rfl (by decide) rfl (Nat.le_of_ble_eq_true rfl) (Nat.le_of_ble_eq_true rfl) ⟨Or.inl (z_k0 (zk_195 hL)), Or.inl (z_k0 (zWk0 hL hx1)), trivial⟩ trivial (z_J.mono h (fun r S1 v1 hq => ?_))
    obtain ⟨rfl, rfl, h⟩ := hq
    refine zj_iinc (y := x6 + 1) (ls2 := [.ref 195, .ref x1, .int x2, .int x3, .int (x4 ^^^ (v (x1 + 8 + ((1 : Int32) - x2).toNatClampNeg) (z_tz x6).toNatClampNeg)), .int x5, .int (x6 + 1)]) dX3_seekLightest_52 rfl rfl (by decide) rfl rfl ?_
    refine zj_goto (tgt := 20) dX3_seekLightest_55 (by decide) ?_
    exact h
theorem sg_X3_times_0 {G : z_G} {d : Nat} {S : z_Shp} {v : z_Dat} {Q : Option Value → z_Shp → z_Dat → Prop} {x0 : Int64} {x2 : Int64}
    (h : ((lg_cmp x0 0) = 0 → (Q (some (.long 0)) S v)) ∧ (¬ (lg_cmp x0 0) = 0 → ((¬ (lg_cmp x2 0) = 0 → (((lg_cmp x0 (-1)) = 0 → (Q (some (.long (-1))) S v)) ∧ (¬ (lg_cmp x0 (-1)) = 0 → (((lg_cmp x2 (-1)) = 0 → (Q (some (.long (-1))) S v)) ∧ (¬ (lg_cmp x2 (-1)) = 0 → ((¬ x2 = 0) ∧ (((lg_cmp x0 (9223372036854775807 / x2)) ≤ 0 → (Q (some (.long (x0 * x2))) S v)) ∧ (¬ (lg_cmp x0 (9223372036854775807 / x2)) ≤ 0 → (Q (some (.long (-1))) S v))))))))) ∧ ((lg_cmp x2 0) = 0 → (Q (some (.long 0)) S v))))) :
    z_J G d mX3_times (0, [.long x0, .null, .long x2, .null], [], S, v) Q := by
  refine zj_lload_n dX3_times_0 rfl rfl ?_
  refine zj_lconst (x := 0) dX3_times_1 rfl ?_
  refine zj_lcmp dX3_times_2 ?_
  refine zj_if_eq (tgt := 12) dX3_times_3 (by decide) (fun c => ?_) (fun c => ?_)
  · replace h := h.1 c
    refine zj_lconst (x := 0) dX3_times_12 rfl ?_
    exact zj_lret dX3_times_13 rfl h
  · replace h := h.2 c
    refine zj_lload_n dX3_times_6 rfl rfl ?_
    refine zj_lconst (x := 0) dX3_times_7 rfl ?_
    refine zj_lcmp dX3_times_8 ?_
    refine zj_if_ne (tgt := 14) dX3_times_9 (by decide) (fun c => ?_) (fun c => ?_)
    · replace h := h.1 c
      refine zj_lload_n dX3_times_14 rfl rfl ?_
      refine zj_ldc2 (x := (-1)) dX3_times_15 wc_X3_67 ?_
      refine zj_lcmp dX3_times_18 ?_
      refine zj_if_eq (tgt := 40) dX3_times_19 (by decide) (fun c => ?_) (fun c => ?_)
      · replace h := h.1 c
        refine zj_ldc2 (x := (-1)) dX3_times_40 wc_X3_67 ?_
        exact zj_lret dX3_times_43 rfl h
      · replace h := h.2 c
        refine zj_lload_n dX3_times_22 rfl rfl ?_
        refine zj_ldc2 (x := (-1)) dX3_times_23 wc_X3_67 ?_
        refine zj_lcmp dX3_times_26 ?_
        refine zj_if_eq (tgt := 40) dX3_times_27 (by decide) (fun c => ?_) (fun c => ?_)
        · replace h := h.1 c
          refine zj_ldc2 (x := (-1)) dX3_times_40 wc_X3_67 ?_
          exact zj_lret dX3_times_43 rfl h
        · replace h := h.2 c
          refine zj_lload_n dX3_times_30 rfl rfl ?_
          refine zj_ldc2 (x := 9223372036854775807) dX3_times_31 wc_X3_69 ?_
          refine zj_lload_n dX3_times_34 rfl rfl ?_
          refine zj_ldiv dX3_times_35 h.1 ?_
          replace h := h.2
          refine zj_lcmp dX3_times_36 ?_
          refine zj_if_le (tgt := 44) dX3_times_37 (by decide) (fun c => ?_) (fun c => ?_)
          · replace h := h.1 c
            refine zj_lload_n dX3_times_44 rfl rfl ?_
            refine zj_lload_n dX3_times_45 rfl rfl ?_
            refine zj_lmul dX3_times_46 ?_
            exact zj_lret dX3_times_47 rfl h
          · replace h := h.2 c
            refine zj_ldc2 (x := (-1)) dX3_times_40 wc_X3_67 ?_
            exact zj_lret dX3_times_43 rfl h
    · replace h := h.2 c
      refine zj_lconst (x := 0) dX3_times_12 rfl ?_
      exact zj_lret dX3_times_13 rfl h
theorem sg_X3_weighRows_0 {G : z_G} {d : Nat} {S : z_Shp} {v : z_Dat} {Q : Option Value → z_Shp → z_Dat → Prop} {x1 : Nat} (hL : z_L S) (hx1 : z_isF x1)
    (h : ∀ v1, v1 = z_u v 195 2 (-1) → (∀ v2, v2 = z_u v1 195 3 1000 → (z_J G d mX3_weighRows (14, [.ref 195, .ref x1, .int 0, .null, .null], [], S, v2) Q))) :
    z_J G d mX3_weighRows (0, [.ref 195, .ref x1, .null, .null, .null], [], S, v) Q := by
  refine zj_aload_n dX3_weighRows_0 rfl rfl ?_
  refine zj_iconst (x := (-1)) dX3_weighRows_1 rfl ?_
  refine zj_putI (ci := 3) (j := 2) dX3_weighRows_2 wf_X3_79 (by decide) (by decide) (zk_195 hL) rfl rfl rfl rfl (fun v1 ev1 => ?_)
  replace h := h v1 ev1
  refine zj_aload_n dX3_weighRows_5 rfl rfl ?_
  refine zj_sipush (x := 1000) dX3_weighRows_6 rfl ?_
  refine zj_putI (ci := 3) (j := 3) dX3_weighRows_9 wf_X3_82 (by decide) (by decide) (zk_195 hL) rfl rfl rfl rfl (fun v2 ev2 => ?_)
  replace h := h v2 ev2
  refine zj_iconst (x := 0) dX3_weighRows_12 rfl ?_
  refine zj_istore_n (ls2 := [.ref 195, .ref x1, .int 0, .null, .null]) dX3_weighRows_13 rfl (by decide) rfl rfl ?_
  exact h
theorem sg_X3_weighRows_14 {G : z_G} {d : Nat} {S : z_Shp} {v : z_Dat} {Q : Option Value → z_Shp → z_Dat → Prop} {x2 : Int32} {x1 : Nat} (hL : z_L S) (hx1 : z_isF x1)
    (h : (5 ≤ x2 → (Q none S v)) ∧ (¬ 5 ≤ x2 → (vp_in (x2 * 32) 160 ∧ (∀ v1, v1 = z_u v 197 (x2 * 32).toNatClampNeg 0 → (z_J G d mX3_weighRows (31, [.ref 195, .ref x1, .int x2, .int 1, .null], [], S, v1) Q))))) :
    z_J G d mX3_weighRows (14, [.ref 195, .ref x1, .int x2, .null, .null], [], S, v) Q := by
  refine zj_iload_n dX3_weighRows_14 rfl rfl ?_
  refine zj_iconst (x := 5) dX3_weighRows_15 rfl ?_
  refine zj_icmp_ge (tgt := 93) dX3_weighRows_16 (by decide) (fun c => ?_) (fun c => ?_)
  · replace h := h.1 c
    exact zj_vret dX3_weighRows_93 rfl h
  · replace h := h.2 c
    refine zj_aload_n dX3_weighRows_19 rfl rfl ?_
    refine zj_getR (ci := 3) (j := 1) dX3_weighRows_20 wf_X3_15 (by decide) (by decide) (zk_195 hL) rfl (zr_195_1 hL) ?_
    refine zj_iload_n dX3_weighRows_23 rfl rfl ?_
    refine zj_bipush (x := 32) dX3_weighRows_24 rfl ?_
    refine zj_imul dX3_weighRows_26 ?_
    refine zj_iconst (x := 0) dX3_weighRows_27 rfl ?_
    refine zj_iastore dX3_weighRows_28 (zk_197 hL) (by rw [(zl_197 hL)]; exact h.1) (fun v1 ev1 => ?_)
    replace h := h.2 v1 ev1
    refine zj_iconst (x := 1) dX3_weighRows_29 rfl ?_
    refine zj_istore_n (ls2 := [.ref 195, .ref x1, .int x2, .int 1, .null]) dX3_weighRows_30 rfl (by decide) rfl rfl ?_
    exact h
theorem sg_X3_weighRows_31 {G : z_G} {d : Nat} {S : z_Shp} {v : z_Dat} {Q : Option Value → z_Shp → z_Dat → Prop} {x2 : Int32} {x3 : Int32} {x1 : Nat} (hL : z_L S) (hx1 : z_isF x1)
    (h : (32 ≤ x3 → (z_J G (d + 1) mX3_weighRows (14, [.ref 195, .ref x1, .int (x2 + 1), .null, .null], [], S, v) Q)) ∧ (¬ 32 ≤ x3 → ((vp_in ((x2 * 32) + (x3 &&& (x3 - 1))) 160) ∧ ((vp_in ((x2 * 5) + (z_tz x3)) 25) ∧ (vp_in ((x2 * 32) + x3) 160 ∧ (∀ v1, v1 = z_u v 197 ((x2 * 32) + x3).toNatClampNeg ((v 197 ((x2 * 32) + (x3 &&& (x3 - 1))).toNatClampNeg) + (v (x1 + 6) ((x2 * 5) + (z_tz x3)).toNatClampNeg)) → (z_J G (d + 1) mX3_weighRows (31, [.ref 195, .ref x1, .int x2, .int (x3 + 1), .null], [], S, v1) Q))))))) :
    z_J G (d + 1) mX3_weighRows (31, [.ref 195, .ref x1, .int x2, .int x3, .null], [], S, v) Q := by
  refine zj_iload_n dX3_weighRows_31 rfl rfl ?_
  refine zj_bipush (x := 32) dX3_weighRows_32 rfl ?_
  refine zj_icmp_ge (tgt := 87) dX3_weighRows_34 (by decide) (fun c => ?_) (fun c => ?_)
  · replace h := h.1 c
    refine zj_iinc (y := x2 + 1) (ls2 := [.ref 195, .ref x1, .int (x2 + 1), .int x3, .null]) dX3_weighRows_87 rfl rfl (by decide) rfl rfl ?_
    refine zj_goto (tgt := 14) dX3_weighRows_90 (by decide) ?_
    refine zj_forget (ls2 := [.ref 195, .ref x1, .int (x2 + 1), .null, .null]) ⟨Or.inr rfl, Or.inr rfl, Or.inr rfl, Or.inl rfl, Or.inr rfl, trivial⟩ ?_
    exact h
  · replace h := h.2 c
    refine zj_iload_n dX3_weighRows_37 rfl rfl ?_
    refine zj_iconst (x := 5) dX3_weighRows_38 rfl ?_
    refine zj_imul dX3_weighRows_39 ?_
    refine zj_iload_n dX3_weighRows_40 rfl rfl ?_
    refine zj_callS (M' := mJ6_numberOfTrailingZeros_0f7a4) (avs := [.int x3]) (st := [.int (x2 * 5)]) dX3_weighRows_41 wm_J6_numberOfTrailingZeros_0f7a4 wl_X3_56 wt_J6_numberOfTrailingZeros_0f7a4 rfl (by decide) rfl (Nat.le_of_ble_eq_true rfl) (Nat.le_of_ble_eq_true rfl) ⟨Or.inl (z_k0 (zk_195 hL)), Or.inl (z_k0 (zFk0 hL hx1)), trivial⟩ trivial (hp_J6_numberOfTrailingZeros_0f7a4 ?_)
    refine zj_iadd dX3_weighRows_44 ?_
    refine zj_istore (ls2 := [.ref 195, .ref x1, .int x2, .int x3, .int ((x2 * 5) + (z_tz x3))]) dX3_weighRows_45 (by decide) rfl rfl ?_
    refine zj_aload_n dX3_weighRows_47 rfl rfl ?_
    refine zj_getR (ci := 3) (j := 1) dX3_weighRows_48 wf_X3_15 (by decide) (by decide) (zk_195 hL) rfl (zr_195_1 hL) ?_
    refine zj_iload_n dX3_weighRows_51 rfl rfl ?_
    refine zj_bipush (x := 32) dX3_weighRows_52 rfl ?_
    refine zj_imul dX3_weighRows_54 ?_
    refine zj_iload_n dX3_weighRows_55 rfl rfl ?_
    refine zj_iadd dX3_weighRows_56 ?_
    refine zj_aload_n dX3_weighRows_57 rfl rfl ?_
    refine zj_getR (ci := 3) (j := 1) dX3_weighRows_58 wf_X3_15 (by decide) (by decide) (zk_195 hL) rfl (zr_195_1 hL) ?_
    refine zj_iload_n dX3_weighRows_61 rfl rfl ?_
    refine zj_bipush (x := 32) dX3_weighRows_62 rfl ?_
    refine zj_imul dX3_weighRows_64 ?_
    refine zj_iload_n dX3_weighRows_65 rfl rfl ?_
    refine zj_iload_n dX3_weighRows_66 rfl rfl ?_
    refine zj_iconst (x := 1) dX3_weighRows_67 rfl ?_
    refine zj_isub dX3_weighRows_68 ?_
    refine zj_iand dX3_weighRows_69 ?_
    refine zj_iadd dX3_weighRows_70 ?_
    refine zj_iaload dX3_weighRows_71 (zk_197 hL) (by rw [(zl_197 hL)]; exact h.1) ?_
    replace h := h.2
    refine zj_aload_n dX3_weighRows_72 rfl rfl ?_
    refine zj_getR (ci := 0) (j := 5) dX3_weighRows_73 wf_X3_85 (by decide) (by decide) (zFk0 hL hx1) rfl (zFr0_5 hL hx1) ?_
    refine zj_iload dX3_weighRows_76 rfl ?_
    refine zj_iaload dX3_weighRows_78 (zFk6 hL hx1) (by rw [(zFl6 hL hx1)]; exact h.1) ?_
    replace h := h.2
    refine zj_iadd dX3_weighRows_79 ?_
    refine zj_iastore dX3_weighRows_80 (zk_197 hL) (by rw [(zl_197 hL)]; exact h.1) (fun v1 ev1 => ?_)
    replace h := h.2 v1 ev1
    refine zj_iinc (y := x3 + 1) (ls2 := [.ref 195, .ref x1, .int x2, .int (x3 + 1), .int ((x2 * 5) + (z_tz x3))]) dX3_weighRows_81 rfl rfl (by decide) rfl rfl ?_
    refine zj_goto (tgt := 31) dX3_weighRows_84 (by decide) ?_
    refine zj_forget (ls2 := [.ref 195, .ref x1, .int x2, .int (x3 + 1), .null]) ⟨Or.inr rfl, Or.inr rfl, Or.inr rfl, Or.inr rfl, Or.inl rfl, trivial⟩ ?_
    exact h
theorem sg_X4_findEvents_0 {G : z_G} {d : Nat} {S : z_Shp} {v : z_Dat} {Q : Option Value → z_Shp → z_Dat → Prop} {x1 : Nat} {x2 : Int32} (hL : z_L S) (hx1 : z_isF x1)
    (h : ∀ v1, v1 = z_u v 149 3 0 → (z_J G d mX0_loudOnes (0, [.ref x1, .int x2, .null, .null], [], S, v1) (fun r S1 v2 => ∃ y1 : Int32, r = some (.int y1) ∧ S1 = S ∧ (z_J G (d + 1) mX4_findEvents (17, [.ref 149, .ref x1, .int x2, .int 0, .int y1, .int 0, .null, .null], [], S, v2) Q)))) :
    z_J G (d + 1) mX4_findEvents (0, [.ref 149, .ref x1, .int x2, .null, .null, .null, .null, .null], [], S, v) Q := by
  refine zj_aload_n dX4_findEvents_0 rfl rfl ?_
  refine zj_iconst (x := 0) dX4_findEvents_1 rfl ?_
  refine zj_putI (ci := 4) (j := 3) dX4_findEvents_2 wf_X4_106 (by decide) (by decide) (zk_149 hL) rfl rfl rfl rfl (fun v1 ev1 => ?_)
  replace h := h v1 ev1
  refine zj_iconst (x := 0) dX4_findEvents_5 rfl ?_
  refine zj_istore_n (ls2 := [.ref 149, .ref x1, .int x2, .int 0, .null, .null, .null, .null]) dX4_findEvents_6 rfl (by decide) rfl rfl ?_
  refine zj_aload_n dX4_findEvents_7 rfl rfl ?_
  refine zj_iload_n dX4_findEvents_8 rfl rfl ?_
  refine zj_callV (M' := mX0_loudOnes) (avs := [.int x2]) (st := []) (ci := 0) dX4_findEvents_9 wm_X0_loudOnes wl_X4_109 wi_X0_loudOnes ws_X0_loudOnes (by decide) (zFk0 hL hx1) rfl rfl (by decide) rfl (Nat.le_of_ble_eq_true rfl) (Nat.le_of_ble_eq_true rfl) ⟨Or.inl (z_k0 (zk_149 hL)), Or.inl (z_k0 (zFk0 hL hx1)), trivial⟩ trivial (z_J.mono h (fun r S1 v2 hq => ?_))
  obtain ⟨y1, rfl, rfl, h⟩ := hq
  refine zj_istore (ls2 := [.ref 149, .ref x1, .int x2, .int 0, .int y1, .null, .null, .null]) dX4_findEvents_12 (by decide) rfl rfl ?_
  refine zj_iconst (x := 0) dX4_findEvents_14 rfl ?_
  refine zj_istore (ls2 := [.ref 149, .ref x1, .int x2, .int 0, .int y1, .int 0, .null, .null]) dX4_findEvents_15 (by decide) rfl rfl ?_
  exact h
theorem sg_X4_findEvents_17 {G : z_G} {d : Nat} {S : z_Shp} {v : z_Dat} {Q : Option Value → z_Shp → z_Dat → Prop} {x2 : Int32} {x3 : Int32} {x4 : Int32} {x5 : Int32} {x1 : Nat} (hL : z_L S) (hx1 : z_isF x1)
    (h : ((v 149 12) ≤ x5 → (Q none S v)) ∧ (¬ (v 149 12) ≤ x5 → (((v x1 1) ≤ x5 → (z_J G d mX4_findEvents (54, [.ref 149, .ref x1, .int x2, .int x3, .int x4, .int x5, .int x4, .int 0], [], S, v) Q)) ∧ (¬ (v x1 1) ≤ x5 → ((vp_in x2 2) ∧ ((vp_in x5 8) ∧ (z_J G d mX4_findEvents (54, [.ref 149, .ref x1, .int x2, .int x3, .int x4, .int x5, .int (v (x1 + 4 + x2.toNatClampNeg) x5.toNatClampNeg), .int 0], [], S, v) Q))))))) :
    z_J G d mX4_findEvents (17, [.ref 149, .ref x1, .int x2, .int x3, .int x4, .int x5, .null, .null], [], S, v) Q := by
  refine zj_iload dX4_findEvents_17 rfl ?_
  refine zj_aload_n dX4_findEvents_19 rfl rfl ?_
  refine zj_getI (ci := 4) (j := 12) dX4_findEvents_20 wf_X4_42 (by decide) (by decide) (zk_149 hL) rfl ?_
  refine zj_icmp_ge (tgt := 142) dX4_findEvents_23 (by decide) (fun c => ?_) (fun c => ?_)
  · replace h := h.1 c
    exact zj_vret dX4_findEvents_142 rfl h
  · replace h := h.2 c
    refine zj_iload dX4_findEvents_26 rfl ?_
    refine zj_aload_n dX4_findEvents_28 rfl rfl ?_
    refine zj_getI (ci := 0) (j := 1) dX4_findEvents_29 wf_X4_36 (by decide) (by decide) (zFk0 hL hx1) rfl ?_
    refine zj_icmp_ge (tgt := 47) dX4_findEvents_32 (by decide) (fun c => ?_) (fun c => ?_)
    · replace h := h.1 c
      refine zj_iload dX4_findEvents_47 rfl ?_
      refine zj_istore (ls2 := [.ref 149, .ref x1, .int x2, .int x3, .int x4, .int x5, .int x4, .null]) dX4_findEvents_49 (by decide) rfl rfl ?_
      refine zj_iconst (x := 0) dX4_findEvents_51 rfl ?_
      refine zj_istore (ls2 := [.ref 149, .ref x1, .int x2, .int x3, .int x4, .int x5, .int x4, .int 0]) dX4_findEvents_52 (by decide) rfl rfl ?_
      exact h
    · replace h := h.2 c
      refine zj_aload_n dX4_findEvents_35 rfl rfl ?_
      refine zj_getR (ci := 0) (j := 4) dX4_findEvents_36 wf_X4_113 (by decide) (by decide) (zFk0 hL hx1) rfl (zFr0_4 hL hx1) ?_
      refine zj_iload_n dX4_findEvents_39 rfl rfl ?_
      obtain ⟨hi1, h⟩ := h
      refine zj_aaload0 dX4_findEvents_40 (zFk3 hL hx1) (by rw [(zFl3 hL hx1)]; exact hi1) (zFg3r hL hx1 hi1) ?_
      refine zj_iload dX4_findEvents_41 rfl ?_
      refine zj_iaload dX4_findEvents_43 (zFg3k hL hx1 hi1) (by rw [(zFg3l hL hx1 hi1)]; exact h.1) ?_
      replace h := h.2
      refine zj_goto (tgt := 49) dX4_findEvents_44 (by decide) ?_
      refine zj_istore (ls2 := [.ref 149, .ref x1, .int x2, .int x3, .int x4, .int x5, .int (v (x1 + 4 + x2.toNatClampNeg) x5.toNatClampNeg), .null]) dX4_findEvents_49 (by decide) rfl rfl ?_
      refine zj_iconst (x := 0) dX4_findEvents_51 rfl ?_
      refine zj_istore (ls2 := [.ref 149, .ref x1, .int x2, .int x3, .int x4, .int x5, .int (v (x1 + 4 + x2.toNatClampNeg) x5.toNatClampNeg), .int 0]) dX4_findEvents_52 (by decide) rfl rfl ?_
      exact h
theorem sg_X4_findEvents_54 {G : z_G} {d : Nat} {S : z_Shp} {v : z_Dat} {Q : Option Value → z_Shp → z_Dat → Prop} {x2 : Int32} {x3 : Int32} {x4 : Int32} {x5 : Int32} {x6 : Int32} {x7 : Int32} {x1 : Nat} (hL : z_L S) (hx1 : z_isF x1)
    (h : ((v 149 14) ≤ x7 → (z_J G d mX4_findEvents (17, [.ref 149, .ref x1, .int x2, .int x6, .int x4, .int (x5 + 1), .null, .null], [], S, v) Q)) ∧ (¬ (v 149 14) ≤ x7 → ((¬ (((x6 ^^^ x3) >>> (x7 &&& 31)) &&& 1) = 1 → (z_J G d mX4_findEvents (54, [.ref 149, .ref x1, .int x2, .int x3, .int x4, .int x5, .int x6, .int (x7 + 1)], [], S, v) Q)) ∧ ((((x6 ^^^ x3) >>> (x7 &&& 31)) &&& 1) = 1 → (vp_in (v 149 3) 108 ∧ (∀ v1, v1 = z_u v 155 (v 149 3).toNatClampNeg x7 → (vp_in (v1 149 3) 108 ∧ (∀ v2, v2 = z_u v1 156 (v1 149 3).toNatClampNeg x5 → (vp_in (v2 149 3) 108 ∧ (∀ v3, v3 = z_u v2 157 (v2 149 3).toNatClampNeg ((x5 * (v2 149 14)) + x7) → (∀ v4, v4 = z_u v3 149 3 ((v3 149 3) + 1) → (z_J G d mX4_findEvents (54, [.ref 149, .ref x1, .int x2, .int x3, .int x4, .int x5, .int x6, .int (x7 + 1)], [], S, v4) Q)))))))))))) :
    z_J G d mX4_findEvents (54, [.ref 149, .ref x1, .int x2, .int x3, .int x4, .int x5, .int x6, .int x7], [], S, v) Q := by
  refine zj_iload dX4_findEvents_54 rfl ?_
  refine zj_aload_n dX4_findEvents_56 rfl rfl ?_
  refine zj_getI (ci := 4) (j := 14) dX4_findEvents_57 wf_X4_58 (by decide) (by decide) (zk_149 hL) rfl ?_
  refine zj_icmp_ge (tgt := 133) dX4_findEvents_60 (by decide) (fun c => ?_) (fun c => ?_)
  · replace h := h.1 c
    refine zj_iload dX4_findEvents_133 rfl ?_
    refine zj_istore_n (ls2 := [.ref 149, .ref x1, .int x2, .int x6, .int x4, .int x5, .int x6, .int x7]) dX4_findEvents_135 rfl (by decide) rfl rfl ?_
    refine zj_iinc (y := x5 + 1) (ls2 := [.ref 149, .ref x1, .int x2, .int x6, .int x4, .int (x5 + 1), .int x6, .int x7]) dX4_findEvents_136 rfl rfl (by decide) rfl rfl ?_
    refine zj_goto (tgt := 17) dX4_findEvents_139 (by decide) ?_
    refine zj_forget (ls2 := [.ref 149, .ref x1, .int x2, .int x6, .int x4, .int (x5 + 1), .null, .null]) ⟨Or.inr rfl, Or.inr rfl, Or.inr rfl, Or.inr rfl, Or.inr rfl, Or.inr rfl, Or.inl rfl, Or.inl rfl, trivial⟩ ?_
    exact h
  · replace h := h.2 c
    refine zj_iload dX4_findEvents_63 rfl ?_
    refine zj_iload_n dX4_findEvents_65 rfl rfl ?_
    refine zj_ixor dX4_findEvents_66 ?_
    refine zj_iload dX4_findEvents_67 rfl ?_
    refine zj_ishr dX4_findEvents_69 ?_
    refine zj_iconst (x := 1) dX4_findEvents_70 rfl ?_
    refine zj_iand dX4_findEvents_71 ?_
    refine zj_iconst (x := 1) dX4_findEvents_72 rfl ?_
    refine zj_icmp_ne (tgt := 127) dX4_findEvents_73 (by decide) (fun c => ?_) (fun c => ?_)
    · replace h := h.1 c
      refine zj_iinc (y := x7 + 1) (ls2 := [.ref 149, .ref x1, .int x2, .int x3, .int x4, .int x5, .int x6, .int (x7 + 1)]) dX4_findEvents_127 rfl rfl (by decide) rfl rfl ?_
      refine zj_goto (tgt := 54) dX4_findEvents_130 (by decide) ?_
      exact h
    · replace h := h.2 c
      refine zj_aload_n dX4_findEvents_76 rfl rfl ?_
      refine zj_getR (ci := 4) (j := 9) dX4_findEvents_77 wf_X4_27 (by decide) (by decide) (zk_149 hL) rfl (zr_149_9 hL) ?_
      refine zj_aload_n dX4_findEvents_80 rfl rfl ?_
      refine zj_getI (ci := 4) (j := 3) dX4_findEvents_81 wf_X4_106 (by decide) (by decide) (zk_149 hL) rfl ?_
      refine zj_iload dX4_findEvents_84 rfl ?_
      refine zj_iastore dX4_findEvents_86 (zk_155 hL) (by rw [(zl_155 hL)]; exact h.1) (fun v1 ev1 => ?_)
      replace h := h.2 v1 ev1
      refine zj_aload_n dX4_findEvents_87 rfl rfl ?_
      refine zj_getR (ci := 4) (j := 10) dX4_findEvents_88 wf_X4_30 (by decide) (by decide) (zk_149 hL) rfl (zr_149_10 hL) ?_
      refine zj_aload_n dX4_findEvents_91 rfl rfl ?_
      refine zj_getI (ci := 4) (j := 3) dX4_findEvents_92 wf_X4_106 (by decide) (by decide) (zk_149 hL) rfl ?_
      refine zj_iload dX4_findEvents_95 rfl ?_
      refine zj_iastore dX4_findEvents_97 (zk_156 hL) (by rw [(zl_156 hL)]; exact h.1) (fun v2 ev2 => ?_)
      replace h := h.2 v2 ev2
      refine zj_aload_n dX4_findEvents_98 rfl rfl ?_
      refine zj_getR (ci := 4) (j := 11) dX4_findEvents_99 wf_X4_33 (by decide) (by decide) (zk_149 hL) rfl (zr_149_11 hL) ?_
      refine zj_aload_n dX4_findEvents_102 rfl rfl ?_
      refine zj_getI (ci := 4) (j := 3) dX4_findEvents_103 wf_X4_106 (by decide) (by decide) (zk_149 hL) rfl ?_
      refine zj_iload dX4_findEvents_106 rfl ?_
      refine zj_aload_n dX4_findEvents_108 rfl rfl ?_
      refine zj_getI (ci := 4) (j := 14) dX4_findEvents_109 wf_X4_58 (by decide) (by decide) (zk_149 hL) rfl ?_
      refine zj_imul dX4_findEvents_112 ?_
      refine zj_iload dX4_findEvents_113 rfl ?_
      refine zj_iadd dX4_findEvents_115 ?_
      refine zj_iastore dX4_findEvents_116 (zk_157 hL) (by rw [(zl_157 hL)]; exact h.1) (fun v3 ev3 => ?_)
      replace h := h.2 v3 ev3
      refine zj_aload_n dX4_findEvents_117 rfl rfl ?_
      refine zj_dup dX4_findEvents_118 rfl ?_
      refine zj_getI (ci := 4) (j := 3) dX4_findEvents_119 wf_X4_106 (by decide) (by decide) (zk_149 hL) rfl ?_
      refine zj_iconst (x := 1) dX4_findEvents_122 rfl ?_
      refine zj_iadd dX4_findEvents_123 ?_
      refine zj_putI (ci := 4) (j := 3) dX4_findEvents_124 wf_X4_106 (by decide) (by decide) (zk_149 hL) rfl rfl rfl rfl (fun v4 ev4 => ?_)
      replace h := h v4 ev4
      refine zj_iinc (y := x7 + 1) (ls2 := [.ref 149, .ref x1, .int x2, .int x3, .int x4, .int x5, .int x6, .int (x7 + 1)]) dX4_findEvents_127 rfl rfl (by decide) rfl rfl ?_
      refine zj_goto (tgt := 54) dX4_findEvents_130 (by decide) ?_
      exact h
theorem sg_X4_join_0 {G : z_G} {d : Nat} {S : z_Shp} {v : z_Dat} {Q : Option Value → z_Shp → z_Dat → Prop} {x1 : Int32} {x2 : Int32} {x3 : Int32} (hL : z_L S)
    (h : ((v 149 2) < 321 → (vp_in (v 149 2) 321 ∧ (∀ v1, v1 = z_u v 150 (v 149 2).toNatClampNeg x1 → (vp_in (v1 149 2) 321 ∧ (∀ v2, v2 = z_u v1 151 (v1 149 2).toNatClampNeg x2 → (vp_in (v2 149 2) 321 ∧ (∀ v3, v3 = z_u v2 152 (v2 149 2).toNatClampNeg x3 → (z_J G d mX4_link (0, [.ref 149, .int x1, .int (v3 149 2)], [], S, v3) (fun r S1 v4 => r = none ∧ S1 = S ∧ (z_J G d mX4_link (0, [.ref 149, .int x2, .int (v4 149 2)], [], S, v4) (fun r S1 v5 => r = none ∧ S1 = S ∧ (∀ v6, v6 = z_u v5 149 2 ((v5 149 2) + 1) → (Q none S v6))))))))))))) ∧ (¬ (v 149 2) < 321 → (Q none S v))) :
    z_J G (d + 1) mX4_join (0, [.ref 149, .int x1, .int x2, .int x3], [], S, v) Q := by
  refine zj_aload_n dX4_join_0 rfl rfl ?_
  refine zj_getI (ci := 4) (j := 2) dX4_join_1 wf_X4_65 (by decide) (by decide) (zk_149 hL) rfl ?_
  refine zj_sipush (x := 321) dX4_join_4 rfl ?_
  refine zj_icmp_lt (tgt := 11) dX4_join_7 (by decide) (fun c => ?_) (fun c => ?_)
  · replace h := h.1 c
    refine zj_aload_n dX4_join_11 rfl rfl ?_
    refine zj_getR (ci := 4) (j := 4) dX4_join_12 wf_X4_9 (by decide) (by decide) (zk_149 hL) rfl (zr_149_4 hL) ?_
    refine zj_aload_n dX4_join_15 rfl rfl ?_
    refine zj_getI (ci := 4) (j := 2) dX4_join_16 wf_X4_65 (by decide) (by decide) (zk_149 hL) rfl ?_
    refine zj_iload_n dX4_join_19 rfl rfl ?_
    refine zj_iastore dX4_join_20 (zk_150 hL) (by rw [(zl_150 hL)]; exact h.1) (fun v1 ev1 => ?_)
    replace h := h.2 v1 ev1
    refine zj_aload_n dX4_join_21 rfl rfl ?_
    refine zj_getR (ci := 4) (j := 5) dX4_join_22 wf_X4_15 (by decide) (by decide) (zk_149 hL) rfl (zr_149_5 hL) ?_
    refine zj_aload_n dX4_join_25 rfl rfl ?_
    refine zj_getI (ci := 4) (j := 2) dX4_join_26 wf_X4_65 (by decide) (by decide) (zk_149 hL) rfl ?_
    refine zj_iload_n dX4_join_29 rfl rfl ?_
    refine zj_iastore dX4_join_30 (zk_151 hL) (by rw [(zl_151 hL)]; exact h.1) (fun v2 ev2 => ?_)
    replace h := h.2 v2 ev2
    refine zj_aload_n dX4_join_31 rfl rfl ?_
    refine zj_getR (ci := 4) (j := 6) dX4_join_32 wf_X4_18 (by decide) (by decide) (zk_149 hL) rfl (zr_149_6 hL) ?_
    refine zj_aload_n dX4_join_35 rfl rfl ?_
    refine zj_getI (ci := 4) (j := 2) dX4_join_36 wf_X4_65 (by decide) (by decide) (zk_149 hL) rfl ?_
    refine zj_iload_n dX4_join_39 rfl rfl ?_
    refine zj_iastore dX4_join_40 (zk_152 hL) (by rw [(zl_152 hL)]; exact h.1) (fun v3 ev3 => ?_)
    replace h := h.2 v3 ev3
    refine zj_aload_n dX4_join_41 rfl rfl ?_
    refine zj_iload_n dX4_join_42 rfl rfl ?_
    refine zj_aload_n dX4_join_43 rfl rfl ?_
    refine zj_getI (ci := 4) (j := 2) dX4_join_44 wf_X4_65 (by decide) (by decide) (zk_149 hL) rfl ?_
    refine zj_callV (M' := mX4_link) (avs := [.int x1, .int (v3 149 2)]) (st := []) (ci := 4) dX4_join_47 wm_X4_link wl_X4_102 wi_X4_link ws_X4_link (by decide) (zk_149 hL) rfl rfl (by decide) rfl (Nat.le_of_ble_eq_true rfl) (Nat.le_of_ble_eq_true rfl) ⟨Or.inl (z_k0 (zk_149 hL)), trivial⟩ trivial (z_J.mono h (fun r S1 v4 hq => ?_))
    obtain ⟨rfl, rfl, h⟩ := hq
    refine zj_aload_n dX4_join_50 rfl rfl ?_
    refine zj_iload_n dX4_join_51 rfl rfl ?_
    refine zj_aload_n dX4_join_52 rfl rfl ?_
    refine zj_getI (ci := 4) (j := 2) dX4_join_53 wf_X4_65 (by decide) (by decide) (zk_149 hL) rfl ?_
    refine zj_callV (M' := mX4_link) (avs := [.int x2, .int (v4 149 2)]) (st := []) (ci := 4) dX4_join_56 wm_X4_link wl_X4_102 wi_X4_link ws_X4_link (by decide) (zk_149 hL) rfl rfl (by decide) rfl (Nat.le_of_ble_eq_true rfl) (Nat.le_of_ble_eq_true rfl) ⟨Or.inl (z_k0 (zk_149 hL)), trivial⟩ trivial (z_J.mono h (fun r S1 v5 hq => ?_))
    obtain ⟨rfl, rfl, h⟩ := hq
    refine zj_aload_n dX4_join_59 rfl rfl ?_
    refine zj_dup dX4_join_60 rfl ?_
    refine zj_getI (ci := 4) (j := 2) dX4_join_61 wf_X4_65 (by decide) (by decide) (zk_149 hL) rfl ?_
    refine zj_iconst (x := 1) dX4_join_64 rfl ?_
    refine zj_iadd dX4_join_65 ?_
    refine zj_putI (ci := 4) (j := 2) dX4_join_66 wf_X4_65 (by decide) (by decide) (zk_149 hL) rfl rfl rfl rfl (fun v6 ev6 => ?_)
    replace h := h v6 ev6
    exact zj_vret dX4_join_69 rfl h
  · replace h := h.2 c
    exact zj_vret dX4_join_10 rfl h
theorem sg_X4_joinToNext_0 {G : z_G} {d : Nat} {S : z_Shp} {v : z_Dat} {Q : Option Value → z_Shp → z_Dat → Prop} {x1 : Nat} {x2 : Int32} {x3 : Int32} (hx1 : z_isF x1)
    (h : z_J G d mX4_joinToNext (3, [.ref 149, .ref x1, .int x2, .int x3, .int 0], [], S, v) Q) :
    z_J G d mX4_joinToNext (0, [.ref 149, .ref x1, .int x2, .int x3, .null], [], S, v) Q := by
  refine zj_iconst (x := 0) dX4_joinToNext_0 rfl ?_
  refine zj_istore (ls2 := [.ref 149, .ref x1, .int x2, .int x3, .int 0]) dX4_joinToNext_1 (by decide) rfl rfl ?_
  exact h
theorem sg_X4_joinToNext_3 {G : z_G} {d : Nat} {S : z_Shp} {v : z_Dat} {Q : Option Value → z_Shp → z_Dat → Prop} {x2 : Int32} {x3 : Int32} {x4 : Int32} {x1 : Nat} (hL : z_L S) (hx1 : z_isF x1)
    (h : ((v 149 14) ≤ x4 → (Q none S v)) ∧ (¬ (v 149 14) ≤ x4 → ((vp_in x2 2) ∧ ((vp_in x4 12) ∧ (z_J G d mX4_join (0, [.ref 149, .int ((x3 * (v 149 14)) + x4), .int (((x3 + 1) * (v 149 14)) + x4), .int (v (x1 + 8 + x2.toNatClampNeg) x4.toNatClampNeg)], [], S, v) (fun r S1 v1 => r = none ∧ S1 = S ∧ (z_J G (d + 1) mX4_joinToNext (3, [.ref 149, .ref x1, .int x2, .int x3, .int (x4 + 1)], [], S, v1) Q))))))) :
    z_J G (d + 1) mX4_joinToNext (3, [.ref 149, .ref x1, .int x2, .int x3, .int x4], [], S, v) Q := by
  refine zj_iload dX4_joinToNext_3 rfl ?_
  refine zj_aload_n dX4_joinToNext_5 rfl rfl ?_
  refine zj_getI (ci := 4) (j := 14) dX4_joinToNext_6 wf_X4_58 (by decide) (by decide) (zk_149 hL) rfl ?_
  refine zj_icmp_ge (tgt := 51) dX4_joinToNext_9 (by decide) (fun c => ?_) (fun c => ?_)
  · replace h := h.1 c
    exact zj_vret dX4_joinToNext_51 rfl h
  · replace h := h.2 c
    refine zj_aload_n dX4_joinToNext_12 rfl rfl ?_
    refine zj_iload_n dX4_joinToNext_13 rfl rfl ?_
    refine zj_aload_n dX4_joinToNext_14 rfl rfl ?_
    refine zj_getI (ci := 4) (j := 14) dX4_joinToNext_15 wf_X4_58 (by decide) (by decide) (zk_149 hL) rfl ?_
    refine zj_imul dX4_joinToNext_18 ?_
    refine zj_iload dX4_joinToNext_19 rfl ?_
    refine zj_iadd dX4_joinToNext_21 ?_
    refine zj_iload_n dX4_joinToNext_22 rfl rfl ?_
    refine zj_iconst (x := 1) dX4_joinToNext_23 rfl ?_
    refine zj_iadd dX4_joinToNext_24 ?_
    refine zj_aload_n dX4_joinToNext_25 rfl rfl ?_
    refine zj_getI (ci := 4) (j := 14) dX4_joinToNext_26 wf_X4_58 (by decide) (by decide) (zk_149 hL) rfl ?_
    refine zj_imul dX4_joinToNext_29 ?_
    refine zj_iload dX4_joinToNext_30 rfl ?_
    refine zj_iadd dX4_joinToNext_32 ?_
    refine zj_aload_n dX4_joinToNext_33 rfl rfl ?_
    refine zj_getR (ci := 0) (j := 6) dX4_joinToNext_34 wf_X4_99 (by decide) (by decide) (zFk0 hL hx1) rfl (zFr0_6 hL hx1) ?_
    refine zj_iload_n dX4_joinToNext_37 rfl rfl ?_
    obtain ⟨hi1, h⟩ := h
    refine zj_aaload0 dX4_joinToNext_38 (zFk7 hL hx1) (by rw [(zFl7 hL hx1)]; exact hi1) (zFg7r hL hx1 hi1) ?_
    refine zj_iload dX4_joinToNext_39 rfl ?_
    refine zj_iaload dX4_joinToNext_41 (zFg7k hL hx1 hi1) (by rw [(zFg7l hL hx1 hi1)]; exact h.1) ?_
    replace h := h.2
    refine zj_callV (M' := mX4_join) (avs := [.int ((x3 * (v 149 14)) + x4), .int (((x3 + 1) * (v 149 14)) + x4), .int (v (x1 + 8 + x2.toNatClampNeg) x4.toNatClampNeg)]) (st := []) (ci := 4) dX4_joinToNext_42 wm_X4_join wl_X4_95 wi_X4_join ws_X4_join (by decide) (zk_149 hL) rfl rfl (by decide) rfl (Nat.le_of_ble_eq_true rfl) (Nat.le_of_ble_eq_true rfl) ⟨Or.inl (z_k0 (zk_149 hL)), Or.inl (z_k0 (zFk0 hL hx1)), trivial⟩ trivial (z_J.mono h (fun r S1 v1 hq => ?_))
    obtain ⟨rfl, rfl, h⟩ := hq
    refine zj_iinc (y := x4 + 1) (ls2 := [.ref 149, .ref x1, .int x2, .int x3, .int (x4 + 1)]) dX4_joinToNext_45 rfl rfl (by decide) rfl rfl ?_
    refine zj_goto (tgt := 3) dX4_joinToNext_48 (by decide) ?_
    exact h
theorem sg_X4_joinWithin_0 {G : z_G} {d : Nat} {S : z_Shp} {v : z_Dat} {Q : Option Value → z_Shp → z_Dat → Prop} {x1 : Nat} {x2 : Int32} {x3 : Int32} (hx1 : z_isF x1)
    (h : z_J G d mX4_joinWithin (3, [.ref 149, .ref x1, .int x2, .int x3, .int 0, .null, .null], [], S, v) Q) :
    z_J G d mX4_joinWithin (0, [.ref 149, .ref x1, .int x2, .int x3, .null, .null, .null], [], S, v) Q := by
  refine zj_iconst (x := 0) dX4_joinWithin_0 rfl ?_
  refine zj_istore (ls2 := [.ref 149, .ref x1, .int x2, .int x3, .int 0, .null, .null]) dX4_joinWithin_1 (by decide) rfl rfl ?_
  exact h
theorem sg_X4_joinWithin_3 {G : z_G} {d : Nat} {S : z_Shp} {v : z_Dat} {Q : Option Value → z_Shp → z_Dat → Prop} {x2 : Int32} {x3 : Int32} {x4 : Int32} {x1 : Nat} {w_x1 : Nat} (hL : z_L S) (hx1 : z_isF x1) (rw_x1 : z_r S x1 0 = some w_x1) (hw_x1 : z_isW w_x1)
    (h : ((v 149 13) ≤ x4 → (Q none S v)) ∧ (¬ (v 149 13) ≤ x4 → ((vp_in x2 2) ∧ ((vp_in x4 25) ∧ ((¬ (v (w_x1 + 14 + x2.toNatClampNeg) x4.toNatClampNeg) = (-1) → ((vp_in x2 2) ∧ ((vp_in x4 25) ∧ ((vp_in x4 25) ∧ (z_J G d mX4_join (0, [.ref 149, .int ((x3 * (v 149 14)) + (v (w_x1 + 11 + x2.toNatClampNeg) x4.toNatClampNeg)), .int ((x3 * (v 149 14)) + (v (w_x1 + 14 + x2.toNatClampNeg) x4.toNatClampNeg)), .int (v (x1 + 6) x4.toNatClampNeg)], [], S, v) (fun r S1 v1 => r = none ∧ S1 = S ∧ (z_J G (d + 1) mX4_joinWithin (3, [.ref 149, .ref x1, .int x2, .int x3, .int (x4 + 1), .null, .null], [], S, v1) Q))))))) ∧ ((v (w_x1 + 14 + x2.toNatClampNeg) x4.toNatClampNeg) = (-1) → ((vp_in x2 2) ∧ ((vp_in x4 25) ∧ ((vp_in x4 25) ∧ (z_J G d mX4_join (0, [.ref 149, .int ((x3 * (v 149 14)) + (v (w_x1 + 11 + x2.toNatClampNeg) x4.toNatClampNeg)), .int (v 149 1), .int (v (x1 + 6) x4.toNatClampNeg)], [], S, v) (fun r S1 v2 => r = none ∧ S1 = S ∧ (z_J G (d + 1) mX4_joinWithin (3, [.ref 149, .ref x1, .int x2, .int x3, .int (x4 + 1), .null, .null], [], S, v2) Q)))))))))))) :
    z_J G (d + 1) mX4_joinWithin (3, [.ref 149, .ref x1, .int x2, .int x3, .int x4, .null, .null], [], S, v) Q := by
  refine zj_iload dX4_joinWithin_3 rfl ?_
  refine zj_aload_n dX4_joinWithin_5 rfl rfl ?_
  refine zj_getI (ci := 4) (j := 13) dX4_joinWithin_6 wf_X4_54 (by decide) (by decide) (zk_149 hL) rfl ?_
  refine zj_icmp_ge (tgt := 88) dX4_joinWithin_9 (by decide) (fun c => ?_) (fun c => ?_)
  · replace h := h.1 c
    exact zj_vret dX4_joinWithin_88 rfl h
  · replace h := h.2 c
    refine zj_aload_n dX4_joinWithin_12 rfl rfl ?_
    refine zj_getR (ci := 0) (j := 0) dX4_joinWithin_13 wf_X4_45 (by decide) (by decide) (zFk0 hL hx1) rfl rw_x1 ?_
    refine zj_getR (ci := 9) (j := 7) dX4_joinWithin_16 wf_X4_85 (by decide) (by decide) (zWk0 hL hw_x1) rfl (zWr0_7 hL hw_x1) ?_
    refine zj_iload_n dX4_joinWithin_19 rfl rfl ?_
    obtain ⟨hi1, h⟩ := h
    refine zj_aaload0 dX4_joinWithin_20 (zWk13 hL hw_x1) (by rw [(zWl13 hL hw_x1)]; exact hi1) (zWg13r hL hw_x1 hi1) ?_
    refine zj_iload dX4_joinWithin_21 rfl ?_
    refine zj_iaload dX4_joinWithin_23 (zWg13k hL hw_x1 hi1) (by rw [(zWg13l hL hw_x1 hi1)]; exact h.1) ?_
    replace h := h.2
    refine zj_istore (ls2 := [.ref 149, .ref x1, .int x2, .int x3, .int x4, .int (v (w_x1 + 14 + x2.toNatClampNeg) x4.toNatClampNeg), .null]) dX4_joinWithin_24 (by decide) rfl rfl ?_
    refine zj_iload dX4_joinWithin_26 rfl ?_
    refine zj_iconst (x := (-1)) dX4_joinWithin_28 rfl ?_
    refine zj_icmp_ne (tgt := 39) dX4_joinWithin_29 (by decide) (fun c => ?_) (fun c => ?_)
    · replace h := h.1 c
      refine zj_iload_n dX4_joinWithin_39 rfl rfl ?_
      refine zj_aload_n dX4_joinWithin_40 rfl rfl ?_
      refine zj_getI (ci := 4) (j := 14) dX4_joinWithin_41 wf_X4_58 (by decide) (by decide) (zk_149 hL) rfl ?_
      refine zj_imul dX4_joinWithin_44 ?_
      refine zj_iload dX4_joinWithin_45 rfl ?_
      refine zj_iadd dX4_joinWithin_47 ?_
      refine zj_istore (ls2 := [.ref 149, .ref x1, .int x2, .int x3, .int x4, .int (v (w_x1 + 14 + x2.toNatClampNeg) x4.toNatClampNeg), .int ((x3 * (v 149 14)) + (v (w_x1 + 14 + x2.toNatClampNeg) x4.toNatClampNeg))]) dX4_joinWithin_48 (by decide) rfl rfl ?_
      refine zj_aload_n dX4_joinWithin_50 rfl rfl ?_
      refine zj_iload_n dX4_joinWithin_51 rfl rfl ?_
      refine zj_aload_n dX4_joinWithin_52 rfl rfl ?_
      refine zj_getI (ci := 4) (j := 14) dX4_joinWithin_53 wf_X4_58 (by decide) (by decide) (zk_149 hL) rfl ?_
      refine zj_imul dX4_joinWithin_56 ?_
      refine zj_aload_n dX4_joinWithin_57 rfl rfl ?_
      refine zj_getR (ci := 0) (j := 0) dX4_joinWithin_58 wf_X4_45 (by decide) (by decide) (zFk0 hL hx1) rfl rw_x1 ?_
      refine zj_getR (ci := 9) (j := 6) dX4_joinWithin_61 wf_X4_89 (by decide) (by decide) (zWk0 hL hw_x1) rfl (zWr0_6 hL hw_x1) ?_
      refine zj_iload_n dX4_joinWithin_64 rfl rfl ?_
      obtain ⟨hi2, h⟩ := h
      refine zj_aaload0 dX4_joinWithin_65 (zWk10 hL hw_x1) (by rw [(zWl10 hL hw_x1)]; exact hi2) (zWg10r hL hw_x1 hi2) ?_
      refine zj_iload dX4_joinWithin_66 rfl ?_
      refine zj_iaload dX4_joinWithin_68 (zWg10k hL hw_x1 hi2) (by rw [(zWg10l hL hw_x1 hi2)]; exact h.1) ?_
      replace h := h.2
      refine zj_iadd dX4_joinWithin_69 ?_
      refine zj_iload dX4_joinWithin_70 rfl ?_
      refine zj_aload_n dX4_joinWithin_72 rfl rfl ?_
      refine zj_getR (ci := 0) (j := 5) dX4_joinWithin_73 wf_X4_92 (by decide) (by decide) (zFk0 hL hx1) rfl (zFr0_5 hL hx1) ?_
      refine zj_iload dX4_joinWithin_76 rfl ?_
      refine zj_iaload dX4_joinWithin_78 (zFk6 hL hx1) (by rw [(zFl6 hL hx1)]; exact h.1) ?_
      replace h := h.2
      refine zj_callV (M' := mX4_join) (avs := [.int ((x3 * (v 149 14)) + (v (w_x1 + 11 + x2.toNatClampNeg) x4.toNatClampNeg)), .int ((x3 * (v 149 14)) + (v (w_x1 + 14 + x2.toNatClampNeg) x4.toNatClampNeg)), .int (v (x1 + 6) x4.toNatClampNeg)]) (st := []) (ci := 4) dX4_joinWithin_79 wm_X4_join wl_X4_95 wi_X4_join ws_X4_join (by decide) (zk_149 hL) rfl rfl (by decide) rfl (Nat.le_of_ble_eq_true rfl) (Nat.le_of_ble_eq_true rfl) ⟨Or.inl (z_k0 (zk_149 hL)), Or.inl (z_k0 (zFk0 hL hx1)), trivial⟩ trivial (z_J.mono h (fun r S1 v1 hq => ?_))
      obtain ⟨rfl, rfl, h⟩ := hq
      refine zj_iinc (y := x4 + 1) (ls2 := [.ref 149, .ref x1, .int x2, .int x3, .int (x4 + 1), .int (v (w_x1 + 14 + x2.toNatClampNeg) x4.toNatClampNeg), .int ((x3 * (v 149 14)) + (v (w_x1 + 14 + x2.toNatClampNeg) x4.toNatClampNeg))]) dX4_joinWithin_82 rfl rfl (by decide) rfl rfl ?_
      refine zj_goto (tgt := 3) dX4_joinWithin_85 (by decide) ?_
      refine zj_forget (ls2 := [.ref 149, .ref x1, .int x2, .int x3, .int (x4 + 1), .null, .null]) ⟨Or.inr rfl, Or.inr rfl, Or.inr rfl, Or.inr rfl, Or.inr rfl, Or.inl rfl, Or.inl rfl, trivial⟩ ?_
      exact h
    · replace h := h.2 c
      refine zj_aload_n dX4_joinWithin_32 rfl rfl ?_
      refine zj_getI (ci := 4) (j := 1) dX4_joinWithin_33 wf_X4_62 (by decide) (by decide) (zk_149 hL) rfl ?_
      refine zj_goto (tgt := 48) dX4_joinWithin_36 (by decide) ?_
      refine zj_istore (ls2 := [.ref 149, .ref x1, .int x2, .int x3, .int x4, .int (v (w_x1 + 14 + x2.toNatClampNeg) x4.toNatClampNeg), .int (v 149 1)]) dX4_joinWithin_48 (by decide) rfl rfl ?_
      refine zj_aload_n dX4_joinWithin_50 rfl rfl ?_
      refine zj_iload_n dX4_joinWithin_51 rfl rfl ?_
      refine zj_aload_n dX4_joinWithin_52 rfl rfl ?_
      refine zj_getI (ci := 4) (j := 14) dX4_joinWithin_53 wf_X4_58 (by decide) (by decide) (zk_149 hL) rfl ?_
      refine zj_imul dX4_joinWithin_56 ?_
      refine zj_aload_n dX4_joinWithin_57 rfl rfl ?_
      refine zj_getR (ci := 0) (j := 0) dX4_joinWithin_58 wf_X4_45 (by decide) (by decide) (zFk0 hL hx1) rfl rw_x1 ?_
      refine zj_getR (ci := 9) (j := 6) dX4_joinWithin_61 wf_X4_89 (by decide) (by decide) (zWk0 hL hw_x1) rfl (zWr0_6 hL hw_x1) ?_
      refine zj_iload_n dX4_joinWithin_64 rfl rfl ?_
      obtain ⟨hi3, h⟩ := h
      refine zj_aaload0 dX4_joinWithin_65 (zWk10 hL hw_x1) (by rw [(zWl10 hL hw_x1)]; exact hi3) (zWg10r hL hw_x1 hi3) ?_
      refine zj_iload dX4_joinWithin_66 rfl ?_
      refine zj_iaload dX4_joinWithin_68 (zWg10k hL hw_x1 hi3) (by rw [(zWg10l hL hw_x1 hi3)]; exact h.1) ?_
      replace h := h.2
      refine zj_iadd dX4_joinWithin_69 ?_
      refine zj_iload dX4_joinWithin_70 rfl ?_
      refine zj_aload_n dX4_joinWithin_72 rfl rfl ?_
      refine zj_getR (ci := 0) (j := 5) dX4_joinWithin_73 wf_X4_92 (by decide) (by decide) (zFk0 hL hx1) rfl (zFr0_5 hL hx1) ?_
      refine zj_iload dX4_joinWithin_76 rfl ?_
      refine zj_iaload dX4_joinWithin_78 (zFk6 hL hx1) (by rw [(zFl6 hL hx1)]; exact h.1) ?_
      replace h := h.2
      refine zj_callV (M' := mX4_join) (avs := [.int ((x3 * (v 149 14)) + (v (w_x1 + 11 + x2.toNatClampNeg) x4.toNatClampNeg)), .int (v 149 1), .int (v (x1 + 6) x4.toNatClampNeg)]) (st := []) (ci := 4) dX4_joinWithin_79 wm_X4_join wl_X4_95 wi_X4_join ws_X4_join (by decide) (zk_149 hL) rfl rfl (by decide) rfl (Nat.le_of_ble_eq_true rfl) (Nat.le_of_ble_eq_true rfl) ⟨Or.inl (z_k0 (zk_149 hL)), Or.inl (z_k0 (zFk0 hL hx1)), trivial⟩ trivial (z_J.mono h (fun r S1 v2 hq => ?_))
      obtain ⟨rfl, rfl, h⟩ := hq
      refine zj_iinc (y := x4 + 1) (ls2 := [.ref 149, .ref x1, .int x2, .int x3, .int (x4 + 1), .int (v (w_x1 + 14 + x2.toNatClampNeg) x4.toNatClampNeg), .int (v 149 1)]) dX4_joinWithin_82 rfl rfl (by decide) rfl rfl ?_
      refine zj_goto (tgt := 3) dX4_joinWithin_85 (by decide) ?_
      refine zj_forget (ls2 := [.ref 149, .ref x1, .int x2, .int x3, .int (x4 + 1), .null, .null]) ⟨Or.inr rfl, Or.inr rfl, Or.inr rfl, Or.inr rfl, Or.inr rfl, Or.inl rfl, Or.inl rfl, trivial⟩ ?_
      exact h
theorem sg_X4_link_0 {G : z_G} {d : Nat} {S : z_Shp} {v : z_Dat} {Q : Option Value → z_Shp → z_Dat → Prop} {x1 : Int32} {x2 : Int32} (hL : z_L S)
    (h : (x1 < 0 → (Q none S v)) ∧ (¬ x1 < 0 → (((v 149 0) ≤ x1 → (Q none S v)) ∧ (¬ (v 149 0) ≤ x1 → ((vp_in x1 108) ∧ (((v 153 x1.toNatClampNeg) < 6 → ((vp_in x1 108) ∧ (vp_in ((x1 * 6) + (v 153 x1.toNatClampNeg)) 648 ∧ (∀ v1, v1 = z_u v 154 ((x1 * 6) + (v 153 x1.toNatClampNeg)).toNatClampNeg x2 → ((vp_in x1 108) ∧ (vp_in x1 108 ∧ (∀ v2, v2 = z_u v1 153 x1.toNatClampNeg ((v1 153 x1.toNatClampNeg) + 1) → (Q none S v2)))))))) ∧ (¬ (v 153 x1.toNatClampNeg) < 6 → (Q none S v)))))))) :
    z_J G d mX4_link (0, [.ref 149, .int x1, .int x2], [], S, v) Q := by
  refine zj_iload_n dX4_link_0 rfl rfl ?_
  refine zj_if_lt (tgt := 23) dX4_link_1 (by decide) (fun c => ?_) (fun c => ?_)
  · replace h := h.1 c
    exact zj_vret dX4_link_23 rfl h
  · replace h := h.2 c
    refine zj_iload_n dX4_link_4 rfl rfl ?_
    refine zj_aload_n dX4_link_5 rfl rfl ?_
    refine zj_getI (ci := 4) (j := 0) dX4_link_6 wf_X4_59 (by decide) (by decide) (zk_149 hL) rfl ?_
    refine zj_icmp_ge (tgt := 23) dX4_link_9 (by decide) (fun c => ?_) (fun c => ?_)
    · replace h := h.1 c
      exact zj_vret dX4_link_23 rfl h
    · replace h := h.2 c
      refine zj_aload_n dX4_link_12 rfl rfl ?_
      refine zj_getR (ci := 4) (j := 7) dX4_link_13 wf_X4_21 (by decide) (by decide) (zk_149 hL) rfl (zr_149_7 hL) ?_
      refine zj_iload_n dX4_link_16 rfl rfl ?_
      refine zj_iaload dX4_link_17 (zk_153 hL) (by rw [(zl_153 hL)]; exact h.1) ?_
      replace h := h.2
      refine zj_bipush (x := 6) dX4_link_18 rfl ?_
      refine zj_icmp_lt (tgt := 24) dX4_link_20 (by decide) (fun c => ?_) (fun c => ?_)
      · replace h := h.1 c
        refine zj_aload_n dX4_link_24 rfl rfl ?_
        refine zj_getR (ci := 4) (j := 8) dX4_link_25 wf_X4_24 (by decide) (by decide) (zk_149 hL) rfl (zr_149_8 hL) ?_
        refine zj_iload_n dX4_link_28 rfl rfl ?_
        refine zj_bipush (x := 6) dX4_link_29 rfl ?_
        refine zj_imul dX4_link_31 ?_
        refine zj_aload_n dX4_link_32 rfl rfl ?_
        refine zj_getR (ci := 4) (j := 7) dX4_link_33 wf_X4_21 (by decide) (by decide) (zk_149 hL) rfl (zr_149_7 hL) ?_
        refine zj_iload_n dX4_link_36 rfl rfl ?_
        refine zj_iaload dX4_link_37 (zk_153 hL) (by rw [(zl_153 hL)]; exact h.1) ?_
        replace h := h.2
        refine zj_iadd dX4_link_38 ?_
        refine zj_iload_n dX4_link_39 rfl rfl ?_
        refine zj_iastore dX4_link_40 (zk_154 hL) (by rw [(zl_154 hL)]; exact h.1) (fun v1 ev1 => ?_)
        replace h := h.2 v1 ev1
        refine zj_aload_n dX4_link_41 rfl rfl ?_
        refine zj_getR (ci := 4) (j := 7) dX4_link_42 wf_X4_21 (by decide) (by decide) (zk_149 hL) rfl (zr_149_7 hL) ?_
        refine zj_iload_n dX4_link_45 rfl rfl ?_
        refine zj_dup2 dX4_link_46 rfl rfl ?_
        refine zj_iaload dX4_link_47 (zk_153 hL) (by rw [(zl_153 hL)]; exact h.1) ?_
        replace h := h.2
        refine zj_iconst (x := 1) dX4_link_48 rfl ?_
        refine zj_iadd dX4_link_49 ?_
        refine zj_iastore dX4_link_50 (zk_153 hL) (by rw [(zl_153 hL)]; exact h.1) (fun v2 ev2 => ?_)
        replace h := h.2 v2 ev2
        exact zj_vret dX4_link_51 rfl h
      · replace h := h.2 c
        exact zj_vret dX4_link_23 rfl h
theorem sg_X4_qubitsOf_0 {G : z_G} {d : Nat} {S : z_Shp} {v : z_Dat} {Q : Option Value → z_Shp → z_Dat → Prop} {x1 : Nat} (hx1 : z_k S x1 = 21)
    (h : z_J G d mX4_qubitsOf (4, [.ref 149, .ref x1, .int 0, .int 0, .null], [], S, v) Q) :
    z_J G d mX4_qubitsOf (0, [.ref 149, .ref x1, .null, .null, .null], [], S, v) Q := by
  refine zj_iconst (x := 0) dX4_qubitsOf_0 rfl ?_
  refine zj_istore_n (ls2 := [.ref 149, .ref x1, .int 0, .null, .null]) dX4_qubitsOf_1 rfl (by decide) rfl rfl ?_
  refine zj_iconst (x := 0) dX4_qubitsOf_2 rfl ?_
  refine zj_istore_n (ls2 := [.ref 149, .ref x1, .int 0, .int 0, .null]) dX4_qubitsOf_3 rfl (by decide) rfl rfl ?_
  exact h
theorem sg_X4_qubitsOf_4 {G : z_G} {d : Nat} {S : z_Shp} {v : z_Dat} {Q : Option Value → z_Shp → z_Dat → Prop} {x2 : Int32} {x3 : Int32} {x1 : Nat} (hL : z_L S) (hx1 : z_k S x1 = 21)
    (h : ((v 149 12) ≤ x3 → (Q (some (.int x2)) S v)) ∧ (¬ (v 149 12) ≤ x3 → (z_J G d mX4_qubitsOf (15, [.ref 149, .ref x1, .int x2, .int x3, .int 0], [], S, v) Q))) :
    z_J G d mX4_qubitsOf (4, [.ref 149, .ref x1, .int x2, .int x3, .null], [], S, v) Q := by
  refine zj_iload_n dX4_qubitsOf_4 rfl rfl ?_
  refine zj_aload_n dX4_qubitsOf_5 rfl rfl ?_
  refine zj_getI (ci := 4) (j := 12) dX4_qubitsOf_6 wf_X4_42 (by decide) (by decide) (zk_149 hL) rfl ?_
  refine zj_icmp_ge (tgt := 58) dX4_qubitsOf_9 (by decide) (fun c => ?_) (fun c => ?_)
  · replace h := h.1 c
    refine zj_iload_n dX4_qubitsOf_58 rfl rfl ?_
    exact zj_iret dX4_qubitsOf_59 rfl rfl h
  · replace h := h.2 c
    refine zj_iconst (x := 0) dX4_qubitsOf_12 rfl ?_
    refine zj_istore (ls2 := [.ref 149, .ref x1, .int x2, .int x3, .int 0]) dX4_qubitsOf_13 (by decide) rfl rfl ?_
    exact h
theorem sg_X4_qubitsOf_15 {G : z_G} {d : Nat} {S : z_Shp} {v : z_Dat} {Q : Option Value → z_Shp → z_Dat → Prop} {x2 : Int32} {x3 : Int32} {x4 : Int32} {x1 : Nat} (hL : z_L S) (hx1 : z_k S x1 = 21)
    (h : ((v 149 13) ≤ x4 → (z_J G d mX4_qubitsOf (4, [.ref 149, .ref x1, .int x2, .int (x3 + 1), .null], [], S, v) Q)) ∧ (¬ (v 149 13) ≤ x4 → ((vp_in ((x3 * ((v 149 13) + (v 149 14))) + x4) (z_l S x1)) ∧ (z_J G d mX4_qubitsOf (15, [.ref 149, .ref x1, .int (x2 ^^^ ((v x1 ((x3 * ((v 149 13) + (v 149 14))) + x4).toNatClampNeg) <<< (x4 &&& 31))), .int x3, .int (x4 + 1)], [], S, v) Q)))) :
    z_J G d mX4_qubitsOf (15, [.ref 149, .ref x1, .int x2, .int x3, .int x4], [], S, v) Q := by
  refine zj_iload dX4_qubitsOf_15 rfl ?_
  refine zj_aload_n dX4_qubitsOf_17 rfl rfl ?_
  refine zj_getI (ci := 4) (j := 13) dX4_qubitsOf_18 wf_X4_54 (by decide) (by decide) (zk_149 hL) rfl ?_
  refine zj_icmp_ge (tgt := 52) dX4_qubitsOf_21 (by decide) (fun c => ?_) (fun c => ?_)
  · replace h := h.1 c
    refine zj_iinc (y := x3 + 1) (ls2 := [.ref 149, .ref x1, .int x2, .int (x3 + 1), .int x4]) dX4_qubitsOf_52 rfl rfl (by decide) rfl rfl ?_
    refine zj_goto (tgt := 4) dX4_qubitsOf_55 (by decide) ?_
    refine zj_forget (ls2 := [.ref 149, .ref x1, .int x2, .int (x3 + 1), .null]) ⟨Or.inr rfl, Or.inr rfl, Or.inr rfl, Or.inr rfl, Or.inl rfl, trivial⟩ ?_
    exact h
  · replace h := h.2 c
    refine zj_iload_n dX4_qubitsOf_24 rfl rfl ?_
    refine zj_aload_n dX4_qubitsOf_25 rfl rfl ?_
    refine zj_iload_n dX4_qubitsOf_26 rfl rfl ?_
    refine zj_aload_n dX4_qubitsOf_27 rfl rfl ?_
    refine zj_getI (ci := 4) (j := 13) dX4_qubitsOf_28 wf_X4_54 (by decide) (by decide) (zk_149 hL) rfl ?_
    refine zj_aload_n dX4_qubitsOf_31 rfl rfl ?_
    refine zj_getI (ci := 4) (j := 14) dX4_qubitsOf_32 wf_X4_58 (by decide) (by decide) (zk_149 hL) rfl ?_
    refine zj_iadd dX4_qubitsOf_35 ?_
    refine zj_imul dX4_qubitsOf_36 ?_
    refine zj_iload dX4_qubitsOf_37 rfl ?_
    refine zj_iadd dX4_qubitsOf_39 ?_
    refine zj_iaload dX4_qubitsOf_40 hx1 h.1 ?_
    replace h := h.2
    refine zj_iload dX4_qubitsOf_41 rfl ?_
    refine zj_ishl dX4_qubitsOf_43 ?_
    refine zj_ixor dX4_qubitsOf_44 ?_
    refine zj_istore_n (ls2 := [.ref 149, .ref x1, .int (x2 ^^^ ((v x1 ((x3 * ((v 149 13) + (v 149 14))) + x4).toNatClampNeg) <<< (x4 &&& 31))), .int x3, .int x4]) dX4_qubitsOf_45 rfl (by decide) rfl rfl ?_
    refine zj_iinc (y := x4 + 1) (ls2 := [.ref 149, .ref x1, .int (x2 ^^^ ((v x1 ((x3 * ((v 149 13) + (v 149 14))) + x4).toNatClampNeg) <<< (x4 &&& 31))), .int x3, .int (x4 + 1)]) dX4_qubitsOf_46 rfl rfl (by decide) rfl rfl ?_
    refine zj_goto (tgt := 15) dX4_qubitsOf_49 (by decide) ?_
    exact h
theorem sg_X4_risesOf_0 {G : z_G} {d : Nat} {S : z_Shp} {v : z_Dat} {Q : Option Value → z_Shp → z_Dat → Prop} {x1 : Nat} {x2 : Int32} (hx1 : z_k S x1 = 21)
    (h : z_J G d mX4_risesOf (5, [.ref 149, .ref x1, .int x2, .int 0, .int 0], [], S, v) Q) :
    z_J G d mX4_risesOf (0, [.ref 149, .ref x1, .int x2, .null, .null], [], S, v) Q := by
  refine zj_iconst (x := 0) dX4_risesOf_0 rfl ?_
  refine zj_istore_n (ls2 := [.ref 149, .ref x1, .int x2, .int 0, .null]) dX4_risesOf_1 rfl (by decide) rfl rfl ?_
  refine zj_iconst (x := 0) dX4_risesOf_2 rfl ?_
  refine zj_istore (ls2 := [.ref 149, .ref x1, .int x2, .int 0, .int 0]) dX4_risesOf_3 (by decide) rfl rfl ?_
  exact h
theorem sg_X4_risesOf_5 {G : z_G} {d : Nat} {S : z_Shp} {v : z_Dat} {Q : Option Value → z_Shp → z_Dat → Prop} {x2 : Int32} {x3 : Int32} {x4 : Int32} {x1 : Nat} (hL : z_L S) (hx1 : z_k S x1 = 21)
    (h : ((v 149 14) ≤ x4 → (Q (some (.int x3)) S v)) ∧ (¬ (v 149 14) ≤ x4 → ((vp_in (((x2 * ((v 149 13) + (v 149 14))) + (v 149 13)) + x4) (z_l S x1)) ∧ (z_J G d mX4_risesOf (5, [.ref 149, .ref x1, .int x2, .int (x3 ||| ((v x1 (((x2 * ((v 149 13) + (v 149 14))) + (v 149 13)) + x4).toNatClampNeg) <<< (x4 &&& 31))), .int (x4 + 1)], [], S, v) Q)))) :
    z_J G d mX4_risesOf (5, [.ref 149, .ref x1, .int x2, .int x3, .int x4], [], S, v) Q := by
  refine zj_iload dX4_risesOf_5 rfl ?_
  refine zj_aload_n dX4_risesOf_7 rfl rfl ?_
  refine zj_getI (ci := 4) (j := 14) dX4_risesOf_8 wf_X4_58 (by decide) (by decide) (zk_149 hL) rfl ?_
  refine zj_icmp_ge (tgt := 47) dX4_risesOf_11 (by decide) (fun c => ?_) (fun c => ?_)
  · replace h := h.1 c
    refine zj_iload_n dX4_risesOf_47 rfl rfl ?_
    exact zj_iret dX4_risesOf_48 rfl rfl h
  · replace h := h.2 c
    refine zj_iload_n dX4_risesOf_14 rfl rfl ?_
    refine zj_aload_n dX4_risesOf_15 rfl rfl ?_
    refine zj_iload_n dX4_risesOf_16 rfl rfl ?_
    refine zj_aload_n dX4_risesOf_17 rfl rfl ?_
    refine zj_getI (ci := 4) (j := 13) dX4_risesOf_18 wf_X4_54 (by decide) (by decide) (zk_149 hL) rfl ?_
    refine zj_aload_n dX4_risesOf_21 rfl rfl ?_
    refine zj_getI (ci := 4) (j := 14) dX4_risesOf_22 wf_X4_58 (by decide) (by decide) (zk_149 hL) rfl ?_
    refine zj_iadd dX4_risesOf_25 ?_
    refine zj_imul dX4_risesOf_26 ?_
    refine zj_aload_n dX4_risesOf_27 rfl rfl ?_
    refine zj_getI (ci := 4) (j := 13) dX4_risesOf_28 wf_X4_54 (by decide) (by decide) (zk_149 hL) rfl ?_
    refine zj_iadd dX4_risesOf_31 ?_
    refine zj_iload dX4_risesOf_32 rfl ?_
    refine zj_iadd dX4_risesOf_34 ?_
    refine zj_iaload dX4_risesOf_35 hx1 h.1 ?_
    replace h := h.2
    refine zj_iload dX4_risesOf_36 rfl ?_
    refine zj_ishl dX4_risesOf_38 ?_
    refine zj_ior dX4_risesOf_39 ?_
    refine zj_istore_n (ls2 := [.ref 149, .ref x1, .int x2, .int (x3 ||| ((v x1 (((x2 * ((v 149 13) + (v 149 14))) + (v 149 13)) + x4).toNatClampNeg) <<< (x4 &&& 31))), .int x4]) dX4_risesOf_40 rfl (by decide) rfl rfl ?_
    refine zj_iinc (y := x4 + 1) (ls2 := [.ref 149, .ref x1, .int x2, .int (x3 ||| ((v x1 (((x2 * ((v 149 13) + (v 149 14))) + (v 149 13)) + x4).toNatClampNeg) <<< (x4 &&& 31))), .int (x4 + 1)]) dX4_risesOf_41 rfl rfl (by decide) rfl rfl ?_
    refine zj_goto (tgt := 5) dX4_risesOf_44 (by decide) ?_
    exact h
theorem sg_X4_spread_0 {G : z_G} {d : Nat} {S : z_Shp} {v : z_Dat} {Q : Option Value → z_Shp → z_Dat → Prop} {x1 : Nat} {x2 : Int32} {w_x1 : Nat} (hL : z_L S) (hx1 : z_isF x1) (rw_x1 : z_r S x1 0 = some w_x1) (hw_x1 : z_isW w_x1)
    (h : ∀ v1, v1 = z_u v 149 12 ((v x1 1) + 1) → (∀ v2, v2 = z_u v1 149 13 (v1 w_x1 1) → (∀ v3, v3 = z_u v2 149 14 (v2 w_x1 2) → (∀ v4, v4 = z_u v3 149 0 ((v3 149 12) * (v3 149 14)) → (∀ v5, v5 = z_u v4 149 1 (v4 149 0) → (∀ v6, v6 = z_u v5 149 2 0 → (z_J G d mJ7_fill_53178 (0, [.ref 153, .int 0, .null, .null], [], S, v6) (fun r S1 v7 => r = none ∧ S1 = S ∧ (z_J G (d + 1) mX4_spread (68, [.ref 149, .ref x1, .int x2, .int 0], [], S, v7) Q))))))))) :
    z_J G (d + 1) mX4_spread (0, [.ref 149, .ref x1, .int x2, .null], [], S, v) Q := by
  refine zj_aload_n dX4_spread_0 rfl rfl ?_
  refine zj_aload_n dX4_spread_1 rfl rfl ?_
  refine zj_getI (ci := 0) (j := 1) dX4_spread_2 wf_X4_36 (by decide) (by decide) (zFk0 hL hx1) rfl ?_
  refine zj_iconst (x := 1) dX4_spread_5 rfl ?_
  refine zj_iadd dX4_spread_6 ?_
  refine zj_putI (ci := 4) (j := 12) dX4_spread_7 wf_X4_42 (by decide) (by decide) (zk_149 hL) rfl rfl rfl rfl (fun v1 ev1 => ?_)
  replace h := h v1 ev1
  refine zj_aload_n dX4_spread_10 rfl rfl ?_
  refine zj_aload_n dX4_spread_11 rfl rfl ?_
  refine zj_getR (ci := 0) (j := 0) dX4_spread_12 wf_X4_45 (by decide) (by decide) (zFk0 hL hx1) rfl rw_x1 ?_
  refine zj_getI (ci := 9) (j := 1) dX4_spread_15 wf_X4_49 (by decide) (by decide) (zWk0 hL hw_x1) rfl ?_
  refine zj_putI (ci := 4) (j := 13) dX4_spread_18 wf_X4_54 (by decide) (by decide) (zk_149 hL) rfl rfl rfl rfl (fun v2 ev2 => ?_)
  replace h := h v2 ev2
  refine zj_aload_n dX4_spread_21 rfl rfl ?_
  refine zj_aload_n dX4_spread_22 rfl rfl ?_
  refine zj_getR (ci := 0) (j := 0) dX4_spread_23 wf_X4_45 (by decide) (by decide) (zFk0 hL hx1) rfl rw_x1 ?_
  refine zj_getI (ci := 9) (j := 2) dX4_spread_26 wf_X4_55 (by decide) (by decide) (zWk0 hL hw_x1) rfl ?_
  refine zj_putI (ci := 4) (j := 14) dX4_spread_29 wf_X4_58 (by decide) (by decide) (zk_149 hL) rfl rfl rfl rfl (fun v3 ev3 => ?_)
  replace h := h v3 ev3
  refine zj_aload_n dX4_spread_32 rfl rfl ?_
  refine zj_aload_n dX4_spread_33 rfl rfl ?_
  refine zj_getI (ci := 4) (j := 12) dX4_spread_34 wf_X4_42 (by decide) (by decide) (zk_149 hL) rfl ?_
  refine zj_aload_n dX4_spread_37 rfl rfl ?_
  refine zj_getI (ci := 4) (j := 14) dX4_spread_38 wf_X4_58 (by decide) (by decide) (zk_149 hL) rfl ?_
  refine zj_imul dX4_spread_41 ?_
  refine zj_putI (ci := 4) (j := 0) dX4_spread_42 wf_X4_59 (by decide) (by decide) (zk_149 hL) rfl rfl rfl rfl (fun v4 ev4 => ?_)
  replace h := h v4 ev4
  refine zj_aload_n dX4_spread_45 rfl rfl ?_
  refine zj_aload_n dX4_spread_46 rfl rfl ?_
  refine zj_getI (ci := 4) (j := 0) dX4_spread_47 wf_X4_59 (by decide) (by decide) (zk_149 hL) rfl ?_
  refine zj_putI (ci := 4) (j := 1) dX4_spread_50 wf_X4_62 (by decide) (by decide) (zk_149 hL) rfl rfl rfl rfl (fun v5 ev5 => ?_)
  replace h := h v5 ev5
  refine zj_aload_n dX4_spread_53 rfl rfl ?_
  refine zj_iconst (x := 0) dX4_spread_54 rfl ?_
  refine zj_putI (ci := 4) (j := 2) dX4_spread_55 wf_X4_65 (by decide) (by decide) (zk_149 hL) rfl rfl rfl rfl (fun v6 ev6 => ?_)
  replace h := h v6 ev6
  refine zj_aload_n dX4_spread_58 rfl rfl ?_
  refine zj_getR (ci := 4) (j := 7) dX4_spread_59 wf_X4_21 (by decide) (by decide) (zk_149 hL) rfl (zr_149_7 hL) ?_
  refine zj_iconst (x := 0) dX4_spread_62 rfl ?_
  refine zj_callS (M' := mJ7_fill_53178) (avs := [.ref 153, .int 0]) (st := []) dX4_spread_63 wm_J7_fill_53178 wl_X4_68 wt_J7_fill_53178 rfl (by decide) rfl (Nat.le_of_ble_eq_true rfl) (Nat.le_of_ble_eq_true rfl) ⟨Or.inl (z_k0 (zk_149 hL)), Or.inl (z_k0 (zFk0 hL hx1)), trivial⟩ trivial (z_J.mono h (fun r S1 v7 hq => ?_))
  obtain ⟨rfl, rfl, h⟩ := hq
  refine zj_iconst (x := 0) dX4_spread_66 rfl ?_
  refine zj_istore_n (ls2 := [.ref 149, .ref x1, .int x2, .int 0]) dX4_spread_67 rfl (by decide) rfl rfl ?_
  exact h
theorem sg_X4_spread_68 {G : z_G} {d : Nat} {S : z_Shp} {v : z_Dat} {Q : Option Value → z_Shp → z_Dat → Prop} {x2 : Int32} {x3 : Int32} {x1 : Nat} (hL : z_L S) (hx1 : z_isF x1)
    (h : ((v 149 12) ≤ x3 → (z_J G d mX4_findEvents (0, [.ref 149, .ref x1, .int x2, .null, .null, .null, .null, .null], [], S, v) (fun r S1 v1 => r = none ∧ S1 = S ∧ (Q none S v1)))) ∧ (¬ (v 149 12) ≤ x3 → (z_J G d mX4_joinWithin (0, [.ref 149, .ref x1, .int x2, .int x3, .null, .null, .null], [], S, v) (fun r S1 v2 => r = none ∧ S1 = S ∧ (((v2 149 12) ≤ (x3 + 1) → (z_J G (d + 1) mX4_spread (68, [.ref 149, .ref x1, .int x2, .int (x3 + 1)], [], S, v2) Q)) ∧ (¬ (v2 149 12) ≤ (x3 + 1) → (z_J G d mX4_joinToNext (0, [.ref 149, .ref x1, .int x2, .int x3, .null], [], S, v2) (fun r S1 v3 => r = none ∧ S1 = S ∧ (z_J G (d + 1) mX4_spread (68, [.ref 149, .ref x1, .int x2, .int (x3 + 1)], [], S, v3) Q))))))))) :
    z_J G (d + 1) mX4_spread (68, [.ref 149, .ref x1, .int x2, .int x3], [], S, v) Q := by
  refine zj_iload_n dX4_spread_68 rfl rfl ?_
  refine zj_aload_n dX4_spread_69 rfl rfl ?_
  refine zj_getI (ci := 4) (j := 12) dX4_spread_70 wf_X4_42 (by decide) (by decide) (zk_149 hL) rfl ?_
  refine zj_icmp_ge (tgt := 106) dX4_spread_73 (by decide) (fun c => ?_) (fun c => ?_)
  · replace h := h.1 c
    refine zj_aload_n dX4_spread_106 rfl rfl ?_
    refine zj_aload_n dX4_spread_107 rfl rfl ?_
    refine zj_iload_n dX4_spread_108 rfl rfl ?_
    refine zj_callV (M' := mX4_findEvents) (avs := [.ref x1, .int x2]) (st := []) (ci := 4) dX4_spread_109 wm_X4_findEvents wl_X4_81 wi_X4_findEvents ws_X4_findEvents (by decide) (zk_149 hL) rfl rfl (by decide) rfl (Nat.le_of_ble_eq_true rfl) (Nat.le_of_ble_eq_true rfl) ⟨Or.inl (z_k0 (zk_149 hL)), Or.inl (z_k0 (zFk0 hL hx1)), trivial⟩ trivial (z_J.mono h (fun r S1 v1 hq => ?_))
    obtain ⟨rfl, rfl, h⟩ := hq
    exact zj_vret dX4_spread_112 rfl h
  · replace h := h.2 c
    refine zj_aload_n dX4_spread_76 rfl rfl ?_
    refine zj_aload_n dX4_spread_77 rfl rfl ?_
    refine zj_iload_n dX4_spread_78 rfl rfl ?_
    refine zj_iload_n dX4_spread_79 rfl rfl ?_
    refine zj_callV (M' := mX4_joinWithin) (avs := [.ref x1, .int x2, .int x3]) (st := []) (ci := 4) dX4_spread_80 wm_X4_joinWithin wl_X4_74 wi_X4_joinWithin ws_X4_joinWithin (by decide) (zk_149 hL) rfl rfl (by decide) rfl (Nat.le_of_ble_eq_true rfl) (Nat.le_of_ble_eq_true rfl) ⟨Or.inl (z_k0 (zk_149 hL)), Or.inl (z_k0 (zFk0 hL hx1)), trivial⟩ trivial (z_J.mono h (fun r S1 v2 hq => ?_))
    obtain ⟨rfl, rfl, h⟩ := hq
    refine zj_iload_n dX4_spread_83 rfl rfl ?_
    refine zj_iconst (x := 1) dX4_spread_84 rfl ?_
    refine zj_iadd dX4_spread_85 ?_
    refine zj_aload_n dX4_spread_86 rfl rfl ?_
    refine zj_getI (ci := 4) (j := 12) dX4_spread_87 wf_X4_42 (by decide) (by decide) (zk_149 hL) rfl ?_
    refine zj_icmp_ge (tgt := 100) dX4_spread_90 (by decide) (fun c => ?_) (fun c => ?_)
    · replace h := h.1 c
      refine zj_iinc (y := x3 + 1) (ls2 := [.ref 149, .ref x1, .int x2, .int (x3 + 1)]) dX4_spread_100 rfl rfl (by decide) rfl rfl ?_
      refine zj_goto (tgt := 68) dX4_spread_103 (by decide) ?_
      exact h
    · replace h := h.2 c
      refine zj_aload_n dX4_spread_93 rfl rfl ?_
      refine zj_aload_n dX4_spread_94 rfl rfl ?_
      refine zj_iload_n dX4_spread_95 rfl rfl ?_
      refine zj_iload_n dX4_spread_96 rfl rfl ?_
      refine zj_callV (M' := mX4_joinToNext) (avs := [.ref x1, .int x2, .int x3]) (st := []) (ci := 4) dX4_spread_97 wm_X4_joinToNext wl_X4_78 wi_X4_joinToNext ws_X4_joinToNext (by decide) (zk_149 hL) rfl rfl (by decide) rfl (Nat.le_of_ble_eq_true rfl) (Nat.le_of_ble_eq_true rfl) ⟨Or.inl (z_k0 (zk_149 hL)), Or.inl (z_k0 (zFk0 hL hx1)), trivial⟩ trivial (z_J.mono h (fun r S1 v3 hq => ?_))
      obtain ⟨rfl, rfl, h⟩ := hq
      refine zj_iinc (y := x3 + 1) (ls2 := [.ref 149, .ref x1, .int x2, .int (x3 + 1)]) dX4_spread_100 rfl rfl (by decide) rfl rfl ?_
      refine zj_goto (tgt := 68) dX4_spread_103 (by decide) ?_
      exact h
