/-! segments of what constructors call, over a layout of the first n cells -/
/-- where the reference (a, j) leads, but those of the keeper and of the two rows of fabrics, which are put last -/
def z_lrk (a j : Nat) : Option Nat := if a = 0 ∨ a = 57 ∨ a = 60 then none else (z_LR.getD a []).getD j none
theorem z_lrk_sub {a j b : Nat} (h : z_lrk a j = some b) : (z_LR.getD a []).getD j none = some b := by
  unfold z_lrk at h
  split at h
  · cases h
  · exact h
def z_Lk (n : Nat) (S : z_Shp) : Prop := n ≤ z_n S ∧ ∀ a, a < n → z_k S a = z_LK.getD a 0 ∧ z_l S a = z_LL.getD a 0 ∧ ∀ j b, z_lrk a j = some b → z_r S a j = some b
theorem z_L.k {S : z_Shp} (h : z_L S) : z_Lk 262 S := ⟨h.1, fun a ha => ⟨(h.2 a ha).1, (h.2 a ha).2.1, fun j b e => (h.2 a ha).2.2 j b (z_lrk_sub e)⟩⟩
section YL
variable {G : z_G} {d : Nat} {S : z_Shp} {v : z_Dat} {Q : Option Value → z_Shp → z_Dat → Prop}
theorem yzk_223 {nn : Nat} {S : z_Shp} (h : z_Lk nn S) (hn : 223 < nn) : z_k S 223 = 12 := (h.2 223 (by omega)).1
theorem yzr_223_1 {nn : Nat} {S : z_Shp} (h : z_Lk nn S) (hn : 223 < nn) : z_r S 223 1 = some 224 := (h.2 223 (by omega)).2.2 1 224 rfl
theorem yzk_224 {nn : Nat} {S : z_Shp} (h : z_Lk nn S) (hn : 224 < nn) : z_k S 224 = 21 := (h.2 224 (by omega)).1
theorem yzl_224 {nn : Nat} {S : z_Shp} (h : z_Lk nn S) (hn : 224 < nn) : z_l S 224 = 71 := (h.2 224 (by omega)).2.1
theorem ysg_X11_begins_2 {nn : Nat} {G : z_G} {d : Nat} {S : z_Shp} {v : z_Dat} {Q : Option Value → z_Shp → z_Dat → Prop} {x1 : Int32} {x2 : Int32} (hL : z_Lk nn S) (hn : 261 ≤ nn)
    (h : (71 ≤ x2 → (∀ v1, v1 = z_u v 224 0 x1 → (z_J G d mX11_lays (0, [.ref 223, .null, .null, .null, .null], [], S, v1) (fun r S1 v2 => r = none ∧ S1 = S ∧ (Q none S v2))))) ∧ (¬ 71 ≤ x2 → ((22 ≤ x2 → (vp_in x2 71 ∧ (∀ v3, v3 = z_u v 224 x2.toNatClampNeg 1 → (z_J G (d + 1) mX11_begins (2, [.ref 223, .int x1, .int (x2 + 1)], [], S, v3) Q)))) ∧ (¬ 22 ≤ x2 → (vp_in x2 71 ∧ (∀ v4, v4 = z_u v 224 x2.toNatClampNeg 0 → (z_J G (d + 1) mX11_begins (2, [.ref 223, .int x1, .int (x2 + 1)], [], S, v4) Q))))))) :
    z_J G (d + 1) mX11_begins (2, [.ref 223, .int x1, .int x2], [], S, v) Q := by
  refine zj_iload_n dX11_begins_2 rfl rfl ?_
  refine zj_bipush (x := 71) dX11_begins_3 rfl ?_
  refine zj_icmp_ge (tgt := 31) dX11_begins_5 (by decide) (fun c => ?_) (fun c => ?_)
  · replace h := h.1 c
    refine zj_aload_n dX11_begins_31 rfl rfl ?_
    refine zj_getR (ci := 11) (j := 1) dX11_begins_32 wf_X11_13 (by decide) (by decide) (yzk_223 hL (by omega)) rfl (yzr_223_1 hL (by omega)) ?_
    refine zj_iconst (x := 0) dX11_begins_35 rfl ?_
    refine zj_iload_n dX11_begins_36 rfl rfl ?_
    refine zj_iastore dX11_begins_37 (yzk_224 hL (by omega)) (by rw [(yzl_224 hL (by omega))]; exact z_vin (by decide)) (fun v1 ev1 => ?_)
    replace h := h v1 ev1
    refine zj_aload_n dX11_begins_38 rfl rfl ?_
    refine zj_callV (M' := mX11_lays) (avs := []) (st := []) (ci := 11) dX11_begins_39 wm_X11_lays wl_X11_131 wi_X11_lays ws_X11_lays (by decide) (yzk_223 hL (by omega)) rfl rfl (by decide) rfl (Nat.le_of_ble_eq_true rfl) (Nat.le_of_ble_eq_true rfl) ⟨Or.inl (z_k0 (yzk_223 hL (by omega))), trivial⟩ trivial (z_J.mono h (fun r S1 v2 hq => ?_))
    obtain ⟨rfl, rfl, h⟩ := hq
    exact zj_vret dX11_begins_42 rfl h
  · replace h := h.2 c
    refine zj_aload_n dX11_begins_8 rfl rfl ?_
    refine zj_getR (ci := 11) (j := 1) dX11_begins_9 wf_X11_13 (by decide) (by decide) (yzk_223 hL (by omega)) rfl (yzr_223_1 hL (by omega)) ?_
    refine zj_iload_n dX11_begins_12 rfl rfl ?_
    refine zj_iload_n dX11_begins_13 rfl rfl ?_
    refine zj_bipush (x := 22) dX11_begins_14 rfl ?_
    refine zj_icmp_ge (tgt := 23) dX11_begins_16 (by decide) (fun c => ?_) (fun c => ?_)
    · replace h := h.1 c
      refine zj_iconst (x := 1) dX11_begins_23 rfl ?_
      refine zj_iastore dX11_begins_24 (yzk_224 hL (by omega)) (by rw [(yzl_224 hL (by omega))]; exact h.1) (fun v3 ev3 => ?_)
      replace h := h.2 v3 ev3
      refine zj_iinc (y := x2 + 1) (ls2 := [.ref 223, .int x1, .int (x2 + 1)]) dX11_begins_25 rfl rfl (by decide) rfl rfl ?_
      refine zj_goto (tgt := 2) dX11_begins_28 (by decide) ?_
      exact h
    · replace h := h.2 c
      refine zj_iconst (x := 0) dX11_begins_19 rfl ?_
      refine zj_goto (tgt := 24) dX11_begins_20 (by decide) ?_
      refine zj_iastore dX11_begins_24 (yzk_224 hL (by omega)) (by rw [(yzl_224 hL (by omega))]; exact h.1) (fun v4 ev4 => ?_)
      replace h := h.2 v4 ev4
      refine zj_iinc (y := x2 + 1) (ls2 := [.ref 223, .int x1, .int (x2 + 1)]) dX11_begins_25 rfl rfl (by decide) rfl rfl ?_
      refine zj_goto (tgt := 2) dX11_begins_28 (by decide) ?_
      exact h
theorem ysg_X11_d_0 {nn : Nat} {G : z_G} {d : Nat} {S : z_Shp} {v : z_Dat} {Q : Option Value → z_Shp → z_Dat → Prop} (hL : z_Lk nn S) (hn : 261 ≤ nn)
    (h : Q (some (.int (v 224 0))) S v) :
    z_J G d mX11_d (0, [.ref 223], [], S, v) Q := by
  refine zj_aload_n dX11_d_0 rfl rfl ?_
  refine zj_getR (ci := 11) (j := 1) dX11_d_1 wf_X11_13 (by decide) (by decide) (yzk_223 hL (by omega)) rfl (yzr_223_1 hL (by omega)) ?_
  refine zj_iconst (x := 0) dX11_d_4 rfl ?_
  refine zj_iaload dX11_d_5 (yzk_224 hL (by omega)) (by rw [(yzl_224 hL (by omega))]; exact z_vin (by decide)) ?_
  exact zj_iret dX11_d_6 rfl rfl h
theorem yhp_X11_d {nn : Nat} (hL : z_Lk nn S) (hn : 261 ≤ nn) (h : Q (some (.int (v 224 0))) S v) : z_J G d mX11_d (0, [.ref 223], [], S, v) Q := ysg_X11_d_0 hL (by omega) h
theorem ysg_X11_bitsOn_18 {nn : Nat} {G : z_G} {d : Nat} {S : z_Shp} {v : z_Dat} {Q : Option Value → z_Shp → z_Dat → Prop} {x1 : Int32} {x2 : Int32} {x3 : Int32} {x4 : Int32} {x5 : Int32} (hL : z_Lk nn S) (hn : 261 ≤ nn)
    (h : (x2 < x5 → (z_J G (d + 1) mX11_bitsOn (7, [.ref 223, .int x1, .int x2, .int x3, .int (x4 + 1), .null], [], S, v) Q)) ∧ (¬ x2 < x5 → (((0 ≤ x4 ∧ x4 ≤ ((v 224 0) - 1)) → (((0 ≤ x5 ∧ x5 ≤ ((v 224 0) - 1)) → (z_J G (d + 1) mX11_bitsOn (18, [.ref 223, .int x1, .int x2, .int (x3 ||| ((1 : Int32) <<< ((((v 224 0) * x4) + x5) &&& 31))), .int x4, .int (x5 + 1)], [], S, v) Q)) ∧ (¬ (0 ≤ x5 ∧ x5 ≤ ((v 224 0) - 1)) → (z_J G (d + 1) mX11_bitsOn (18, [.ref 223, .int x1, .int x2, .int x3, .int x4, .int (x5 + 1)], [], S, v) Q)))) ∧ (¬ (0 ≤ x4 ∧ x4 ≤ ((v 224 0) - 1)) → (z_J G (d + 1) mX11_bitsOn (18, [.ref 223, .int x1, .int x2, .int x3, .int x4, .int (x5 + 1)], [], S, v) Q))))) :
    z_J G (d + 1) mX11_bitsOn (18, [.ref 223, .int x1, .int x2, .int x3, .int x4, .int x5], [], S, v) Q := by
  refine zj_iload dX11_bitsOn_18 rfl ?_
  refine zj_iload_n dX11_bitsOn_20 rfl rfl ?_
  refine zj_icmp_gt (tgt := 75) dX11_bitsOn_21 (by decide) (fun c => ?_) (fun c => ?_)
  · replace h := h.1 c
    refine zj_iinc (y := x4 + 1) (ls2 := [.ref 223, .int x1, .int x2, .int x3, .int (x4 + 1), .int x5]) dX11_bitsOn_75 rfl rfl (by decide) rfl rfl ?_
    refine zj_goto (tgt := 7) dX11_bitsOn_78 (by decide) ?_
    refine zj_forget (ls2 := [.ref 223, .int x1, .int x2, .int x3, .int (x4 + 1), .null]) ⟨Or.inr rfl, Or.inr rfl, Or.inr rfl, Or.inr rfl, Or.inr rfl, Or.inl rfl, trivial⟩ ?_
    exact h
  · replace h := h.2 c
    refine zj_iload dX11_bitsOn_24 rfl ?_
    refine zj_iconst (x := 0) dX11_bitsOn_26 rfl ?_
    refine zj_aload_n dX11_bitsOn_27 rfl rfl ?_
    refine zj_callV (M' := mX11_d) (avs := []) (st := [.int 0, .int x4]) (ci := 11) dX11_bitsOn_28 wm_X11_d wl_X11_140 wi_X11_d ws_X11_d (by decide) (yzk_223 hL (by omega)) rfl rfl (by decide) rfl (Nat.le_of_ble_eq_true rfl) (Nat.le_of_ble_eq_true rfl) ⟨Or.inl (z_k0 (yzk_223 hL (by omega))), trivial⟩ trivial (yhp_X11_d hL (by omega) ?_)
    refine zj_iconst (x := 1) dX11_bitsOn_31 rfl ?_
    refine zj_isub dX11_bitsOn_32 ?_
    refine zj_callS (M' := mX11_isIn) (avs := [.int x4, .int 0, .int ((v 224 0) - 1)]) (st := []) dX11_bitsOn_33 wm_X11_isIn wl_X11_144 wt_X11_isIn rfl (by decide) rfl (Nat.le_of_ble_eq_true rfl) (Nat.le_of_ble_eq_true rfl) ⟨Or.inl (z_k0 (yzk_223 hL (by omega))), trivial⟩ trivial (hp_X11_isIn (fun c => ?_) (fun c => ?_))
    · replace h := h.1 c
      refine zj_if_eq (tgt := 69) dX11_bitsOn_36 (by decide) (fun q => absurd q (by decide)) (fun _ => ?_)
      refine zj_iload dX11_bitsOn_39 rfl ?_
      refine zj_iconst (x := 0) dX11_bitsOn_41 rfl ?_
      refine zj_aload_n dX11_bitsOn_42 rfl rfl ?_
      refine zj_callV (M' := mX11_d) (avs := []) (st := [.int 0, .int x5]) (ci := 11) dX11_bitsOn_43 wm_X11_d wl_X11_140 wi_X11_d ws_X11_d (by decide) (yzk_223 hL (by omega)) rfl rfl (by decide) rfl (Nat.le_of_ble_eq_true rfl) (Nat.le_of_ble_eq_true rfl) ⟨Or.inl (z_k0 (yzk_223 hL (by omega))), trivial⟩ trivial (yhp_X11_d hL (by omega) ?_)
      refine zj_iconst (x := 1) dX11_bitsOn_46 rfl ?_
      refine zj_isub dX11_bitsOn_47 ?_
      refine zj_callS (M' := mX11_isIn) (avs := [.int x5, .int 0, .int ((v 224 0) - 1)]) (st := []) dX11_bitsOn_48 wm_X11_isIn wl_X11_144 wt_X11_isIn rfl (by decide) rfl (Nat.le_of_ble_eq_true rfl) (Nat.le_of_ble_eq_true rfl) ⟨Or.inl (z_k0 (yzk_223 hL (by omega))), trivial⟩ trivial (hp_X11_isIn (fun c => ?_) (fun c => ?_))
      · replace h := h.1 c
        refine zj_if_eq (tgt := 69) dX11_bitsOn_51 (by decide) (fun q => absurd q (by decide)) (fun _ => ?_)
        refine zj_iload_n dX11_bitsOn_54 rfl rfl ?_
        refine zj_iconst (x := 1) dX11_bitsOn_55 rfl ?_
        refine zj_aload_n dX11_bitsOn_56 rfl rfl ?_
        refine zj_callV (M' := mX11_d) (avs := []) (st := [.int 1, .int x3]) (ci := 11) dX11_bitsOn_57 wm_X11_d wl_X11_140 wi_X11_d ws_X11_d (by decide) (yzk_223 hL (by omega)) rfl rfl (by decide) rfl (Nat.le_of_ble_eq_true rfl) (Nat.le_of_ble_eq_true rfl) ⟨Or.inl (z_k0 (yzk_223 hL (by omega))), trivial⟩ trivial (yhp_X11_d hL (by omega) ?_)
        refine zj_iload dX11_bitsOn_60 rfl ?_
        refine zj_imul dX11_bitsOn_62 ?_
        refine zj_iload dX11_bitsOn_63 rfl ?_
        refine zj_iadd dX11_bitsOn_65 ?_
        refine zj_ishl dX11_bitsOn_66 ?_
        refine zj_ior dX11_bitsOn_67 ?_
        refine zj_istore_n (ls2 := [.ref 223, .int x1, .int x2, .int (x3 ||| ((1 : Int32) <<< ((((v 224 0) * x4) + x5) &&& 31))), .int x4, .int x5]) dX11_bitsOn_68 rfl (by decide) rfl rfl ?_
        refine zj_iinc (y := x5 + 1) (ls2 := [.ref 223, .int x1, .int x2, .int (x3 ||| ((1 : Int32) <<< ((((v 224 0) * x4) + x5) &&& 31))), .int x4, .int (x5 + 1)]) dX11_bitsOn_69 rfl rfl (by decide) rfl rfl ?_
        refine zj_goto (tgt := 18) dX11_bitsOn_72 (by decide) ?_
        exact h
      · replace h := h.2 c
        refine zj_if_eq (tgt := 69) dX11_bitsOn_51 (by decide) (fun _ => ?_) (fun q => absurd (by decide) q)
        refine zj_iinc (y := x5 + 1) (ls2 := [.ref 223, .int x1, .int x2, .int x3, .int x4, .int (x5 + 1)]) dX11_bitsOn_69 rfl rfl (by decide) rfl rfl ?_
        refine zj_goto (tgt := 18) dX11_bitsOn_72 (by decide) ?_
        exact h
    · replace h := h.2 c
      refine zj_if_eq (tgt := 69) dX11_bitsOn_36 (by decide) (fun _ => ?_) (fun q => absurd (by decide) q)
      refine zj_iinc (y := x5 + 1) (ls2 := [.ref 223, .int x1, .int x2, .int x3, .int x4, .int (x5 + 1)]) dX11_bitsOn_69 rfl rfl (by decide) rfl rfl ?_
      refine zj_goto (tgt := 18) dX11_bitsOn_72 (by decide) ?_
      exact h
theorem ysg_X11_kindOn_0 {nn : Nat} {G : z_G} {d : Nat} {S : z_Shp} {v : z_Dat} {Q : Option Value → z_Shp → z_Dat → Prop} {x1 : Int32} {x2 : Int32} (hL : z_Lk nn S) (hn : 261 ≤ nn)
    (h : (¬ ((x1 + x2) - (x1 + x2) / 2 * 2) = 0 → (((1 ≤ x1 ∧ x1 ≤ ((v 224 0) - 1)) → (((1 ≤ x2 ∧ x2 ≤ ((v 224 0) - 1)) → (Q (some (.int 1)) S v)) ∧ (¬ (1 ≤ x2 ∧ x2 ≤ ((v 224 0) - 1)) → (Q (some (.int (-1))) S v)))) ∧ (¬ (1 ≤ x1 ∧ x1 ≤ ((v 224 0) - 1)) → (((1 ≤ x2 ∧ x2 ≤ ((v 224 0) - 1)) → (Q (some (.int 1)) S v)) ∧ (¬ (1 ≤ x2 ∧ x2 ≤ ((v 224 0) - 1)) → (Q (some (.int (-1))) S v)))))) ∧ (((x1 + x2) - (x1 + x2) / 2 * 2) = 0 → (((1 ≤ x1 ∧ x1 ≤ ((v 224 0) - 1)) → (((1 ≤ x2 ∧ x2 ≤ ((v 224 0) - 1)) → (Q (some (.int 0)) S v)) ∧ (¬ (1 ≤ x2 ∧ x2 ≤ ((v 224 0) - 1)) → (Q (some (.int 0)) S v)))) ∧ (¬ (1 ≤ x1 ∧ x1 ≤ ((v 224 0) - 1)) → (((1 ≤ x2 ∧ x2 ≤ ((v 224 0) - 1)) → (Q (some (.int (-1))) S v)) ∧ (¬ (1 ≤ x2 ∧ x2 ≤ ((v 224 0) - 1)) → (Q (some (.int (-1))) S v))))))) :
    z_J G (d + 1) mX11_kindOn (0, [.ref 223, .int x1, .int x2, .null, .null, .null], [], S, v) Q := by
  refine zj_iload_n dX11_kindOn_0 rfl rfl ?_
  refine zj_iload_n dX11_kindOn_1 rfl rfl ?_
  refine zj_iadd dX11_kindOn_2 ?_
  refine zj_iconst (x := 2) dX11_kindOn_3 rfl ?_
  refine zj_irem dX11_kindOn_4 (by decide) ?_
  refine zj_if_ne (tgt := 12) dX11_kindOn_5 (by decide) (fun c => ?_) (fun c => ?_)
  · replace h := h.1 c
    refine zj_iconst (x := 0) dX11_kindOn_12 rfl ?_
    refine zj_istore_n (ls2 := [.ref 223, .int x1, .int x2, .int 0, .null, .null]) dX11_kindOn_13 rfl (by decide) rfl rfl ?_
    refine zj_iload_n dX11_kindOn_14 rfl rfl ?_
    refine zj_iconst (x := 1) dX11_kindOn_15 rfl ?_
    refine zj_aload_n dX11_kindOn_16 rfl rfl ?_
    refine zj_callV (M' := mX11_d) (avs := []) (st := [.int 1, .int x1]) (ci := 11) dX11_kindOn_17 wm_X11_d wl_X11_140 wi_X11_d ws_X11_d (by decide) (yzk_223 hL (by omega)) rfl rfl (by decide) rfl (Nat.le_of_ble_eq_true rfl) (Nat.le_of_ble_eq_true rfl) ⟨Or.inl (z_k0 (yzk_223 hL (by omega))), trivial⟩ trivial (yhp_X11_d hL (by omega) ?_)
    refine zj_iconst (x := 1) dX11_kindOn_20 rfl ?_
    refine zj_isub dX11_kindOn_21 ?_
    refine zj_callS (M' := mX11_isIn) (avs := [.int x1, .int 1, .int ((v 224 0) - 1)]) (st := []) dX11_kindOn_22 wm_X11_isIn wl_X11_144 wt_X11_isIn rfl (by decide) rfl (Nat.le_of_ble_eq_true rfl) (Nat.le_of_ble_eq_true rfl) ⟨Or.inl (z_k0 (yzk_223 hL (by omega))), trivial⟩ trivial (hp_X11_isIn (fun c => ?_) (fun c => ?_))
    · replace h := h.1 c
      refine zj_istore (ls2 := [.ref 223, .int x1, .int x2, .int 0, .int 1, .null]) dX11_kindOn_25 (by decide) rfl rfl ?_
      refine zj_iload_n dX11_kindOn_27 rfl rfl ?_
      refine zj_iconst (x := 1) dX11_kindOn_28 rfl ?_
      refine zj_aload_n dX11_kindOn_29 rfl rfl ?_
      refine zj_callV (M' := mX11_d) (avs := []) (st := [.int 1, .int x2]) (ci := 11) dX11_kindOn_30 wm_X11_d wl_X11_140 wi_X11_d ws_X11_d (by decide) (yzk_223 hL (by omega)) rfl rfl (by decide) rfl (Nat.le_of_ble_eq_true rfl) (Nat.le_of_ble_eq_true rfl) ⟨Or.inl (z_k0 (yzk_223 hL (by omega))), trivial⟩ trivial (yhp_X11_d hL (by omega) ?_)
      refine zj_iconst (x := 1) dX11_kindOn_33 rfl ?_
      refine zj_isub dX11_kindOn_34 ?_
      refine zj_callS (M' := mX11_isIn) (avs := [.int x2, .int 1, .int ((v 224 0) - 1)]) (st := []) dX11_kindOn_35 wm_X11_isIn wl_X11_144 wt_X11_isIn rfl (by decide) rfl (Nat.le_of_ble_eq_true rfl) (Nat.le_of_ble_eq_true rfl) ⟨Or.inl (z_k0 (yzk_223 hL (by omega))), trivial⟩ trivial (hp_X11_isIn (fun c => ?_) (fun c => ?_))
      · replace h := h.1 c
        refine zj_istore (ls2 := [.ref 223, .int x1, .int x2, .int 0, .int 1, .int 1]) dX11_kindOn_38 (by decide) rfl rfl ?_
        refine zj_iload dX11_kindOn_40 rfl ?_
        refine zj_if_eq (tgt := 60) dX11_kindOn_42 (by decide) (fun q => absurd q (by decide)) (fun _ => ?_)
        refine zj_iload dX11_kindOn_45 rfl ?_
        refine zj_if_eq (tgt := 60) dX11_kindOn_47 (by decide) (fun q => absurd q (by decide)) (fun _ => ?_)
        refine zj_iload_n dX11_kindOn_50 rfl rfl ?_
        refine zj_if_eq (tgt := 58) dX11_kindOn_51 (by decide) (fun _ => ?_) (fun q => absurd (by decide) q)
        refine zj_iconst (x := 1) dX11_kindOn_58 rfl ?_
        exact zj_iret dX11_kindOn_59 rfl rfl h
      · replace h := h.2 c
        refine zj_istore (ls2 := [.ref 223, .int x1, .int x2, .int 0, .int 1, .int 0]) dX11_kindOn_38 (by decide) rfl rfl ?_
        refine zj_iload dX11_kindOn_40 rfl ?_
        refine zj_if_eq (tgt := 60) dX11_kindOn_42 (by decide) (fun q => absurd q (by decide)) (fun _ => ?_)
        refine zj_iload dX11_kindOn_45 rfl ?_
        refine zj_if_eq (tgt := 60) dX11_kindOn_47 (by decide) (fun _ => ?_) (fun q => absurd (by decide) q)
        refine zj_iload dX11_kindOn_60 rfl ?_
        refine zj_if_eq (tgt := 75) dX11_kindOn_62 (by decide) (fun q => absurd q (by decide)) (fun _ => ?_)
        refine zj_iload_n dX11_kindOn_65 rfl rfl ?_
        refine zj_if_eq (tgt := 73) dX11_kindOn_66 (by decide) (fun _ => ?_) (fun q => absurd (by decide) q)
        refine zj_iconst (x := (-1)) dX11_kindOn_73 rfl ?_
        exact zj_iret dX11_kindOn_74 rfl rfl h
    · replace h := h.2 c
      refine zj_istore (ls2 := [.ref 223, .int x1, .int x2, .int 0, .int 0, .null]) dX11_kindOn_25 (by decide) rfl rfl ?_
      refine zj_iload_n dX11_kindOn_27 rfl rfl ?_
      refine zj_iconst (x := 1) dX11_kindOn_28 rfl ?_
      refine zj_aload_n dX11_kindOn_29 rfl rfl ?_
      refine zj_callV (M' := mX11_d) (avs := []) (st := [.int 1, .int x2]) (ci := 11) dX11_kindOn_30 wm_X11_d wl_X11_140 wi_X11_d ws_X11_d (by decide) (yzk_223 hL (by omega)) rfl rfl (by decide) rfl (Nat.le_of_ble_eq_true rfl) (Nat.le_of_ble_eq_true rfl) ⟨Or.inl (z_k0 (yzk_223 hL (by omega))), trivial⟩ trivial (yhp_X11_d hL (by omega) ?_)
      refine zj_iconst (x := 1) dX11_kindOn_33 rfl ?_
      refine zj_isub dX11_kindOn_34 ?_
      refine zj_callS (M' := mX11_isIn) (avs := [.int x2, .int 1, .int ((v 224 0) - 1)]) (st := []) dX11_kindOn_35 wm_X11_isIn wl_X11_144 wt_X11_isIn rfl (by decide) rfl (Nat.le_of_ble_eq_true rfl) (Nat.le_of_ble_eq_true rfl) ⟨Or.inl (z_k0 (yzk_223 hL (by omega))), trivial⟩ trivial (hp_X11_isIn (fun c => ?_) (fun c => ?_))
      · replace h := h.1 c
        refine zj_istore (ls2 := [.ref 223, .int x1, .int x2, .int 0, .int 0, .int 1]) dX11_kindOn_38 (by decide) rfl rfl ?_
        refine zj_iload dX11_kindOn_40 rfl ?_
        refine zj_if_eq (tgt := 60) dX11_kindOn_42 (by decide) (fun _ => ?_) (fun q => absurd (by decide) q)
        refine zj_iload dX11_kindOn_60 rfl ?_
        refine zj_if_eq (tgt := 75) dX11_kindOn_62 (by decide) (fun _ => ?_) (fun q => absurd (by decide) q)
        refine zj_iload dX11_kindOn_75 rfl ?_
        refine zj_if_eq (tgt := 88) dX11_kindOn_77 (by decide) (fun q => absurd q (by decide)) (fun _ => ?_)
        refine zj_iload_n dX11_kindOn_80 rfl rfl ?_
        refine zj_if_ne (tgt := 88) dX11_kindOn_81 (by decide) (fun q => absurd (by decide) q) (fun _ => ?_)
        refine zj_iconst (x := 1) dX11_kindOn_84 rfl ?_
        refine zj_goto (tgt := 89) dX11_kindOn_85 (by decide) ?_
        exact zj_iret dX11_kindOn_89 rfl rfl h
      · replace h := h.2 c
        refine zj_istore (ls2 := [.ref 223, .int x1, .int x2, .int 0, .int 0, .int 0]) dX11_kindOn_38 (by decide) rfl rfl ?_
        refine zj_iload dX11_kindOn_40 rfl ?_
        refine zj_if_eq (tgt := 60) dX11_kindOn_42 (by decide) (fun _ => ?_) (fun q => absurd (by decide) q)
        refine zj_iload dX11_kindOn_60 rfl ?_
        refine zj_if_eq (tgt := 75) dX11_kindOn_62 (by decide) (fun _ => ?_) (fun q => absurd (by decide) q)
        refine zj_iload dX11_kindOn_75 rfl ?_
        refine zj_if_eq (tgt := 88) dX11_kindOn_77 (by decide) (fun _ => ?_) (fun q => absurd (by decide) q)
        refine zj_iconst (x := (-1)) dX11_kindOn_88 rfl ?_
        exact zj_iret dX11_kindOn_89 rfl rfl h
  · replace h := h.2 c
    refine zj_iconst (x := 1) dX11_kindOn_8 rfl ?_
    refine zj_goto (tgt := 13) dX11_kindOn_9 (by decide) ?_
    refine zj_istore_n (ls2 := [.ref 223, .int x1, .int x2, .int 1, .null, .null]) dX11_kindOn_13 rfl (by decide) rfl rfl ?_
    refine zj_iload_n dX11_kindOn_14 rfl rfl ?_
    refine zj_iconst (x := 1) dX11_kindOn_15 rfl ?_
    refine zj_aload_n dX11_kindOn_16 rfl rfl ?_
    refine zj_callV (M' := mX11_d) (avs := []) (st := [.int 1, .int x1]) (ci := 11) dX11_kindOn_17 wm_X11_d wl_X11_140 wi_X11_d ws_X11_d (by decide) (yzk_223 hL (by omega)) rfl rfl (by decide) rfl (Nat.le_of_ble_eq_true rfl) (Nat.le_of_ble_eq_true rfl) ⟨Or.inl (z_k0 (yzk_223 hL (by omega))), trivial⟩ trivial (yhp_X11_d hL (by omega) ?_)
    refine zj_iconst (x := 1) dX11_kindOn_20 rfl ?_
    refine zj_isub dX11_kindOn_21 ?_
    refine zj_callS (M' := mX11_isIn) (avs := [.int x1, .int 1, .int ((v 224 0) - 1)]) (st := []) dX11_kindOn_22 wm_X11_isIn wl_X11_144 wt_X11_isIn rfl (by decide) rfl (Nat.le_of_ble_eq_true rfl) (Nat.le_of_ble_eq_true rfl) ⟨Or.inl (z_k0 (yzk_223 hL (by omega))), trivial⟩ trivial (hp_X11_isIn (fun c => ?_) (fun c => ?_))
    · replace h := h.1 c
      refine zj_istore (ls2 := [.ref 223, .int x1, .int x2, .int 1, .int 1, .null]) dX11_kindOn_25 (by decide) rfl rfl ?_
      refine zj_iload_n dX11_kindOn_27 rfl rfl ?_
      refine zj_iconst (x := 1) dX11_kindOn_28 rfl ?_
      refine zj_aload_n dX11_kindOn_29 rfl rfl ?_
      refine zj_callV (M' := mX11_d) (avs := []) (st := [.int 1, .int x2]) (ci := 11) dX11_kindOn_30 wm_X11_d wl_X11_140 wi_X11_d ws_X11_d (by decide) (yzk_223 hL (by omega)) rfl rfl (by decide) rfl (Nat.le_of_ble_eq_true rfl) (Nat.le_of_ble_eq_true rfl) ⟨Or.inl (z_k0 (yzk_223 hL (by omega))), trivial⟩ trivial (yhp_X11_d hL (by omega) ?_)
      refine zj_iconst (x := 1) dX11_kindOn_33 rfl ?_
      refine zj_isub dX11_kindOn_34 ?_
      refine zj_callS (M' := mX11_isIn) (avs := [.int x2, .int 1, .int ((v 224 0) - 1)]) (st := []) dX11_kindOn_35 wm_X11_isIn wl_X11_144 wt_X11_isIn rfl (by decide) rfl (Nat.le_of_ble_eq_true rfl) (Nat.le_of_ble_eq_true rfl) ⟨Or.inl (z_k0 (yzk_223 hL (by omega))), trivial⟩ trivial (hp_X11_isIn (fun c => ?_) (fun c => ?_))
      · replace h := h.1 c
        refine zj_istore (ls2 := [.ref 223, .int x1, .int x2, .int 1, .int 1, .int 1]) dX11_kindOn_38 (by decide) rfl rfl ?_
        refine zj_iload dX11_kindOn_40 rfl ?_
        refine zj_if_eq (tgt := 60) dX11_kindOn_42 (by decide) (fun q => absurd q (by decide)) (fun _ => ?_)
        refine zj_iload dX11_kindOn_45 rfl ?_
        refine zj_if_eq (tgt := 60) dX11_kindOn_47 (by decide) (fun q => absurd q (by decide)) (fun _ => ?_)
        refine zj_iload_n dX11_kindOn_50 rfl rfl ?_
        refine zj_if_eq (tgt := 58) dX11_kindOn_51 (by decide) (fun q => absurd q (by decide)) (fun _ => ?_)
        refine zj_iconst (x := 0) dX11_kindOn_54 rfl ?_
        refine zj_goto (tgt := 59) dX11_kindOn_55 (by decide) ?_
        exact zj_iret dX11_kindOn_59 rfl rfl h
      · replace h := h.2 c
        refine zj_istore (ls2 := [.ref 223, .int x1, .int x2, .int 1, .int 1, .int 0]) dX11_kindOn_38 (by decide) rfl rfl ?_
        refine zj_iload dX11_kindOn_40 rfl ?_
        refine zj_if_eq (tgt := 60) dX11_kindOn_42 (by decide) (fun q => absurd q (by decide)) (fun _ => ?_)
        refine zj_iload dX11_kindOn_45 rfl ?_
        refine zj_if_eq (tgt := 60) dX11_kindOn_47 (by decide) (fun _ => ?_) (fun q => absurd (by decide) q)
        refine zj_iload dX11_kindOn_60 rfl ?_
        refine zj_if_eq (tgt := 75) dX11_kindOn_62 (by decide) (fun q => absurd q (by decide)) (fun _ => ?_)
        refine zj_iload_n dX11_kindOn_65 rfl rfl ?_
        refine zj_if_eq (tgt := 73) dX11_kindOn_66 (by decide) (fun q => absurd q (by decide)) (fun _ => ?_)
        refine zj_iconst (x := 0) dX11_kindOn_69 rfl ?_
        refine zj_goto (tgt := 74) dX11_kindOn_70 (by decide) ?_
        exact zj_iret dX11_kindOn_74 rfl rfl h
    · replace h := h.2 c
      refine zj_istore (ls2 := [.ref 223, .int x1, .int x2, .int 1, .int 0, .null]) dX11_kindOn_25 (by decide) rfl rfl ?_
      refine zj_iload_n dX11_kindOn_27 rfl rfl ?_
      refine zj_iconst (x := 1) dX11_kindOn_28 rfl ?_
      refine zj_aload_n dX11_kindOn_29 rfl rfl ?_
      refine zj_callV (M' := mX11_d) (avs := []) (st := [.int 1, .int x2]) (ci := 11) dX11_kindOn_30 wm_X11_d wl_X11_140 wi_X11_d ws_X11_d (by decide) (yzk_223 hL (by omega)) rfl rfl (by decide) rfl (Nat.le_of_ble_eq_true rfl) (Nat.le_of_ble_eq_true rfl) ⟨Or.inl (z_k0 (yzk_223 hL (by omega))), trivial⟩ trivial (yhp_X11_d hL (by omega) ?_)
      refine zj_iconst (x := 1) dX11_kindOn_33 rfl ?_
      refine zj_isub dX11_kindOn_34 ?_
      refine zj_callS (M' := mX11_isIn) (avs := [.int x2, .int 1, .int ((v 224 0) - 1)]) (st := []) dX11_kindOn_35 wm_X11_isIn wl_X11_144 wt_X11_isIn rfl (by decide) rfl (Nat.le_of_ble_eq_true rfl) (Nat.le_of_ble_eq_true rfl) ⟨Or.inl (z_k0 (yzk_223 hL (by omega))), trivial⟩ trivial (hp_X11_isIn (fun c => ?_) (fun c => ?_))
      · replace h := h.1 c
        refine zj_istore (ls2 := [.ref 223, .int x1, .int x2, .int 1, .int 0, .int 1]) dX11_kindOn_38 (by decide) rfl rfl ?_
        refine zj_iload dX11_kindOn_40 rfl ?_
        refine zj_if_eq (tgt := 60) dX11_kindOn_42 (by decide) (fun _ => ?_) (fun q => absurd (by decide) q)
        refine zj_iload dX11_kindOn_60 rfl ?_
        refine zj_if_eq (tgt := 75) dX11_kindOn_62 (by decide) (fun _ => ?_) (fun q => absurd (by decide) q)
        refine zj_iload dX11_kindOn_75 rfl ?_
        refine zj_if_eq (tgt := 88) dX11_kindOn_77 (by decide) (fun q => absurd q (by decide)) (fun _ => ?_)
        refine zj_iload_n dX11_kindOn_80 rfl rfl ?_
        refine zj_if_ne (tgt := 88) dX11_kindOn_81 (by decide) (fun _ => ?_) (fun q => absurd q (by decide))
        refine zj_iconst (x := (-1)) dX11_kindOn_88 rfl ?_
        exact zj_iret dX11_kindOn_89 rfl rfl h
      · replace h := h.2 c
        refine zj_istore (ls2 := [.ref 223, .int x1, .int x2, .int 1, .int 0, .int 0]) dX11_kindOn_38 (by decide) rfl rfl ?_
        refine zj_iload dX11_kindOn_40 rfl ?_
        refine zj_if_eq (tgt := 60) dX11_kindOn_42 (by decide) (fun _ => ?_) (fun q => absurd (by decide) q)
        refine zj_iload dX11_kindOn_60 rfl ?_
        refine zj_if_eq (tgt := 75) dX11_kindOn_62 (by decide) (fun _ => ?_) (fun q => absurd (by decide) q)
        refine zj_iload dX11_kindOn_75 rfl ?_
        refine zj_if_eq (tgt := 88) dX11_kindOn_77 (by decide) (fun _ => ?_) (fun q => absurd (by decide) q)
        refine zj_iconst (x := (-1)) dX11_kindOn_88 rfl ?_
        exact zj_iret dX11_kindOn_89 rfl rfl h
theorem ysg_X11_qubits_0 {nn : Nat} {G : z_G} {d : Nat} {S : z_Shp} {v : z_Dat} {Q : Option Value → z_Shp → z_Dat → Prop} (hL : z_Lk nn S) (hn : 261 ≤ nn)
    (h : Q (some (.int ((v 224 0) * (v 224 0)))) S v) :
    z_J G d mX11_qubits (0, [.ref 223], [], S, v) Q := by
  refine zj_aload_n dX11_qubits_0 rfl rfl ?_
  refine zj_getR (ci := 11) (j := 1) dX11_qubits_1 wf_X11_13 (by decide) (by decide) (yzk_223 hL (by omega)) rfl (yzr_223_1 hL (by omega)) ?_
  refine zj_iconst (x := 0) dX11_qubits_4 rfl ?_
  refine zj_iaload dX11_qubits_5 (yzk_224 hL (by omega)) (by rw [(yzl_224 hL (by omega))]; exact z_vin (by decide)) ?_
  refine zj_aload_n dX11_qubits_6 rfl rfl ?_
  refine zj_getR (ci := 11) (j := 1) dX11_qubits_7 wf_X11_13 (by decide) (by decide) (yzk_223 hL (by omega)) rfl (yzr_223_1 hL (by omega)) ?_
  refine zj_iconst (x := 0) dX11_qubits_10 rfl ?_
  refine zj_iaload dX11_qubits_11 (yzk_224 hL (by omega)) (by rw [(yzl_224 hL (by omega))]; exact z_vin (by decide)) ?_
  refine zj_imul dX11_qubits_12 ?_
  exact zj_iret dX11_qubits_13 rfl rfl h
theorem yhp_X11_qubits {nn : Nat} (hL : z_Lk nn S) (hn : 261 ≤ nn) (h : Q (some (.int (v 224 0 * v 224 0))) S v) : z_J G d mX11_qubits (0, [.ref 223], [], S, v) Q := ysg_X11_qubits_0 hL (by omega) h
theorem ysg_X11_lays_0 {nn : Nat} {G : z_G} {d : Nat} {S : z_Shp} {v : z_Dat} {Q : Option Value → z_Shp → z_Dat → Prop} (hL : z_Lk nn S) (hn : 261 ≤ nn)
    (h : ∀ v1, v1 = z_u v 223 14 ((((v 224 0) * (v 224 0)) - 1) / 2) → (z_J G (d + 1) mX11_lays (14, [.ref 223, .int 0, .null, .null, .null], [], S, v1) Q)) :
    z_J G (d + 1) mX11_lays (0, [.ref 223, .null, .null, .null, .null], [], S, v) Q := by
  refine zj_aload_n dX11_lays_0 rfl rfl ?_
  refine zj_aload_n dX11_lays_1 rfl rfl ?_
  refine zj_callV (M' := mX11_qubits) (avs := []) (st := [.ref 223]) (ci := 11) dX11_lays_2 wm_X11_qubits wl_X11_148 wi_X11_qubits ws_X11_qubits (by decide) (yzk_223 hL (by omega)) rfl rfl (by decide) rfl (Nat.le_of_ble_eq_true rfl) (Nat.le_of_ble_eq_true rfl) ⟨Or.inl (z_k0 (yzk_223 hL (by omega))), trivial⟩ ⟨Or.inl (z_k0 (yzk_223 hL (by omega))), trivial⟩ (yhp_X11_qubits hL (by omega) ?_)
  refine zj_iconst (x := 1) dX11_lays_5 rfl ?_
  refine zj_isub dX11_lays_6 ?_
  refine zj_iconst (x := 2) dX11_lays_7 rfl ?_
  refine zj_idiv dX11_lays_8 (by decide) ?_
  refine zj_putI (ci := 11) (j := 14) dX11_lays_9 wf_X11_151 (by decide) (by decide) (yzk_223 hL (by omega)) rfl rfl rfl rfl (fun v1 ev1 => ?_)
  replace h := h v1 ev1
  refine zj_iconst (x := 0) dX11_lays_12 rfl ?_
  refine zj_istore_n (ls2 := [.ref 223, .int 0, .null, .null, .null]) dX11_lays_13 rfl (by decide) rfl rfl ?_
  exact h
theorem ysg_X11_lays_23 {nn : Nat} {G : z_G} {d : Nat} {S : z_Shp} {v : z_Dat} {Q : Option Value → z_Shp → z_Dat → Prop} {x1 : Int32} {x2 : Int32} {x3 : Int32} (hL : z_Lk nn S) (hn : 261 ≤ nn)
    (h : ((v 224 0) < x3 → (z_J G (d + 1) mX11_lays (117, [.ref 223, .int x1, .int x2, .int 0, .null], [], S, v) Q)) ∧ (¬ (v 224 0) < x3 → (z_J G (d + 1) mX11_lays (34, [.ref 223, .int x1, .int x2, .int x3, .int 0], [], S, v) Q))) :
    z_J G (d + 1) mX11_lays (23, [.ref 223, .int x1, .int x2, .int x3, .null], [], S, v) Q := by
  refine zj_iload_n dX11_lays_23 rfl rfl ?_
  refine zj_aload_n dX11_lays_24 rfl rfl ?_
  refine zj_callV (M' := mX11_d) (avs := []) (st := [.int x3]) (ci := 11) dX11_lays_25 wm_X11_d wl_X11_140 wi_X11_d ws_X11_d (by decide) (yzk_223 hL (by omega)) rfl rfl (by decide) rfl (Nat.le_of_ble_eq_true rfl) (Nat.le_of_ble_eq_true rfl) ⟨Or.inl (z_k0 (yzk_223 hL (by omega))), trivial⟩ trivial (yhp_X11_d hL (by omega) ?_)
  refine zj_icmp_gt (tgt := 115) dX11_lays_28 (by decide) (fun c => ?_) (fun c => ?_)
  · replace h := h.1 c
    refine zj_iconst (x := 0) dX11_lays_115 rfl ?_
    refine zj_istore_n (ls2 := [.ref 223, .int x1, .int x2, .int 0, .null]) dX11_lays_116 rfl (by decide) rfl rfl ?_
    exact h
  · replace h := h.2 c
    refine zj_iconst (x := 0) dX11_lays_31 rfl ?_
    refine zj_istore (ls2 := [.ref 223, .int x1, .int x2, .int x3, .int 0]) dX11_lays_32 (by decide) rfl rfl ?_
    exact h
theorem yzr_223_13 {nn : Nat} {S : z_Shp} (h : z_Lk nn S) (hn : 223 < nn) : z_r S 223 13 = some 233 := (h.2 223 (by omega)).2.2 13 233 rfl
theorem yzk_233 {nn : Nat} {S : z_Shp} (h : z_Lk nn S) (hn : 233 < nn) : z_k S 233 = 21 := (h.2 233 (by omega)).1
theorem yzl_233 {nn : Nat} {S : z_Shp} (h : z_Lk nn S) (hn : 233 < nn) : z_l S 233 = 50 := (h.2 233 (by omega)).2.1
theorem ysg_X11_lays_117 {nn : Nat} {G : z_G} {d : Nat} {S : z_Shp} {v : z_Dat} {Q : Option Value → z_Shp → z_Dat → Prop} {x1 : Int32} {x2 : Int32} {x3 : Int32} (hL : z_Lk nn S) (hn : 261 ≤ nn)
    (h : (((v 224 0) * (v 224 0)) ≤ x3 → (z_J G (d + 1) mX11_lays (14, [.ref 223, .int (x1 + 1), .null, .null, .null], [], S, v) Q)) ∧ (¬ ((v 224 0) * (v 224 0)) ≤ x3 → (vp_in (((25 : Int32) * x1) + x3) 50 ∧ (∀ v1, v1 = z_u v 233 (((25 : Int32) * x1) + x3).toNatClampNeg 0 → (z_J G (d + 1) mX11_lays (139, [.ref 223, .int x1, .int 0, .int x3, .null], [], S, v1) Q))))) :
    z_J G (d + 1) mX11_lays (117, [.ref 223, .int x1, .int x2, .int x3, .null], [], S, v) Q := by
  refine zj_iload_n dX11_lays_117 rfl rfl ?_
  refine zj_aload_n dX11_lays_118 rfl rfl ?_
  refine zj_callV (M' := mX11_qubits) (avs := []) (st := [.int x3]) (ci := 11) dX11_lays_119 wm_X11_qubits wl_X11_148 wi_X11_qubits ws_X11_qubits (by decide) (yzk_223 hL (by omega)) rfl rfl (by decide) rfl (Nat.le_of_ble_eq_true rfl) (Nat.le_of_ble_eq_true rfl) ⟨Or.inl (z_k0 (yzk_223 hL (by omega))), trivial⟩ trivial (yhp_X11_qubits hL (by omega) ?_)
  refine zj_icmp_ge (tgt := 194) dX11_lays_122 (by decide) (fun c => ?_) (fun c => ?_)
  · replace h := h.1 c
    refine zj_iinc (y := x1 + 1) (ls2 := [.ref 223, .int (x1 + 1), .int x2, .int x3, .null]) dX11_lays_194 rfl rfl (by decide) rfl rfl ?_
    refine zj_goto (tgt := 14) dX11_lays_197 (by decide) ?_
    refine zj_forget (ls2 := [.ref 223, .int (x1 + 1), .null, .null, .null]) ⟨Or.inr rfl, Or.inr rfl, Or.inl rfl, Or.inl rfl, Or.inr rfl, trivial⟩ ?_
    exact h
  · replace h := h.2 c
    refine zj_aload_n dX11_lays_125 rfl rfl ?_
    refine zj_getR (ci := 11) (j := 13) dX11_lays_126 wf_X11_43 (by decide) (by decide) (yzk_223 hL (by omega)) rfl (yzr_223_13 hL (by omega)) ?_
    refine zj_bipush (x := 25) dX11_lays_129 rfl ?_
    refine zj_iload_n dX11_lays_131 rfl rfl ?_
    refine zj_imul dX11_lays_132 ?_
    refine zj_iload_n dX11_lays_133 rfl rfl ?_
    refine zj_iadd dX11_lays_134 ?_
    refine zj_iconst (x := 0) dX11_lays_135 rfl ?_
    refine zj_iastore dX11_lays_136 (yzk_233 hL (by omega)) (by rw [(yzl_233 hL (by omega))]; exact h.1) (fun v1 ev1 => ?_)
    replace h := h.2 v1 ev1
    refine zj_iconst (x := 0) dX11_lays_137 rfl ?_
    refine zj_istore_n (ls2 := [.ref 223, .int x1, .int 0, .int x3, .null]) dX11_lays_138 rfl (by decide) rfl rfl ?_
    exact h
theorem yzr_223_10 {nn : Nat} {S : z_Shp} (h : z_Lk nn S) (hn : 223 < nn) : z_r S 223 10 = some 230 := (h.2 223 (by omega)).2.2 10 230 rfl
theorem yzk_230 {nn : Nat} {S : z_Shp} (h : z_Lk nn S) (hn : 230 < nn) : z_k S 230 = 21 := (h.2 230 (by omega)).1
theorem yzl_230 {nn : Nat} {S : z_Shp} (h : z_Lk nn S) (hn : 230 < nn) : z_l S 230 = 24 := (h.2 230 (by omega)).2.1
theorem yzr_223_11 {nn : Nat} {S : z_Shp} (h : z_Lk nn S) (hn : 223 < nn) : z_r S 223 11 = some 231 := (h.2 223 (by omega)).2.2 11 231 rfl
theorem yzk_231 {nn : Nat} {S : z_Shp} (h : z_Lk nn S) (hn : 231 < nn) : z_k S 231 = 21 := (h.2 231 (by omega)).1
theorem yzl_231 {nn : Nat} {S : z_Shp} (h : z_Lk nn S) (hn : 231 < nn) : z_l S 231 = 24 := (h.2 231 (by omega)).2.1
theorem yzr_223_12 {nn : Nat} {S : z_Shp} (h : z_Lk nn S) (hn : 223 < nn) : z_r S 223 12 = some 232 := (h.2 223 (by omega)).2.2 12 232 rfl
theorem yzk_232 {nn : Nat} {S : z_Shp} (h : z_Lk nn S) (hn : 232 < nn) : z_k S 232 = 21 := (h.2 232 (by omega)).1
theorem yzl_232 {nn : Nat} {S : z_Shp} (h : z_Lk nn S) (hn : 232 < nn) : z_l S 232 = 24 := (h.2 232 (by omega)).2.1
theorem ysg_X11_lays_34 {nn : Nat} {G : z_G} {d : Nat} {S : z_Shp} {v : z_Dat} {Q : Option Value → z_Shp → z_Dat → Prop} {x1 : Int32} {x2 : Int32} {x3 : Int32} {x4 : Int32} (hL : z_Lk nn S) (hn : 261 ≤ nn)
    (h : ((v 224 0) < x4 → (z_J G (d + 1) mX11_lays (23, [.ref 223, .int x1, .int x2, .int (x3 + 1), .null], [], S, v) Q)) ∧ (¬ (v 224 0) < x4 → (z_J G d mX11_kindOn (0, [.ref 223, .int x3, .int x4, .null, .null, .null], [], S, v) (fun r S1 v1 => ∃ y1 : Int32, r = some (.int y1) ∧ S1 = S ∧ ((y1 = x1 → (vp_in (((12 : Int32) * x1) + x2) 24 ∧ (∀ v2, v2 = z_u v1 230 (((12 : Int32) * x1) + x2).toNatClampNeg x3 → (vp_in (((12 : Int32) * x1) + x2) 24 ∧ (∀ v3, v3 = z_u v2 231 (((12 : Int32) * x1) + x2).toNatClampNeg x4 → (z_J G d mX11_bitsOn (0, [.ref 223, .int x3, .int x4, .null, .null, .null], [], S, v3) (fun r S1 v4 => ∃ y2 : Int32, r = some (.int y2) ∧ S1 = S ∧ (vp_in (((12 : Int32) * x1) + x2) 24 ∧ (∀ v5, v5 = z_u v4 232 (((12 : Int32) * x1) + x2).toNatClampNeg y2 → (z_J G (d + 1) mX11_lays (34, [.ref 223, .int x1, .int (x2 + 1), .int x3, .int (x4 + 1)], [], S, v5) Q)))))))))) ∧ (¬ y1 = x1 → (z_J G (d + 1) mX11_lays (34, [.ref 223, .int x1, .int x2, .int x3, .int (x4 + 1)], [], S, v1) Q))))))) :
    z_J G (d + 1) mX11_lays (34, [.ref 223, .int x1, .int x2, .int x3, .int x4], [], S, v) Q := by
  refine zj_iload dX11_lays_34 rfl ?_
  refine zj_aload_n dX11_lays_36 rfl rfl ?_
  refine zj_callV (M' := mX11_d) (avs := []) (st := [.int x4]) (ci := 11) dX11_lays_37 wm_X11_d wl_X11_140 wi_X11_d ws_X11_d (by decide) (yzk_223 hL (by omega)) rfl rfl (by decide) rfl (Nat.le_of_ble_eq_true rfl) (Nat.le_of_ble_eq_true rfl) ⟨Or.inl (z_k0 (yzk_223 hL (by omega))), trivial⟩ trivial (yhp_X11_d hL (by omega) ?_)
  refine zj_icmp_gt (tgt := 109) dX11_lays_40 (by decide) (fun c => ?_) (fun c => ?_)
  · replace h := h.1 c
    refine zj_iinc (y := x3 + 1) (ls2 := [.ref 223, .int x1, .int x2, .int (x3 + 1), .int x4]) dX11_lays_109 rfl rfl (by decide) rfl rfl ?_
    refine zj_goto (tgt := 23) dX11_lays_112 (by decide) ?_
    refine zj_forget (ls2 := [.ref 223, .int x1, .int x2, .int (x3 + 1), .null]) ⟨Or.inr rfl, Or.inr rfl, Or.inr rfl, Or.inr rfl, Or.inl rfl, trivial⟩ ?_
    exact h
  · replace h := h.2 c
    refine zj_aload_n dX11_lays_43 rfl rfl ?_
    refine zj_iload_n dX11_lays_44 rfl rfl ?_
    refine zj_iload dX11_lays_45 rfl ?_
    refine zj_callV (M' := mX11_kindOn) (avs := [.int x3, .int x4]) (st := []) (ci := 11) dX11_lays_47 wm_X11_kindOn wl_X11_154 wi_X11_kindOn ws_X11_kindOn (by decide) (yzk_223 hL (by omega)) rfl rfl (by decide) rfl (Nat.le_of_ble_eq_true rfl) (Nat.le_of_ble_eq_true rfl) ⟨Or.inl (z_k0 (yzk_223 hL (by omega))), trivial⟩ trivial (z_J.mono h (fun r S1 v1 hq => ?_))
    obtain ⟨y1, rfl, rfl, h⟩ := hq
    refine zj_iload_n dX11_lays_50 rfl rfl ?_
    refine zj_icmp_eq (tgt := 57) dX11_lays_51 (by decide) (fun c => ?_) (fun c => ?_)
    · replace h := h.1 c
      refine zj_aload_n dX11_lays_57 rfl rfl ?_
      refine zj_getR (ci := 11) (j := 10) dX11_lays_58 wf_X11_34 (by decide) (by decide) (yzk_223 hL (by omega)) rfl (yzr_223_10 hL (by omega)) ?_
      refine zj_bipush (x := 12) dX11_lays_61 rfl ?_
      refine zj_iload_n dX11_lays_63 rfl rfl ?_
      refine zj_imul dX11_lays_64 ?_
      refine zj_iload_n dX11_lays_65 rfl rfl ?_
      refine zj_iadd dX11_lays_66 ?_
      refine zj_iload_n dX11_lays_67 rfl rfl ?_
      refine zj_iastore dX11_lays_68 (yzk_230 hL (by omega)) (by rw [(yzl_230 hL (by omega))]; exact h.1) (fun v2 ev2 => ?_)
      replace h := h.2 v2 ev2
      refine zj_aload_n dX11_lays_69 rfl rfl ?_
      refine zj_getR (ci := 11) (j := 11) dX11_lays_70 wf_X11_37 (by decide) (by decide) (yzk_223 hL (by omega)) rfl (yzr_223_11 hL (by omega)) ?_
      refine zj_bipush (x := 12) dX11_lays_73 rfl ?_
      refine zj_iload_n dX11_lays_75 rfl rfl ?_
      refine zj_imul dX11_lays_76 ?_
      refine zj_iload_n dX11_lays_77 rfl rfl ?_
      refine zj_iadd dX11_lays_78 ?_
      refine zj_iload dX11_lays_79 rfl ?_
      refine zj_iastore dX11_lays_81 (yzk_231 hL (by omega)) (by rw [(yzl_231 hL (by omega))]; exact h.1) (fun v3 ev3 => ?_)
      replace h := h.2 v3 ev3
      refine zj_aload_n dX11_lays_82 rfl rfl ?_
      refine zj_getR (ci := 11) (j := 12) dX11_lays_83 wf_X11_40 (by decide) (by decide) (yzk_223 hL (by omega)) rfl (yzr_223_12 hL (by omega)) ?_
      refine zj_bipush (x := 12) dX11_lays_86 rfl ?_
      refine zj_iload_n dX11_lays_88 rfl rfl ?_
      refine zj_imul dX11_lays_89 ?_
      refine zj_iload_n dX11_lays_90 rfl rfl ?_
      refine zj_iadd dX11_lays_91 ?_
      refine zj_aload_n dX11_lays_92 rfl rfl ?_
      refine zj_iload_n dX11_lays_93 rfl rfl ?_
      refine zj_iload dX11_lays_94 rfl ?_
      refine zj_callV (M' := mX11_bitsOn) (avs := [.int x3, .int x4]) (st := [.int (((12 : Int32) * x1) + x2), .ref 232]) (ci := 11) dX11_lays_96 wm_X11_bitsOn wl_X11_158 wi_X11_bitsOn ws_X11_bitsOn (by decide) (yzk_223 hL (by omega)) rfl rfl (by decide) rfl (Nat.le_of_ble_eq_true rfl) (Nat.le_of_ble_eq_true rfl) ⟨Or.inl (z_k0 (yzk_223 hL (by omega))), trivial⟩ ⟨Or.inl (z_k0 (yzk_232 hL (by omega))), trivial⟩ (z_J.mono h (fun r S1 v4 hq => ?_))
      obtain ⟨y2, rfl, rfl, h⟩ := hq
      refine zj_iastore dX11_lays_99 (yzk_232 hL (by omega)) (by rw [(yzl_232 hL (by omega))]; exact h.1) (fun v5 ev5 => ?_)
      replace h := h.2 v5 ev5
      refine zj_iinc (y := x2 + 1) (ls2 := [.ref 223, .int x1, .int (x2 + 1), .int x3, .int x4]) dX11_lays_100 rfl rfl (by decide) rfl rfl ?_
      refine zj_iinc (y := x4 + 1) (ls2 := [.ref 223, .int x1, .int (x2 + 1), .int x3, .int (x4 + 1)]) dX11_lays_103 rfl rfl (by decide) rfl rfl ?_
      refine zj_goto (tgt := 34) dX11_lays_106 (by decide) ?_
      exact h
    · replace h := h.2 c
      refine zj_goto (tgt := 103) dX11_lays_54 (by decide) ?_
      refine zj_iinc (y := x4 + 1) (ls2 := [.ref 223, .int x1, .int x2, .int x3, .int (x4 + 1)]) dX11_lays_103 rfl rfl (by decide) rfl rfl ?_
      refine zj_goto (tgt := 34) dX11_lays_106 (by decide) ?_
      exact h
theorem ysg_X11_lays_139 {nn : Nat} {G : z_G} {d : Nat} {S : z_Shp} {v : z_Dat} {Q : Option Value → z_Shp → z_Dat → Prop} {x1 : Int32} {x2 : Int32} {x3 : Int32} (hL : z_Lk nn S) (hn : 261 ≤ nn)
    (h : ((v 223 14) ≤ x2 → (z_J G (d + 1) mX11_lays (117, [.ref 223, .int x1, .int x2, .int (x3 + 1), .null], [], S, v) Q)) ∧ (¬ (v 223 14) ≤ x2 → ((vp_in (((12 : Int32) * x1) + x2) 24) ∧ ((((((v 232 (((12 : Int32) * x1) + x2).toNatClampNeg) >>> (x3 &&& 31)) &&& 1) = 1) → ((vp_in (((25 : Int32) * x1) + x3) 50) ∧ (vp_in (((25 : Int32) * x1) + x3) 50 ∧ (∀ v1, v1 = z_u v 233 (((25 : Int32) * x1) + x3).toNatClampNeg ((v 233 (((25 : Int32) * x1) + x3).toNatClampNeg) ||| ((1 : Int32) <<< (x2 &&& 31))) → (z_J G (d + 1) mX11_lays (139, [.ref 223, .int x1, .int (x2 + 1), .int x3, .null], [], S, v1) Q))))) ∧ (¬ ((((v 232 (((12 : Int32) * x1) + x2).toNatClampNeg) >>> (x3 &&& 31)) &&& 1) = 1) → (z_J G (d + 1) mX11_lays (139, [.ref 223, .int x1, .int (x2 + 1), .int x3, .null], [], S, v) Q)))))) :
    z_J G (d + 1) mX11_lays (139, [.ref 223, .int x1, .int x2, .int x3, .null], [], S, v) Q := by
  refine zj_iload_n dX11_lays_139 rfl rfl ?_
  refine zj_aload_n dX11_lays_140 rfl rfl ?_
  refine zj_getI (ci := 11) (j := 14) dX11_lays_141 wf_X11_151 (by decide) (by decide) (yzk_223 hL (by omega)) rfl ?_
  refine zj_icmp_ge (tgt := 188) dX11_lays_144 (by decide) (fun c => ?_) (fun c => ?_)
  · replace h := h.1 c
    refine zj_iinc (y := x3 + 1) (ls2 := [.ref 223, .int x1, .int x2, .int (x3 + 1), .null]) dX11_lays_188 rfl rfl (by decide) rfl rfl ?_
    refine zj_goto (tgt := 117) dX11_lays_191 (by decide) ?_
    exact h
  · replace h := h.2 c
    refine zj_aload_n dX11_lays_147 rfl rfl ?_
    refine zj_getR (ci := 11) (j := 12) dX11_lays_148 wf_X11_40 (by decide) (by decide) (yzk_223 hL (by omega)) rfl (yzr_223_12 hL (by omega)) ?_
    refine zj_bipush (x := 12) dX11_lays_151 rfl ?_
    refine zj_iload_n dX11_lays_153 rfl rfl ?_
    refine zj_imul dX11_lays_154 ?_
    refine zj_iload_n dX11_lays_155 rfl rfl ?_
    refine zj_iadd dX11_lays_156 ?_
    refine zj_iaload dX11_lays_157 (yzk_232 hL (by omega)) (by rw [(yzl_232 hL (by omega))]; exact h.1) ?_
    replace h := h.2
    refine zj_iload_n dX11_lays_158 rfl rfl ?_
    refine zj_callS (M' := mX11_bitOf) (avs := [.int (v 232 (((12 : Int32) * x1) + x2).toNatClampNeg), .int x3]) (st := []) dX11_lays_159 wm_X11_bitOf wl_X11_161 wt_X11_bitOf rfl (by decide) rfl (Nat.le_of_ble_eq_true rfl) (Nat.le_of_ble_eq_true rfl) ⟨Or.inl (z_k0 (yzk_223 hL (by omega))), trivial⟩ trivial (hp_X11_bitOf (fun c => ?_) (fun c => ?_))
    · replace h := h.1 c
      refine zj_if_eq (tgt := 182) dX11_lays_162 (by decide) (fun q => absurd q (by decide)) (fun _ => ?_)
      refine zj_aload_n dX11_lays_165 rfl rfl ?_
      refine zj_getR (ci := 11) (j := 13) dX11_lays_166 wf_X11_43 (by decide) (by decide) (yzk_223 hL (by omega)) rfl (yzr_223_13 hL (by omega)) ?_
      refine zj_bipush (x := 25) dX11_lays_169 rfl ?_
      refine zj_iload_n dX11_lays_171 rfl rfl ?_
      refine zj_imul dX11_lays_172 ?_
      refine zj_iload_n dX11_lays_173 rfl rfl ?_
      refine zj_iadd dX11_lays_174 ?_
      refine zj_dup2 dX11_lays_175 rfl rfl ?_
      refine zj_iaload dX11_lays_176 (yzk_233 hL (by omega)) (by rw [(yzl_233 hL (by omega))]; exact h.1) ?_
      replace h := h.2
      refine zj_iconst (x := 1) dX11_lays_177 rfl ?_
      refine zj_iload_n dX11_lays_178 rfl rfl ?_
      refine zj_ishl dX11_lays_179 ?_
      refine zj_ior dX11_lays_180 ?_
      refine zj_iastore dX11_lays_181 (yzk_233 hL (by omega)) (by rw [(yzl_233 hL (by omega))]; exact h.1) (fun v1 ev1 => ?_)
      replace h := h.2 v1 ev1
      refine zj_iinc (y := x2 + 1) (ls2 := [.ref 223, .int x1, .int (x2 + 1), .int x3, .null]) dX11_lays_182 rfl rfl (by decide) rfl rfl ?_
      refine zj_goto (tgt := 139) dX11_lays_185 (by decide) ?_
      exact h
    · replace h := h.2 c
      refine zj_if_eq (tgt := 182) dX11_lays_162 (by decide) (fun _ => ?_) (fun q => absurd (by decide) q)
      refine zj_iinc (y := x2 + 1) (ls2 := [.ref 223, .int x1, .int (x2 + 1), .int x3, .null]) dX11_lays_182 rfl rfl (by decide) rfl rfl ?_
      refine zj_goto (tgt := 139) dX11_lays_185 (by decide) ?_
      exact h
theorem yzk_1 {nn : Nat} {S : z_Shp} (h : z_Lk nn S) (hn : 1 < nn) : z_k S 1 = 10 := (h.2 1 (by omega)).1
theorem yzk_19 {nn : Nat} {S : z_Shp} (h : z_Lk nn S) (hn : 19 < nn) : z_k S 19 = 10 := (h.2 19 (by omega)).1
theorem yzWk0 {nn : Nat} {S : z_Shp} {w : Nat} (h : z_Lk nn S) (hn : w + 18 ≤ nn) (hw : z_isW w) : z_k S w = 10 := by
  rcases hw with rfl | rfl
  · exact yzk_1 h (by omega)
  · exact yzk_19 h (by omega)
theorem ysg_X9_bitsAt_18 {nn : Nat} {G : z_G} {d : Nat} {S : z_Shp} {v : z_Dat} {Q : Option Value → z_Shp → z_Dat → Prop} {x1 : Int32} {x2 : Int32} {x3 : Int32} {x4 : Int32} {x5 : Int32} {w : Nat} (hL : z_Lk nn S) (hn : w + 18 ≤ nn) (hw : z_isW w)
    (h : (x2 < x5 → (z_J G d mX9_bitsAt (7, [.ref w, .int x1, .int x2, .int x3, .int (x4 + 1), .null], [], S, v) Q)) ∧ (¬ x2 < x5 → ((x4 < 0 → (z_J G d mX9_bitsAt (18, [.ref w, .int x1, .int x2, .int x3, .int x4, .int (x5 + 1)], [], S, v) Q)) ∧ (¬ x4 < 0 → (((v w 0) ≤ x4 → (z_J G d mX9_bitsAt (18, [.ref w, .int x1, .int x2, .int x3, .int x4, .int (x5 + 1)], [], S, v) Q)) ∧ (¬ (v w 0) ≤ x4 → ((x5 < 0 → (z_J G d mX9_bitsAt (18, [.ref w, .int x1, .int x2, .int x3, .int x4, .int (x5 + 1)], [], S, v) Q)) ∧ (¬ x5 < 0 → (((v w 0) ≤ x5 → (z_J G d mX9_bitsAt (18, [.ref w, .int x1, .int x2, .int x3, .int x4, .int (x5 + 1)], [], S, v) Q)) ∧ (¬ (v w 0) ≤ x5 → (z_J G d mX9_bitsAt (18, [.ref w, .int x1, .int x2, .int (x3 ||| ((1 : Int32) <<< (((x4 * (v w 0)) + x5) &&& 31))), .int x4, .int (x5 + 1)], [], S, v) Q))))))))))) :
    z_J G d mX9_bitsAt (18, [.ref w, .int x1, .int x2, .int x3, .int x4, .int x5], [], S, v) Q := by
  refine zj_iload dX9_bitsAt_18 rfl ?_
  refine zj_iload_n dX9_bitsAt_20 rfl rfl ?_
  refine zj_icmp_gt (tgt := 73) dX9_bitsAt_21 (by decide) (fun c => ?_) (fun c => ?_)
  · replace h := h.1 c
    refine zj_iinc (y := x4 + 1) (ls2 := [.ref w, .int x1, .int x2, .int x3, .int (x4 + 1), .int x5]) dX9_bitsAt_73 rfl rfl (by decide) rfl rfl ?_
    refine zj_goto (tgt := 7) dX9_bitsAt_76 (by decide) ?_
    refine zj_forget (ls2 := [.ref w, .int x1, .int x2, .int x3, .int (x4 + 1), .null]) ⟨Or.inr rfl, Or.inr rfl, Or.inr rfl, Or.inr rfl, Or.inr rfl, Or.inl rfl, trivial⟩ ?_
    exact h
  · replace h := h.2 c
    refine zj_iload dX9_bitsAt_24 rfl ?_
    refine zj_if_lt (tgt := 67) dX9_bitsAt_26 (by decide) (fun c => ?_) (fun c => ?_)
    · replace h := h.1 c
      refine zj_iinc (y := x5 + 1) (ls2 := [.ref w, .int x1, .int x2, .int x3, .int x4, .int (x5 + 1)]) dX9_bitsAt_67 rfl rfl (by decide) rfl rfl ?_
      refine zj_goto (tgt := 18) dX9_bitsAt_70 (by decide) ?_
      exact h
    · replace h := h.2 c
      refine zj_iload dX9_bitsAt_29 rfl ?_
      refine zj_aload_n dX9_bitsAt_31 rfl rfl ?_
      refine zj_getI (ci := 9) (j := 0) dX9_bitsAt_32 wf_X9_35 (by decide) (by decide) (yzWk0 hL (by omega) hw) rfl ?_
      refine zj_icmp_ge (tgt := 67) dX9_bitsAt_35 (by decide) (fun c => ?_) (fun c => ?_)
      · replace h := h.1 c
        refine zj_iinc (y := x5 + 1) (ls2 := [.ref w, .int x1, .int x2, .int x3, .int x4, .int (x5 + 1)]) dX9_bitsAt_67 rfl rfl (by decide) rfl rfl ?_
        refine zj_goto (tgt := 18) dX9_bitsAt_70 (by decide) ?_
        exact h
      · replace h := h.2 c
        refine zj_iload dX9_bitsAt_38 rfl ?_
        refine zj_if_lt (tgt := 67) dX9_bitsAt_40 (by decide) (fun c => ?_) (fun c => ?_)
        · replace h := h.1 c
          refine zj_iinc (y := x5 + 1) (ls2 := [.ref w, .int x1, .int x2, .int x3, .int x4, .int (x5 + 1)]) dX9_bitsAt_67 rfl rfl (by decide) rfl rfl ?_
          refine zj_goto (tgt := 18) dX9_bitsAt_70 (by decide) ?_
          exact h
        · replace h := h.2 c
          refine zj_iload dX9_bitsAt_43 rfl ?_
          refine zj_aload_n dX9_bitsAt_45 rfl rfl ?_
          refine zj_getI (ci := 9) (j := 0) dX9_bitsAt_46 wf_X9_35 (by decide) (by decide) (yzWk0 hL (by omega) hw) rfl ?_
          refine zj_icmp_ge (tgt := 67) dX9_bitsAt_49 (by decide) (fun c => ?_) (fun c => ?_)
          · replace h := h.1 c
            refine zj_iinc (y := x5 + 1) (ls2 := [.ref w, .int x1, .int x2, .int x3, .int x4, .int (x5 + 1)]) dX9_bitsAt_67 rfl rfl (by decide) rfl rfl ?_
            refine zj_goto (tgt := 18) dX9_bitsAt_70 (by decide) ?_
            exact h
          · replace h := h.2 c
            refine zj_iload_n dX9_bitsAt_52 rfl rfl ?_
            refine zj_iconst (x := 1) dX9_bitsAt_53 rfl ?_
            refine zj_iload dX9_bitsAt_54 rfl ?_
            refine zj_aload_n dX9_bitsAt_56 rfl rfl ?_
            refine zj_getI (ci := 9) (j := 0) dX9_bitsAt_57 wf_X9_35 (by decide) (by decide) (yzWk0 hL (by omega) hw) rfl ?_
            refine zj_imul dX9_bitsAt_60 ?_
            refine zj_iload dX9_bitsAt_61 rfl ?_
            refine zj_iadd dX9_bitsAt_63 ?_
            refine zj_ishl dX9_bitsAt_64 ?_
            refine zj_ior dX9_bitsAt_65 ?_
            refine zj_istore_n (ls2 := [.ref w, .int x1, .int x2, .int (x3 ||| ((1 : Int32) <<< (((x4 * (v w 0)) + x5) &&& 31))), .int x4, .int x5]) dX9_bitsAt_66 rfl (by decide) rfl rfl ?_
            refine zj_iinc (y := x5 + 1) (ls2 := [.ref w, .int x1, .int x2, .int (x3 ||| ((1 : Int32) <<< (((x4 * (v w 0)) + x5) &&& 31))), .int x4, .int (x5 + 1)]) dX9_bitsAt_67 rfl rfl (by decide) rfl rfl ?_
            refine zj_goto (tgt := 18) dX9_bitsAt_70 (by decide) ?_
            exact h
theorem yzr_1_5 {nn : Nat} {S : z_Shp} (h : z_Lk nn S) (hn : 1 < nn) : z_r S 1 5 = some 8 := (h.2 1 (by omega)).2.2 5 8 rfl
theorem yzr_19_5 {nn : Nat} {S : z_Shp} (h : z_Lk nn S) (hn : 19 < nn) : z_r S 19 5 = some 26 := (h.2 19 (by omega)).2.2 5 26 rfl
theorem yzWr0_5 {nn : Nat} {S : z_Shp} {w : Nat} (h : z_Lk nn S) (hn : w + 18 ≤ nn) (hw : z_isW w) : z_r S w 5 = some (w + 7) := by
  rcases hw with rfl | rfl
  · exact yzr_1_5 h (by omega)
  · exact yzr_19_5 h (by omega)
theorem yzk_8 {nn : Nat} {S : z_Shp} (h : z_Lk nn S) (hn : 8 < nn) : z_k S 8 = 25 := (h.2 8 (by omega)).1
theorem yzk_26 {nn : Nat} {S : z_Shp} (h : z_Lk nn S) (hn : 26 < nn) : z_k S 26 = 25 := (h.2 26 (by omega)).1
theorem yzWk7 {nn : Nat} {S : z_Shp} {w : Nat} (h : z_Lk nn S) (hn : w + 18 ≤ nn) (hw : z_isW w) : z_k S (w + 7) = 25 := by
  rcases hw with rfl | rfl
  · exact yzk_8 h (by omega)
  · exact yzk_26 h (by omega)
theorem yzl_8 {nn : Nat} {S : z_Shp} (h : z_Lk nn S) (hn : 8 < nn) : z_l S 8 = 2 := (h.2 8 (by omega)).2.1
theorem yzl_26 {nn : Nat} {S : z_Shp} (h : z_Lk nn S) (hn : 26 < nn) : z_l S 26 = 2 := (h.2 26 (by omega)).2.1
theorem yzWl7 {nn : Nat} {S : z_Shp} {w : Nat} (h : z_Lk nn S) (hn : w + 18 ≤ nn) (hw : z_isW w) : z_l S (w + 7) = 2 := by
  rcases hw with rfl | rfl
  · exact yzl_8 h (by omega)
  · exact yzl_26 h (by omega)
theorem yzr_8_0 {nn : Nat} {S : z_Shp} (h : z_Lk nn S) (hn : 8 < nn) : z_r S 8 0 = some 9 := (h.2 8 (by omega)).2.2 0 9 rfl
theorem yzr_26_0 {nn : Nat} {S : z_Shp} (h : z_Lk nn S) (hn : 26 < nn) : z_r S 26 0 = some 27 := (h.2 26 (by omega)).2.2 0 27 rfl
theorem yzWr7_0 {nn : Nat} {S : z_Shp} {w : Nat} (h : z_Lk nn S) (hn : w + 18 ≤ nn) (hw : z_isW w) : z_r S (w + 7) 0 = some (w + 8) := by
  rcases hw with rfl | rfl
  · exact yzr_8_0 h (by omega)
  · exact yzr_26_0 h (by omega)
theorem yzr_8_1 {nn : Nat} {S : z_Shp} (h : z_Lk nn S) (hn : 8 < nn) : z_r S 8 1 = some 10 := (h.2 8 (by omega)).2.2 1 10 rfl
theorem yzr_26_1 {nn : Nat} {S : z_Shp} (h : z_Lk nn S) (hn : 26 < nn) : z_r S 26 1 = some 28 := (h.2 26 (by omega)).2.2 1 28 rfl
theorem yzWr7_1 {nn : Nat} {S : z_Shp} {w : Nat} (h : z_Lk nn S) (hn : w + 18 ≤ nn) (hw : z_isW w) : z_r S (w + 7) 1 = some (w + 9) := by
  rcases hw with rfl | rfl
  · exact yzr_8_1 h (by omega)
  · exact yzr_26_1 h (by omega)
theorem yzWg7r {nn : Nat} {S : z_Shp} {w : Nat} {i : Int32} (h : z_Lk nn S) (hn : w + 18 ≤ nn) (hw : z_isW w) (hi : vp_in i 2) : z_r S (w + 7) i.toNatClampNeg = some (w + 8 + i.toNatClampNeg) := z_2 (P := fun q => z_r S (w + 7) q = some (w + 8 + q)) hi (yzWr7_0 h (by omega) hw) (yzWr7_1 h (by omega) hw)
theorem yzk_9 {nn : Nat} {S : z_Shp} (h : z_Lk nn S) (hn : 9 < nn) : z_k S 9 = 21 := (h.2 9 (by omega)).1
theorem yzk_27 {nn : Nat} {S : z_Shp} (h : z_Lk nn S) (hn : 27 < nn) : z_k S 27 = 21 := (h.2 27 (by omega)).1
theorem yzWk8 {nn : Nat} {S : z_Shp} {w : Nat} (h : z_Lk nn S) (hn : w + 18 ≤ nn) (hw : z_isW w) : z_k S (w + 8) = 21 := by
  rcases hw with rfl | rfl
  · exact yzk_9 h (by omega)
  · exact yzk_27 h (by omega)
theorem yzk_10 {nn : Nat} {S : z_Shp} (h : z_Lk nn S) (hn : 10 < nn) : z_k S 10 = 21 := (h.2 10 (by omega)).1
theorem yzk_28 {nn : Nat} {S : z_Shp} (h : z_Lk nn S) (hn : 28 < nn) : z_k S 28 = 21 := (h.2 28 (by omega)).1
theorem yzWk9 {nn : Nat} {S : z_Shp} {w : Nat} (h : z_Lk nn S) (hn : w + 18 ≤ nn) (hw : z_isW w) : z_k S (w + 9) = 21 := by
  rcases hw with rfl | rfl
  · exact yzk_10 h (by omega)
  · exact yzk_28 h (by omega)
theorem yzWg7k {nn : Nat} {S : z_Shp} {w : Nat} {i : Int32} (h : z_Lk nn S) (hn : w + 18 ≤ nn) (hw : z_isW w) (hi : vp_in i 2) : z_k S (w + 8 + i.toNatClampNeg) = 21 := z_2 (P := fun q => z_k S (w + 8 + q) = 21) hi (yzWk8 h (by omega) hw) (yzWk9 h (by omega) hw)
theorem yzl_9 {nn : Nat} {S : z_Shp} (h : z_Lk nn S) (hn : 9 < nn) : z_l S 9 = 12 := (h.2 9 (by omega)).2.1
theorem yzl_27 {nn : Nat} {S : z_Shp} (h : z_Lk nn S) (hn : 27 < nn) : z_l S 27 = 12 := (h.2 27 (by omega)).2.1
theorem yzWl8 {nn : Nat} {S : z_Shp} {w : Nat} (h : z_Lk nn S) (hn : w + 18 ≤ nn) (hw : z_isW w) : z_l S (w + 8) = 12 := by
  rcases hw with rfl | rfl
  · exact yzl_9 h (by omega)
  · exact yzl_27 h (by omega)
theorem yzl_10 {nn : Nat} {S : z_Shp} (h : z_Lk nn S) (hn : 10 < nn) : z_l S 10 = 12 := (h.2 10 (by omega)).2.1
theorem yzl_28 {nn : Nat} {S : z_Shp} (h : z_Lk nn S) (hn : 28 < nn) : z_l S 28 = 12 := (h.2 28 (by omega)).2.1
theorem yzWl9 {nn : Nat} {S : z_Shp} {w : Nat} (h : z_Lk nn S) (hn : w + 18 ≤ nn) (hw : z_isW w) : z_l S (w + 9) = 12 := by
  rcases hw with rfl | rfl
  · exact yzl_10 h (by omega)
  · exact yzl_28 h (by omega)
theorem yzWg7l {nn : Nat} {S : z_Shp} {w : Nat} {i : Int32} (h : z_Lk nn S) (hn : w + 18 ≤ nn) (hw : z_isW w) (hi : vp_in i 2) : z_l S (w + 8 + i.toNatClampNeg) = 12 := z_2 (P := fun q => z_l S (w + 8 + q) = 12) hi (yzWl8 h (by omega) hw) (yzWl9 h (by omega) hw)
theorem ysg_X9_checksOn_5 {nn : Nat} {G : z_G} {d : Nat} {S : z_Shp} {v : z_Dat} {Q : Option Value → z_Shp → z_Dat → Prop} {x1 : Int32} {x2 : Int32} {x3 : Int32} {x4 : Int32} {w : Nat} (hL : z_Lk nn S) (hn : w + 18 ≤ nn) (hw : z_isW w)
    (h : ((v w 2) ≤ x4 → (Q (some (.int x3)) S v)) ∧ (¬ (v w 2) ≤ x4 → ((vp_in x1 2) ∧ ((vp_in x4 12) ∧ (z_J G d mX9_checksOn (5, [.ref w, .int x1, .int x2, .int (x3 ||| ((((v (w + 8 + x1.toNatClampNeg) x4.toNatClampNeg) >>> (x2 &&& 31)) &&& 1) <<< (x4 &&& 31))), .int (x4 + 1)], [], S, v) Q))))) :
    z_J G d mX9_checksOn (5, [.ref w, .int x1, .int x2, .int x3, .int x4], [], S, v) Q := by
  refine zj_iload dX9_checksOn_5 rfl ?_
  refine zj_aload_n dX9_checksOn_7 rfl rfl ?_
  refine zj_getI (ci := 9) (j := 2) dX9_checksOn_8 wf_X9_42 (by decide) (by decide) (yzWk0 hL (by omega) hw) rfl ?_
  refine zj_icmp_ge (tgt := 39) dX9_checksOn_11 (by decide) (fun c => ?_) (fun c => ?_)
  · replace h := h.1 c
    refine zj_iload_n dX9_checksOn_39 rfl rfl ?_
    exact zj_iret dX9_checksOn_40 rfl rfl h
  · replace h := h.2 c
    refine zj_iload_n dX9_checksOn_14 rfl rfl ?_
    refine zj_aload_n dX9_checksOn_15 rfl rfl ?_
    refine zj_getR (ci := 9) (j := 5) dX9_checksOn_16 wf_X9_19 (by decide) (by decide) (yzWk0 hL (by omega) hw) rfl (yzWr0_5 hL (by omega) hw) ?_
    refine zj_iload_n dX9_checksOn_19 rfl rfl ?_
    obtain ⟨hi1, h⟩ := h
    refine zj_aaload0 dX9_checksOn_20 (yzWk7 hL (by omega) hw) (by rw [(yzWl7 hL (by omega) hw)]; exact hi1) (yzWg7r hL (by omega) hw hi1) ?_
    refine zj_iload dX9_checksOn_21 rfl ?_
    refine zj_iaload dX9_checksOn_23 (yzWg7k hL (by omega) hw hi1) (by rw [(yzWg7l hL (by omega) hw hi1)]; exact h.1) ?_
    replace h := h.2
    refine zj_iload_n dX9_checksOn_24 rfl rfl ?_
    refine zj_ishr dX9_checksOn_25 ?_
    refine zj_iconst (x := 1) dX9_checksOn_26 rfl ?_
    refine zj_iand dX9_checksOn_27 ?_
    refine zj_iload dX9_checksOn_28 rfl ?_
    refine zj_ishl dX9_checksOn_30 ?_
    refine zj_ior dX9_checksOn_31 ?_
    refine zj_istore_n (ls2 := [.ref w, .int x1, .int x2, .int (x3 ||| ((((v (w + 8 + x1.toNatClampNeg) x4.toNatClampNeg) >>> (x2 &&& 31)) &&& 1) <<< (x4 &&& 31))), .int x4]) dX9_checksOn_32 rfl (by decide) rfl rfl ?_
    refine zj_iinc (y := x4 + 1) (ls2 := [.ref w, .int x1, .int x2, .int (x3 ||| ((((v (w + 8 + x1.toNatClampNeg) x4.toNatClampNeg) >>> (x2 &&& 31)) &&& 1) <<< (x4 &&& 31))), .int (x4 + 1)]) dX9_checksOn_33 rfl rfl (by decide) rfl rfl ?_
    refine zj_goto (tgt := 5) dX9_checksOn_36 (by decide) ?_
    exact h
theorem ysg_X9_kindAt_0 {nn : Nat} {G : z_G} {d : Nat} {S : z_Shp} {v : z_Dat} {Q : Option Value → z_Shp → z_Dat → Prop} {w : Nat} {x1 : Int32} {x2 : Int32} (hL : z_Lk nn S) (hn : w + 18 ≤ nn) (hw : z_isW w)
    (h : (x1 < 1 → ((x2 < 1 → ((¬ ((x1 + x2) - (x1 + x2) / 2 * 2) = 0 → (Q (some (.int (-1))) S v)) ∧ (((x1 + x2) - (x1 + x2) / 2 * 2) = 0 → (Q (some (.int (-1))) S v)))) ∧ (¬ x2 < 1 → (((v w 0) ≤ x2 → ((¬ ((x1 + x2) - (x1 + x2) / 2 * 2) = 0 → (Q (some (.int (-1))) S v)) ∧ (((x1 + x2) - (x1 + x2) / 2 * 2) = 0 → (Q (some (.int (-1))) S v)))) ∧ (¬ (v w 0) ≤ x2 → ((¬ ((x1 + x2) - (x1 + x2) / 2 * 2) = 0 → (Q (some (.int 1)) S v)) ∧ (((x1 + x2) - (x1 + x2) / 2 * 2) = 0 → (Q (some (.int (-1))) S v)))))))) ∧ (¬ x1 < 1 → (((v w 0) ≤ x1 → ((x2 < 1 → ((¬ ((x1 + x2) - (x1 + x2) / 2 * 2) = 0 → (Q (some (.int (-1))) S v)) ∧ (((x1 + x2) - (x1 + x2) / 2 * 2) = 0 → (Q (some (.int (-1))) S v)))) ∧ (¬ x2 < 1 → (((v w 0) ≤ x2 → ((¬ ((x1 + x2) - (x1 + x2) / 2 * 2) = 0 → (Q (some (.int (-1))) S v)) ∧ (((x1 + x2) - (x1 + x2) / 2 * 2) = 0 → (Q (some (.int (-1))) S v)))) ∧ (¬ (v w 0) ≤ x2 → ((¬ ((x1 + x2) - (x1 + x2) / 2 * 2) = 0 → (Q (some (.int 1)) S v)) ∧ (((x1 + x2) - (x1 + x2) / 2 * 2) = 0 → (Q (some (.int (-1))) S v)))))))) ∧ (¬ (v w 0) ≤ x1 → ((x2 < 1 → ((¬ ((x1 + x2) - (x1 + x2) / 2 * 2) = 0 → (Q (some (.int (-1))) S v)) ∧ (((x1 + x2) - (x1 + x2) / 2 * 2) = 0 → (Q (some (.int 0)) S v)))) ∧ (¬ x2 < 1 → (((v w 0) ≤ x2 → ((¬ ((x1 + x2) - (x1 + x2) / 2 * 2) = 0 → (Q (some (.int (-1))) S v)) ∧ (((x1 + x2) - (x1 + x2) / 2 * 2) = 0 → (Q (some (.int 0)) S v)))) ∧ (¬ (v w 0) ≤ x2 → ((¬ ((x1 + x2) - (x1 + x2) / 2 * 2) = 0 → (Q (some (.int 1)) S v)) ∧ (((x1 + x2) - (x1 + x2) / 2 * 2) = 0 → (Q (some (.int 0)) S v))))))))))) :
    z_J G d mX9_kindAt (0, [.ref w, .int x1, .int x2, .null, .null, .null], [], S, v) Q := by
  refine zj_iload_n dX9_kindAt_0 rfl rfl ?_
  refine zj_iconst (x := 1) dX9_kindAt_1 rfl ?_
  refine zj_icmp_lt (tgt := 17) dX9_kindAt_2 (by decide) (fun c => ?_) (fun c => ?_)
  · replace h := h.1 c
    refine zj_iconst (x := 0) dX9_kindAt_17 rfl ?_
    refine zj_istore_n (ls2 := [.ref w, .int x1, .int x2, .int 0, .null, .null]) dX9_kindAt_18 rfl (by decide) rfl rfl ?_
    refine zj_iload_n dX9_kindAt_19 rfl rfl ?_
    refine zj_iconst (x := 1) dX9_kindAt_20 rfl ?_
    refine zj_icmp_lt (tgt := 36) dX9_kindAt_21 (by decide) (fun c => ?_) (fun c => ?_)
    · replace h := h.1 c
      refine zj_iconst (x := 0) dX9_kindAt_36 rfl ?_
      refine zj_istore (ls2 := [.ref w, .int x1, .int x2, .int 0, .int 0, .null]) dX9_kindAt_37 (by decide) rfl rfl ?_
      refine zj_iload_n dX9_kindAt_39 rfl rfl ?_
      refine zj_iload_n dX9_kindAt_40 rfl rfl ?_
      refine zj_iadd dX9_kindAt_41 ?_
      refine zj_iconst (x := 2) dX9_kindAt_42 rfl ?_
      refine zj_irem dX9_kindAt_43 (by decide) ?_
      refine zj_if_ne (tgt := 51) dX9_kindAt_44 (by decide) (fun c => ?_) (fun c => ?_)
      · replace h := h.1 c
        refine zj_iconst (x := 1) dX9_kindAt_51 rfl ?_
        refine zj_istore (ls2 := [.ref w, .int x1, .int x2, .int 0, .int 0, .int 1]) dX9_kindAt_52 (by decide) rfl rfl ?_
        refine zj_iload_n dX9_kindAt_54 rfl rfl ?_
        refine zj_if_eq (tgt := 66) dX9_kindAt_55 (by decide) (fun _ => ?_) (fun q => absurd (by decide) q)
        refine zj_iload_n dX9_kindAt_66 rfl rfl ?_
        refine zj_if_eq (tgt := 81) dX9_kindAt_67 (by decide) (fun _ => ?_) (fun q => absurd (by decide) q)
        refine zj_iload dX9_kindAt_81 rfl ?_
        refine zj_if_eq (tgt := 98) dX9_kindAt_83 (by decide) (fun _ => ?_) (fun q => absurd (by decide) q)
        refine zj_iconst (x := (-1)) dX9_kindAt_98 rfl ?_
        exact zj_iret dX9_kindAt_99 rfl rfl h
      · replace h := h.2 c
        refine zj_iconst (x := 0) dX9_kindAt_47 rfl ?_
        refine zj_goto (tgt := 52) dX9_kindAt_48 (by decide) ?_
        refine zj_istore (ls2 := [.ref w, .int x1, .int x2, .int 0, .int 0, .int 0]) dX9_kindAt_52 (by decide) rfl rfl ?_
        refine zj_iload_n dX9_kindAt_54 rfl rfl ?_
        refine zj_if_eq (tgt := 66) dX9_kindAt_55 (by decide) (fun _ => ?_) (fun q => absurd (by decide) q)
        refine zj_iload_n dX9_kindAt_66 rfl rfl ?_
        refine zj_if_eq (tgt := 81) dX9_kindAt_67 (by decide) (fun _ => ?_) (fun q => absurd (by decide) q)
        refine zj_iload dX9_kindAt_81 rfl ?_
        refine zj_if_eq (tgt := 98) dX9_kindAt_83 (by decide) (fun _ => ?_) (fun q => absurd (by decide) q)
        refine zj_iconst (x := (-1)) dX9_kindAt_98 rfl ?_
        exact zj_iret dX9_kindAt_99 rfl rfl h
    · replace h := h.2 c
      refine zj_iload_n dX9_kindAt_24 rfl rfl ?_
      refine zj_aload_n dX9_kindAt_25 rfl rfl ?_
      refine zj_getI (ci := 9) (j := 0) dX9_kindAt_26 wf_X9_35 (by decide) (by decide) (yzWk0 hL (by omega) hw) rfl ?_
      refine zj_icmp_ge (tgt := 36) dX9_kindAt_29 (by decide) (fun c => ?_) (fun c => ?_)
      · replace h := h.1 c
        refine zj_iconst (x := 0) dX9_kindAt_36 rfl ?_
        refine zj_istore (ls2 := [.ref w, .int x1, .int x2, .int 0, .int 0, .null]) dX9_kindAt_37 (by decide) rfl rfl ?_
        refine zj_iload_n dX9_kindAt_39 rfl rfl ?_
        refine zj_iload_n dX9_kindAt_40 rfl rfl ?_
        refine zj_iadd dX9_kindAt_41 ?_
        refine zj_iconst (x := 2) dX9_kindAt_42 rfl ?_
        refine zj_irem dX9_kindAt_43 (by decide) ?_
        refine zj_if_ne (tgt := 51) dX9_kindAt_44 (by decide) (fun c => ?_) (fun c => ?_)
        · replace h := h.1 c
          refine zj_iconst (x := 1) dX9_kindAt_51 rfl ?_
          refine zj_istore (ls2 := [.ref w, .int x1, .int x2, .int 0, .int 0, .int 1]) dX9_kindAt_52 (by decide) rfl rfl ?_
          refine zj_iload_n dX9_kindAt_54 rfl rfl ?_
          refine zj_if_eq (tgt := 66) dX9_kindAt_55 (by decide) (fun _ => ?_) (fun q => absurd (by decide) q)
          refine zj_iload_n dX9_kindAt_66 rfl rfl ?_
          refine zj_if_eq (tgt := 81) dX9_kindAt_67 (by decide) (fun _ => ?_) (fun q => absurd (by decide) q)
          refine zj_iload dX9_kindAt_81 rfl ?_
          refine zj_if_eq (tgt := 98) dX9_kindAt_83 (by decide) (fun _ => ?_) (fun q => absurd (by decide) q)
          refine zj_iconst (x := (-1)) dX9_kindAt_98 rfl ?_
          exact zj_iret dX9_kindAt_99 rfl rfl h
        · replace h := h.2 c
          refine zj_iconst (x := 0) dX9_kindAt_47 rfl ?_
          refine zj_goto (tgt := 52) dX9_kindAt_48 (by decide) ?_
          refine zj_istore (ls2 := [.ref w, .int x1, .int x2, .int 0, .int 0, .int 0]) dX9_kindAt_52 (by decide) rfl rfl ?_
          refine zj_iload_n dX9_kindAt_54 rfl rfl ?_
          refine zj_if_eq (tgt := 66) dX9_kindAt_55 (by decide) (fun _ => ?_) (fun q => absurd (by decide) q)
          refine zj_iload_n dX9_kindAt_66 rfl rfl ?_
          refine zj_if_eq (tgt := 81) dX9_kindAt_67 (by decide) (fun _ => ?_) (fun q => absurd (by decide) q)
          refine zj_iload dX9_kindAt_81 rfl ?_
          refine zj_if_eq (tgt := 98) dX9_kindAt_83 (by decide) (fun _ => ?_) (fun q => absurd (by decide) q)
          refine zj_iconst (x := (-1)) dX9_kindAt_98 rfl ?_
          exact zj_iret dX9_kindAt_99 rfl rfl h
      · replace h := h.2 c
        refine zj_iconst (x := 1) dX9_kindAt_32 rfl ?_
        refine zj_goto (tgt := 37) dX9_kindAt_33 (by decide) ?_
        refine zj_istore (ls2 := [.ref w, .int x1, .int x2, .int 0, .int 1, .null]) dX9_kindAt_37 (by decide) rfl rfl ?_
        refine zj_iload_n dX9_kindAt_39 rfl rfl ?_
        refine zj_iload_n dX9_kindAt_40 rfl rfl ?_
        refine zj_iadd dX9_kindAt_41 ?_
        refine zj_iconst (x := 2) dX9_kindAt_42 rfl ?_
        refine zj_irem dX9_kindAt_43 (by decide) ?_
        refine zj_if_ne (tgt := 51) dX9_kindAt_44 (by decide) (fun c => ?_) (fun c => ?_)
        · replace h := h.1 c
          refine zj_iconst (x := 1) dX9_kindAt_51 rfl ?_
          refine zj_istore (ls2 := [.ref w, .int x1, .int x2, .int 0, .int 1, .int 1]) dX9_kindAt_52 (by decide) rfl rfl ?_
          refine zj_iload_n dX9_kindAt_54 rfl rfl ?_
          refine zj_if_eq (tgt := 66) dX9_kindAt_55 (by decide) (fun _ => ?_) (fun q => absurd (by decide) q)
          refine zj_iload_n dX9_kindAt_66 rfl rfl ?_
          refine zj_if_eq (tgt := 81) dX9_kindAt_67 (by decide) (fun _ => ?_) (fun q => absurd (by decide) q)
          refine zj_iload dX9_kindAt_81 rfl ?_
          refine zj_if_eq (tgt := 98) dX9_kindAt_83 (by decide) (fun q => absurd q (by decide)) (fun _ => ?_)
          refine zj_iload dX9_kindAt_86 rfl ?_
          refine zj_iconst (x := 1) dX9_kindAt_88 rfl ?_
          refine zj_icmp_ne (tgt := 96) dX9_kindAt_89 (by decide) (fun q => absurd (by decide) q) (fun _ => ?_)
          refine zj_iconst (x := 1) dX9_kindAt_92 rfl ?_
          refine zj_goto (tgt := 97) dX9_kindAt_93 (by decide) ?_
          exact zj_iret dX9_kindAt_97 rfl rfl h
        · replace h := h.2 c
          refine zj_iconst (x := 0) dX9_kindAt_47 rfl ?_
          refine zj_goto (tgt := 52) dX9_kindAt_48 (by decide) ?_
          refine zj_istore (ls2 := [.ref w, .int x1, .int x2, .int 0, .int 1, .int 0]) dX9_kindAt_52 (by decide) rfl rfl ?_
          refine zj_iload_n dX9_kindAt_54 rfl rfl ?_
          refine zj_if_eq (tgt := 66) dX9_kindAt_55 (by decide) (fun _ => ?_) (fun q => absurd (by decide) q)
          refine zj_iload_n dX9_kindAt_66 rfl rfl ?_
          refine zj_if_eq (tgt := 81) dX9_kindAt_67 (by decide) (fun _ => ?_) (fun q => absurd (by decide) q)
          refine zj_iload dX9_kindAt_81 rfl ?_
          refine zj_if_eq (tgt := 98) dX9_kindAt_83 (by decide) (fun q => absurd q (by decide)) (fun _ => ?_)
          refine zj_iload dX9_kindAt_86 rfl ?_
          refine zj_iconst (x := 1) dX9_kindAt_88 rfl ?_
          refine zj_icmp_ne (tgt := 96) dX9_kindAt_89 (by decide) (fun _ => ?_) (fun q => absurd q (by decide))
          refine zj_iconst (x := (-1)) dX9_kindAt_96 rfl ?_
          exact zj_iret dX9_kindAt_97 rfl rfl h
  · replace h := h.2 c
    refine zj_iload_n dX9_kindAt_5 rfl rfl ?_
    refine zj_aload_n dX9_kindAt_6 rfl rfl ?_
    refine zj_getI (ci := 9) (j := 0) dX9_kindAt_7 wf_X9_35 (by decide) (by decide) (yzWk0 hL (by omega) hw) rfl ?_
    refine zj_icmp_ge (tgt := 17) dX9_kindAt_10 (by decide) (fun c => ?_) (fun c => ?_)
    · replace h := h.1 c
      refine zj_iconst (x := 0) dX9_kindAt_17 rfl ?_
      refine zj_istore_n (ls2 := [.ref w, .int x1, .int x2, .int 0, .null, .null]) dX9_kindAt_18 rfl (by decide) rfl rfl ?_
      refine zj_iload_n dX9_kindAt_19 rfl rfl ?_
      refine zj_iconst (x := 1) dX9_kindAt_20 rfl ?_
      refine zj_icmp_lt (tgt := 36) dX9_kindAt_21 (by decide) (fun c => ?_) (fun c => ?_)
      · replace h := h.1 c
        refine zj_iconst (x := 0) dX9_kindAt_36 rfl ?_
        refine zj_istore (ls2 := [.ref w, .int x1, .int x2, .int 0, .int 0, .null]) dX9_kindAt_37 (by decide) rfl rfl ?_
        refine zj_iload_n dX9_kindAt_39 rfl rfl ?_
        refine zj_iload_n dX9_kindAt_40 rfl rfl ?_
        refine zj_iadd dX9_kindAt_41 ?_
        refine zj_iconst (x := 2) dX9_kindAt_42 rfl ?_
        refine zj_irem dX9_kindAt_43 (by decide) ?_
        refine zj_if_ne (tgt := 51) dX9_kindAt_44 (by decide) (fun c => ?_) (fun c => ?_)
        · replace h := h.1 c
          refine zj_iconst (x := 1) dX9_kindAt_51 rfl ?_
          refine zj_istore (ls2 := [.ref w, .int x1, .int x2, .int 0, .int 0, .int 1]) dX9_kindAt_52 (by decide) rfl rfl ?_
          refine zj_iload_n dX9_kindAt_54 rfl rfl ?_
          refine zj_if_eq (tgt := 66) dX9_kindAt_55 (by decide) (fun _ => ?_) (fun q => absurd (by decide) q)
          refine zj_iload_n dX9_kindAt_66 rfl rfl ?_
          refine zj_if_eq (tgt := 81) dX9_kindAt_67 (by decide) (fun _ => ?_) (fun q => absurd (by decide) q)
          refine zj_iload dX9_kindAt_81 rfl ?_
          refine zj_if_eq (tgt := 98) dX9_kindAt_83 (by decide) (fun _ => ?_) (fun q => absurd (by decide) q)
          refine zj_iconst (x := (-1)) dX9_kindAt_98 rfl ?_
          exact zj_iret dX9_kindAt_99 rfl rfl h
        · replace h := h.2 c
          refine zj_iconst (x := 0) dX9_kindAt_47 rfl ?_
          refine zj_goto (tgt := 52) dX9_kindAt_48 (by decide) ?_
          refine zj_istore (ls2 := [.ref w, .int x1, .int x2, .int 0, .int 0, .int 0]) dX9_kindAt_52 (by decide) rfl rfl ?_
          refine zj_iload_n dX9_kindAt_54 rfl rfl ?_
          refine zj_if_eq (tgt := 66) dX9_kindAt_55 (by decide) (fun _ => ?_) (fun q => absurd (by decide) q)
          refine zj_iload_n dX9_kindAt_66 rfl rfl ?_
          refine zj_if_eq (tgt := 81) dX9_kindAt_67 (by decide) (fun _ => ?_) (fun q => absurd (by decide) q)
          refine zj_iload dX9_kindAt_81 rfl ?_
          refine zj_if_eq (tgt := 98) dX9_kindAt_83 (by decide) (fun _ => ?_) (fun q => absurd (by decide) q)
          refine zj_iconst (x := (-1)) dX9_kindAt_98 rfl ?_
          exact zj_iret dX9_kindAt_99 rfl rfl h
      · replace h := h.2 c
        refine zj_iload_n dX9_kindAt_24 rfl rfl ?_
        refine zj_aload_n dX9_kindAt_25 rfl rfl ?_
        refine zj_getI (ci := 9) (j := 0) dX9_kindAt_26 wf_X9_35 (by decide) (by decide) (yzWk0 hL (by omega) hw) rfl ?_
        refine zj_icmp_ge (tgt := 36) dX9_kindAt_29 (by decide) (fun c => ?_) (fun c => ?_)
        · replace h := h.1 c
          refine zj_iconst (x := 0) dX9_kindAt_36 rfl ?_
          refine zj_istore (ls2 := [.ref w, .int x1, .int x2, .int 0, .int 0, .null]) dX9_kindAt_37 (by decide) rfl rfl ?_
          refine zj_iload_n dX9_kindAt_39 rfl rfl ?_
          refine zj_iload_n dX9_kindAt_40 rfl rfl ?_
          refine zj_iadd dX9_kindAt_41 ?_
          refine zj_iconst (x := 2) dX9_kindAt_42 rfl ?_
          refine zj_irem dX9_kindAt_43 (by decide) ?_
          refine zj_if_ne (tgt := 51) dX9_kindAt_44 (by decide) (fun c => ?_) (fun c => ?_)
          · replace h := h.1 c
            refine zj_iconst (x := 1) dX9_kindAt_51 rfl ?_
            refine zj_istore (ls2 := [.ref w, .int x1, .int x2, .int 0, .int 0, .int 1]) dX9_kindAt_52 (by decide) rfl rfl ?_
            refine zj_iload_n dX9_kindAt_54 rfl rfl ?_
            refine zj_if_eq (tgt := 66) dX9_kindAt_55 (by decide) (fun _ => ?_) (fun q => absurd (by decide) q)
            refine zj_iload_n dX9_kindAt_66 rfl rfl ?_
            refine zj_if_eq (tgt := 81) dX9_kindAt_67 (by decide) (fun _ => ?_) (fun q => absurd (by decide) q)
            refine zj_iload dX9_kindAt_81 rfl ?_
            refine zj_if_eq (tgt := 98) dX9_kindAt_83 (by decide) (fun _ => ?_) (fun q => absurd (by decide) q)
            refine zj_iconst (x := (-1)) dX9_kindAt_98 rfl ?_
            exact zj_iret dX9_kindAt_99 rfl rfl h
          · replace h := h.2 c
            refine zj_iconst (x := 0) dX9_kindAt_47 rfl ?_
            refine zj_goto (tgt := 52) dX9_kindAt_48 (by decide) ?_
            refine zj_istore (ls2 := [.ref w, .int x1, .int x2, .int 0, .int 0, .int 0]) dX9_kindAt_52 (by decide) rfl rfl ?_
            refine zj_iload_n dX9_kindAt_54 rfl rfl ?_
            refine zj_if_eq (tgt := 66) dX9_kindAt_55 (by decide) (fun _ => ?_) (fun q => absurd (by decide) q)
            refine zj_iload_n dX9_kindAt_66 rfl rfl ?_
            refine zj_if_eq (tgt := 81) dX9_kindAt_67 (by decide) (fun _ => ?_) (fun q => absurd (by decide) q)
            refine zj_iload dX9_kindAt_81 rfl ?_
            refine zj_if_eq (tgt := 98) dX9_kindAt_83 (by decide) (fun _ => ?_) (fun q => absurd (by decide) q)
            refine zj_iconst (x := (-1)) dX9_kindAt_98 rfl ?_
            exact zj_iret dX9_kindAt_99 rfl rfl h
        · replace h := h.2 c
          refine zj_iconst (x := 1) dX9_kindAt_32 rfl ?_
          refine zj_goto (tgt := 37) dX9_kindAt_33 (by decide) ?_
          refine zj_istore (ls2 := [.ref w, .int x1, .int x2, .int 0, .int 1, .null]) dX9_kindAt_37 (by decide) rfl rfl ?_
          refine zj_iload_n dX9_kindAt_39 rfl rfl ?_
          refine zj_iload_n dX9_kindAt_40 rfl rfl ?_
          refine zj_iadd dX9_kindAt_41 ?_
          refine zj_iconst (x := 2) dX9_kindAt_42 rfl ?_
          refine zj_irem dX9_kindAt_43 (by decide) ?_
          refine zj_if_ne (tgt := 51) dX9_kindAt_44 (by decide) (fun c => ?_) (fun c => ?_)
          · replace h := h.1 c
            refine zj_iconst (x := 1) dX9_kindAt_51 rfl ?_
            refine zj_istore (ls2 := [.ref w, .int x1, .int x2, .int 0, .int 1, .int 1]) dX9_kindAt_52 (by decide) rfl rfl ?_
            refine zj_iload_n dX9_kindAt_54 rfl rfl ?_
            refine zj_if_eq (tgt := 66) dX9_kindAt_55 (by decide) (fun _ => ?_) (fun q => absurd (by decide) q)
            refine zj_iload_n dX9_kindAt_66 rfl rfl ?_
            refine zj_if_eq (tgt := 81) dX9_kindAt_67 (by decide) (fun _ => ?_) (fun q => absurd (by decide) q)
            refine zj_iload dX9_kindAt_81 rfl ?_
            refine zj_if_eq (tgt := 98) dX9_kindAt_83 (by decide) (fun q => absurd q (by decide)) (fun _ => ?_)
            refine zj_iload dX9_kindAt_86 rfl ?_
            refine zj_iconst (x := 1) dX9_kindAt_88 rfl ?_
            refine zj_icmp_ne (tgt := 96) dX9_kindAt_89 (by decide) (fun q => absurd (by decide) q) (fun _ => ?_)
            refine zj_iconst (x := 1) dX9_kindAt_92 rfl ?_
            refine zj_goto (tgt := 97) dX9_kindAt_93 (by decide) ?_
            exact zj_iret dX9_kindAt_97 rfl rfl h
          · replace h := h.2 c
            refine zj_iconst (x := 0) dX9_kindAt_47 rfl ?_
            refine zj_goto (tgt := 52) dX9_kindAt_48 (by decide) ?_
            refine zj_istore (ls2 := [.ref w, .int x1, .int x2, .int 0, .int 1, .int 0]) dX9_kindAt_52 (by decide) rfl rfl ?_
            refine zj_iload_n dX9_kindAt_54 rfl rfl ?_
            refine zj_if_eq (tgt := 66) dX9_kindAt_55 (by decide) (fun _ => ?_) (fun q => absurd (by decide) q)
            refine zj_iload_n dX9_kindAt_66 rfl rfl ?_
            refine zj_if_eq (tgt := 81) dX9_kindAt_67 (by decide) (fun _ => ?_) (fun q => absurd (by decide) q)
            refine zj_iload dX9_kindAt_81 rfl ?_
            refine zj_if_eq (tgt := 98) dX9_kindAt_83 (by decide) (fun q => absurd q (by decide)) (fun _ => ?_)
            refine zj_iload dX9_kindAt_86 rfl ?_
            refine zj_iconst (x := 1) dX9_kindAt_88 rfl ?_
            refine zj_icmp_ne (tgt := 96) dX9_kindAt_89 (by decide) (fun _ => ?_) (fun q => absurd q (by decide))
            refine zj_iconst (x := (-1)) dX9_kindAt_96 rfl ?_
            exact zj_iret dX9_kindAt_97 rfl rfl h
    · replace h := h.2 c
      refine zj_iconst (x := 1) dX9_kindAt_13 rfl ?_
      refine zj_goto (tgt := 18) dX9_kindAt_14 (by decide) ?_
      refine zj_istore_n (ls2 := [.ref w, .int x1, .int x2, .int 1, .null, .null]) dX9_kindAt_18 rfl (by decide) rfl rfl ?_
      refine zj_iload_n dX9_kindAt_19 rfl rfl ?_
      refine zj_iconst (x := 1) dX9_kindAt_20 rfl ?_
      refine zj_icmp_lt (tgt := 36) dX9_kindAt_21 (by decide) (fun c => ?_) (fun c => ?_)
      · replace h := h.1 c
        refine zj_iconst (x := 0) dX9_kindAt_36 rfl ?_
        refine zj_istore (ls2 := [.ref w, .int x1, .int x2, .int 1, .int 0, .null]) dX9_kindAt_37 (by decide) rfl rfl ?_
        refine zj_iload_n dX9_kindAt_39 rfl rfl ?_
        refine zj_iload_n dX9_kindAt_40 rfl rfl ?_
        refine zj_iadd dX9_kindAt_41 ?_
        refine zj_iconst (x := 2) dX9_kindAt_42 rfl ?_
        refine zj_irem dX9_kindAt_43 (by decide) ?_
        refine zj_if_ne (tgt := 51) dX9_kindAt_44 (by decide) (fun c => ?_) (fun c => ?_)
        · replace h := h.1 c
          refine zj_iconst (x := 1) dX9_kindAt_51 rfl ?_
          refine zj_istore (ls2 := [.ref w, .int x1, .int x2, .int 1, .int 0, .int 1]) dX9_kindAt_52 (by decide) rfl rfl ?_
          refine zj_iload_n dX9_kindAt_54 rfl rfl ?_
          refine zj_if_eq (tgt := 66) dX9_kindAt_55 (by decide) (fun q => absurd q (by decide)) (fun _ => ?_)
          refine zj_iload dX9_kindAt_58 rfl ?_
          refine zj_if_eq (tgt := 66) dX9_kindAt_60 (by decide) (fun _ => ?_) (fun q => absurd (by decide) q)
          refine zj_iload_n dX9_kindAt_66 rfl rfl ?_
          refine zj_if_eq (tgt := 81) dX9_kindAt_67 (by decide) (fun q => absurd q (by decide)) (fun _ => ?_)
          refine zj_iload dX9_kindAt_70 rfl ?_
          refine zj_if_ne (tgt := 79) dX9_kindAt_72 (by decide) (fun _ => ?_) (fun q => absurd q (by decide))
          refine zj_iconst (x := (-1)) dX9_kindAt_79 rfl ?_
          exact zj_iret dX9_kindAt_80 rfl rfl h
        · replace h := h.2 c
          refine zj_iconst (x := 0) dX9_kindAt_47 rfl ?_
          refine zj_goto (tgt := 52) dX9_kindAt_48 (by decide) ?_
          refine zj_istore (ls2 := [.ref w, .int x1, .int x2, .int 1, .int 0, .int 0]) dX9_kindAt_52 (by decide) rfl rfl ?_
          refine zj_iload_n dX9_kindAt_54 rfl rfl ?_
          refine zj_if_eq (tgt := 66) dX9_kindAt_55 (by decide) (fun q => absurd q (by decide)) (fun _ => ?_)
          refine zj_iload dX9_kindAt_58 rfl ?_
          refine zj_if_eq (tgt := 66) dX9_kindAt_60 (by decide) (fun _ => ?_) (fun q => absurd (by decide) q)
          refine zj_iload_n dX9_kindAt_66 rfl rfl ?_
          refine zj_if_eq (tgt := 81) dX9_kindAt_67 (by decide) (fun q => absurd q (by decide)) (fun _ => ?_)
          refine zj_iload dX9_kindAt_70 rfl ?_
          refine zj_if_ne (tgt := 79) dX9_kindAt_72 (by decide) (fun q => absurd (by decide) q) (fun _ => ?_)
          refine zj_iconst (x := 0) dX9_kindAt_75 rfl ?_
          refine zj_goto (tgt := 80) dX9_kindAt_76 (by decide) ?_
          exact zj_iret dX9_kindAt_80 rfl rfl h
      · replace h := h.2 c
        refine zj_iload_n dX9_kindAt_24 rfl rfl ?_
        refine zj_aload_n dX9_kindAt_25 rfl rfl ?_
        refine zj_getI (ci := 9) (j := 0) dX9_kindAt_26 wf_X9_35 (by decide) (by decide) (yzWk0 hL (by omega) hw) rfl ?_
        refine zj_icmp_ge (tgt := 36) dX9_kindAt_29 (by decide) (fun c => ?_) (fun c => ?_)
        · replace h := h.1 c
          refine zj_iconst (x := 0) dX9_kindAt_36 rfl ?_
          refine zj_istore (ls2 := [.ref w, .int x1, .int x2, .int 1, .int 0, .null]) dX9_kindAt_37 (by decide) rfl rfl ?_
          refine zj_iload_n dX9_kindAt_39 rfl rfl ?_
          refine zj_iload_n dX9_kindAt_40 rfl rfl ?_
          refine zj_iadd dX9_kindAt_41 ?_
          refine zj_iconst (x := 2) dX9_kindAt_42 rfl ?_
          refine zj_irem dX9_kindAt_43 (by decide) ?_
          refine zj_if_ne (tgt := 51) dX9_kindAt_44 (by decide) (fun c => ?_) (fun c => ?_)
          · replace h := h.1 c
            refine zj_iconst (x := 1) dX9_kindAt_51 rfl ?_
            refine zj_istore (ls2 := [.ref w, .int x1, .int x2, .int 1, .int 0, .int 1]) dX9_kindAt_52 (by decide) rfl rfl ?_
            refine zj_iload_n dX9_kindAt_54 rfl rfl ?_
            refine zj_if_eq (tgt := 66) dX9_kindAt_55 (by decide) (fun q => absurd q (by decide)) (fun _ => ?_)
            refine zj_iload dX9_kindAt_58 rfl ?_
            refine zj_if_eq (tgt := 66) dX9_kindAt_60 (by decide) (fun _ => ?_) (fun q => absurd (by decide) q)
            refine zj_iload_n dX9_kindAt_66 rfl rfl ?_
            refine zj_if_eq (tgt := 81) dX9_kindAt_67 (by decide) (fun q => absurd q (by decide)) (fun _ => ?_)
            refine zj_iload dX9_kindAt_70 rfl ?_
            refine zj_if_ne (tgt := 79) dX9_kindAt_72 (by decide) (fun _ => ?_) (fun q => absurd q (by decide))
            refine zj_iconst (x := (-1)) dX9_kindAt_79 rfl ?_
            exact zj_iret dX9_kindAt_80 rfl rfl h
          · replace h := h.2 c
            refine zj_iconst (x := 0) dX9_kindAt_47 rfl ?_
            refine zj_goto (tgt := 52) dX9_kindAt_48 (by decide) ?_
            refine zj_istore (ls2 := [.ref w, .int x1, .int x2, .int 1, .int 0, .int 0]) dX9_kindAt_52 (by decide) rfl rfl ?_
            refine zj_iload_n dX9_kindAt_54 rfl rfl ?_
            refine zj_if_eq (tgt := 66) dX9_kindAt_55 (by decide) (fun q => absurd q (by decide)) (fun _ => ?_)
            refine zj_iload dX9_kindAt_58 rfl ?_
            refine zj_if_eq (tgt := 66) dX9_kindAt_60 (by decide) (fun _ => ?_) (fun q => absurd (by decide) q)
            refine zj_iload_n dX9_kindAt_66 rfl rfl ?_
            refine zj_if_eq (tgt := 81) dX9_kindAt_67 (by decide) (fun q => absurd q (by decide)) (fun _ => ?_)
            refine zj_iload dX9_kindAt_70 rfl ?_
            refine zj_if_ne (tgt := 79) dX9_kindAt_72 (by decide) (fun q => absurd (by decide) q) (fun _ => ?_)
            refine zj_iconst (x := 0) dX9_kindAt_75 rfl ?_
            refine zj_goto (tgt := 80) dX9_kindAt_76 (by decide) ?_
            exact zj_iret dX9_kindAt_80 rfl rfl h
        · replace h := h.2 c
          refine zj_iconst (x := 1) dX9_kindAt_32 rfl ?_
          refine zj_goto (tgt := 37) dX9_kindAt_33 (by decide) ?_
          refine zj_istore (ls2 := [.ref w, .int x1, .int x2, .int 1, .int 1, .null]) dX9_kindAt_37 (by decide) rfl rfl ?_
          refine zj_iload_n dX9_kindAt_39 rfl rfl ?_
          refine zj_iload_n dX9_kindAt_40 rfl rfl ?_
          refine zj_iadd dX9_kindAt_41 ?_
          refine zj_iconst (x := 2) dX9_kindAt_42 rfl ?_
          refine zj_irem dX9_kindAt_43 (by decide) ?_
          refine zj_if_ne (tgt := 51) dX9_kindAt_44 (by decide) (fun c => ?_) (fun c => ?_)
          · replace h := h.1 c
            refine zj_iconst (x := 1) dX9_kindAt_51 rfl ?_
            refine zj_istore (ls2 := [.ref w, .int x1, .int x2, .int 1, .int 1, .int 1]) dX9_kindAt_52 (by decide) rfl rfl ?_
            refine zj_iload_n dX9_kindAt_54 rfl rfl ?_
            refine zj_if_eq (tgt := 66) dX9_kindAt_55 (by decide) (fun q => absurd q (by decide)) (fun _ => ?_)
            refine zj_iload dX9_kindAt_58 rfl ?_
            refine zj_if_eq (tgt := 66) dX9_kindAt_60 (by decide) (fun q => absurd q (by decide)) (fun _ => ?_)
            refine zj_iload dX9_kindAt_63 rfl ?_
            exact zj_iret dX9_kindAt_65 rfl rfl h
          · replace h := h.2 c
            refine zj_iconst (x := 0) dX9_kindAt_47 rfl ?_
            refine zj_goto (tgt := 52) dX9_kindAt_48 (by decide) ?_
            refine zj_istore (ls2 := [.ref w, .int x1, .int x2, .int 1, .int 1, .int 0]) dX9_kindAt_52 (by decide) rfl rfl ?_
            refine zj_iload_n dX9_kindAt_54 rfl rfl ?_
            refine zj_if_eq (tgt := 66) dX9_kindAt_55 (by decide) (fun q => absurd q (by decide)) (fun _ => ?_)
            refine zj_iload dX9_kindAt_58 rfl ?_
            refine zj_if_eq (tgt := 66) dX9_kindAt_60 (by decide) (fun q => absurd q (by decide)) (fun _ => ?_)
            refine zj_iload dX9_kindAt_63 rfl ?_
            exact zj_iret dX9_kindAt_65 rfl rfl h
theorem yzr_1_9 {nn : Nat} {S : z_Shp} (h : z_Lk nn S) (hn : 1 < nn) : z_r S 1 9 = some 18 := (h.2 1 (by omega)).2.2 9 18 rfl
theorem yzr_19_9 {nn : Nat} {S : z_Shp} (h : z_Lk nn S) (hn : 19 < nn) : z_r S 19 9 = some 36 := (h.2 19 (by omega)).2.2 9 36 rfl
theorem yzWr0_9 {nn : Nat} {S : z_Shp} {w : Nat} (h : z_Lk nn S) (hn : w + 18 ≤ nn) (hw : z_isW w) : z_r S w 9 = some (w + 17) := by
  rcases hw with rfl | rfl
  · exact yzr_1_9 h (by omega)
  · exact yzr_19_9 h (by omega)
theorem yzr_1_8 {nn : Nat} {S : z_Shp} (h : z_Lk nn S) (hn : 1 < nn) : z_r S 1 8 = some 17 := (h.2 1 (by omega)).2.2 8 17 rfl
theorem yzr_19_8 {nn : Nat} {S : z_Shp} (h : z_Lk nn S) (hn : 19 < nn) : z_r S 19 8 = some 35 := (h.2 19 (by omega)).2.2 8 35 rfl
theorem yzWr0_8 {nn : Nat} {S : z_Shp} {w : Nat} (h : z_Lk nn S) (hn : w + 18 ≤ nn) (hw : z_isW w) : z_r S w 8 = some (w + 16) := by
  rcases hw with rfl | rfl
  · exact yzr_1_8 h (by omega)
  · exact yzr_19_8 h (by omega)
theorem yzk_17 {nn : Nat} {S : z_Shp} (h : z_Lk nn S) (hn : 17 < nn) : z_k S 17 = 21 := (h.2 17 (by omega)).1
theorem yzk_35 {nn : Nat} {S : z_Shp} (h : z_Lk nn S) (hn : 35 < nn) : z_k S 35 = 21 := (h.2 35 (by omega)).1
theorem yzWk16 {nn : Nat} {S : z_Shp} {w : Nat} (h : z_Lk nn S) (hn : w + 18 ≤ nn) (hw : z_isW w) : z_k S (w + 16) = 21 := by
  rcases hw with rfl | rfl
  · exact yzk_17 h (by omega)
  · exact yzk_35 h (by omega)
theorem yzl_17 {nn : Nat} {S : z_Shp} (h : z_Lk nn S) (hn : 17 < nn) : z_l S 17 = 2 := (h.2 17 (by omega)).2.1
theorem yzl_35 {nn : Nat} {S : z_Shp} (h : z_Lk nn S) (hn : 35 < nn) : z_l S 35 = 2 := (h.2 35 (by omega)).2.1
theorem yzWl16 {nn : Nat} {S : z_Shp} {w : Nat} (h : z_Lk nn S) (hn : w + 18 ≤ nn) (hw : z_isW w) : z_l S (w + 16) = 2 := by
  rcases hw with rfl | rfl
  · exact yzl_17 h (by omega)
  · exact yzl_35 h (by omega)
theorem yzk_18 {nn : Nat} {S : z_Shp} (h : z_Lk nn S) (hn : 18 < nn) : z_k S 18 = 21 := (h.2 18 (by omega)).1
theorem yzk_36 {nn : Nat} {S : z_Shp} (h : z_Lk nn S) (hn : 36 < nn) : z_k S 36 = 21 := (h.2 36 (by omega)).1
theorem yzWk17 {nn : Nat} {S : z_Shp} {w : Nat} (h : z_Lk nn S) (hn : w + 18 ≤ nn) (hw : z_isW w) : z_k S (w + 17) = 21 := by
  rcases hw with rfl | rfl
  · exact yzk_18 h (by omega)
  · exact yzk_36 h (by omega)
theorem yzl_18 {nn : Nat} {S : z_Shp} (h : z_Lk nn S) (hn : 18 < nn) : z_l S 18 = 2 := (h.2 18 (by omega)).2.1
theorem yzl_36 {nn : Nat} {S : z_Shp} (h : z_Lk nn S) (hn : 36 < nn) : z_l S 36 = 2 := (h.2 36 (by omega)).2.1
theorem yzWl17 {nn : Nat} {S : z_Shp} {w : Nat} (h : z_Lk nn S) (hn : w + 18 ≤ nn) (hw : z_isW w) : z_l S (w + 17) = 2 := by
  rcases hw with rfl | rfl
  · exact yzl_18 h (by omega)
  · exact yzl_36 h (by omega)
theorem ysg_X9_layBorders_2 {nn : Nat} {G : z_G} {d : Nat} {S : z_Shp} {v : z_Dat} {Q : Option Value → z_Shp → z_Dat → Prop} {x1 : Int32} {w : Nat} (hL : z_Lk nn S) (hn : w + 18 ≤ nn) (hw : z_isW w)
    (h : ((v w 0) ≤ x1 → (∀ v1, v1 = z_u v (w + 17) 0 (v (w + 16) 1) → (∀ v2, v2 = z_u v1 (w + 17) 1 (v1 (w + 16) 0) → (Q none S v2)))) ∧ (¬ (v w 0) ≤ x1 → (∀ v3, v3 = z_u v (w + 16) 0 ((v (w + 16) 0) ||| ((1 : Int32) <<< (x1 &&& 31))) → (∀ v4, v4 = z_u v3 (w + 16) 1 ((v3 (w + 16) 1) ||| ((1 : Int32) <<< ((x1 * (v3 w 0)) &&& 31))) → (z_J G d mX9_layBorders (2, [.ref w, .int (x1 + 1)], [], S, v4) Q))))) :
    z_J G d mX9_layBorders (2, [.ref w, .int x1], [], S, v) Q := by
  refine zj_iload_n dX9_layBorders_2 rfl rfl ?_
  refine zj_aload_n dX9_layBorders_3 rfl rfl ?_
  refine zj_getI (ci := 9) (j := 0) dX9_layBorders_4 wf_X9_35 (by decide) (by decide) (yzWk0 hL (by omega) hw) rfl ?_
  refine zj_icmp_ge (tgt := 45) dX9_layBorders_7 (by decide) (fun c => ?_) (fun c => ?_)
  · replace h := h.1 c
    refine zj_aload_n dX9_layBorders_45 rfl rfl ?_
    refine zj_getR (ci := 9) (j := 9) dX9_layBorders_46 wf_X9_32 (by decide) (by decide) (yzWk0 hL (by omega) hw) rfl (yzWr0_9 hL (by omega) hw) ?_
    refine zj_iconst (x := 0) dX9_layBorders_49 rfl ?_
    refine zj_aload_n dX9_layBorders_50 rfl rfl ?_
    refine zj_getR (ci := 9) (j := 8) dX9_layBorders_51 wf_X9_28 (by decide) (by decide) (yzWk0 hL (by omega) hw) rfl (yzWr0_8 hL (by omega) hw) ?_
    refine zj_iconst (x := 1) dX9_layBorders_54 rfl ?_
    refine zj_iaload dX9_layBorders_55 (yzWk16 hL (by omega) hw) (by rw [(yzWl16 hL (by omega) hw)]; exact z_vin (by decide)) ?_
    refine zj_iastore dX9_layBorders_56 (yzWk17 hL (by omega) hw) (by rw [(yzWl17 hL (by omega) hw)]; exact z_vin (by decide)) (fun v1 ev1 => ?_)
    replace h := h v1 ev1
    refine zj_aload_n dX9_layBorders_57 rfl rfl ?_
    refine zj_getR (ci := 9) (j := 9) dX9_layBorders_58 wf_X9_32 (by decide) (by decide) (yzWk0 hL (by omega) hw) rfl (yzWr0_9 hL (by omega) hw) ?_
    refine zj_iconst (x := 1) dX9_layBorders_61 rfl ?_
    refine zj_aload_n dX9_layBorders_62 rfl rfl ?_
    refine zj_getR (ci := 9) (j := 8) dX9_layBorders_63 wf_X9_28 (by decide) (by decide) (yzWk0 hL (by omega) hw) rfl (yzWr0_8 hL (by omega) hw) ?_
    refine zj_iconst (x := 0) dX9_layBorders_66 rfl ?_
    refine zj_iaload dX9_layBorders_67 (yzWk16 hL (by omega) hw) (by rw [(yzWl16 hL (by omega) hw)]; exact z_vin (by decide)) ?_
    refine zj_iastore dX9_layBorders_68 (yzWk17 hL (by omega) hw) (by rw [(yzWl17 hL (by omega) hw)]; exact z_vin (by decide)) (fun v2 ev2 => ?_)
    replace h := h v2 ev2
    exact zj_vret dX9_layBorders_69 rfl h
  · replace h := h.2 c
    refine zj_aload_n dX9_layBorders_10 rfl rfl ?_
    refine zj_getR (ci := 9) (j := 8) dX9_layBorders_11 wf_X9_28 (by decide) (by decide) (yzWk0 hL (by omega) hw) rfl (yzWr0_8 hL (by omega) hw) ?_
    refine zj_iconst (x := 0) dX9_layBorders_14 rfl ?_
    refine zj_dup2 dX9_layBorders_15 rfl rfl ?_
    refine zj_iaload dX9_layBorders_16 (yzWk16 hL (by omega) hw) (by rw [(yzWl16 hL (by omega) hw)]; exact z_vin (by decide)) ?_
    refine zj_iconst (x := 1) dX9_layBorders_17 rfl ?_
    refine zj_iload_n dX9_layBorders_18 rfl rfl ?_
    refine zj_ishl dX9_layBorders_19 ?_
    refine zj_ior dX9_layBorders_20 ?_
    refine zj_iastore dX9_layBorders_21 (yzWk16 hL (by omega) hw) (by rw [(yzWl16 hL (by omega) hw)]; exact z_vin (by decide)) (fun v3 ev3 => ?_)
    replace h := h v3 ev3
    refine zj_aload_n dX9_layBorders_22 rfl rfl ?_
    refine zj_getR (ci := 9) (j := 8) dX9_layBorders_23 wf_X9_28 (by decide) (by decide) (yzWk0 hL (by omega) hw) rfl (yzWr0_8 hL (by omega) hw) ?_
    refine zj_iconst (x := 1) dX9_layBorders_26 rfl ?_
    refine zj_dup2 dX9_layBorders_27 rfl rfl ?_
    refine zj_iaload dX9_layBorders_28 (yzWk16 hL (by omega) hw) (by rw [(yzWl16 hL (by omega) hw)]; exact z_vin (by decide)) ?_
    refine zj_iconst (x := 1) dX9_layBorders_29 rfl ?_
    refine zj_iload_n dX9_layBorders_30 rfl rfl ?_
    refine zj_aload_n dX9_layBorders_31 rfl rfl ?_
    refine zj_getI (ci := 9) (j := 0) dX9_layBorders_32 wf_X9_35 (by decide) (by decide) (yzWk0 hL (by omega) hw) rfl ?_
    refine zj_imul dX9_layBorders_35 ?_
    refine zj_ishl dX9_layBorders_36 ?_
    refine zj_ior dX9_layBorders_37 ?_
    refine zj_iastore dX9_layBorders_38 (yzWk16 hL (by omega) hw) (by rw [(yzWl16 hL (by omega) hw)]; exact z_vin (by decide)) (fun v4 ev4 => ?_)
    replace h := h v4 ev4
    refine zj_iinc (y := x1 + 1) (ls2 := [.ref w, .int (x1 + 1)]) dX9_layBorders_39 rfl rfl (by decide) rfl rfl ?_
    refine zj_goto (tgt := 2) dX9_layBorders_42 (by decide) ?_
    exact h
theorem ysg_X9_layFaces_4 {nn : Nat} {G : z_G} {d : Nat} {S : z_Shp} {v : z_Dat} {Q : Option Value → z_Shp → z_Dat → Prop} {x1 : Int32} {x2 : Int32} {x3 : Int32} {w : Nat} (hL : z_Lk nn S) (hn : w + 18 ≤ nn) (hw : z_isW w)
    (h : ((v w 0) < x3 → (Q none S v)) ∧ (¬ (v w 0) < x3 → (z_J G d mX9_layFaces (15, [.ref w, .int x1, .int x2, .int x3, .int 0], [], S, v) Q))) :
    z_J G d mX9_layFaces (4, [.ref w, .int x1, .int x2, .int x3, .null], [], S, v) Q := by
  refine zj_iload_n dX9_layFaces_4 rfl rfl ?_
  refine zj_aload_n dX9_layFaces_5 rfl rfl ?_
  refine zj_getI (ci := 9) (j := 0) dX9_layFaces_6 wf_X9_35 (by decide) (by decide) (yzWk0 hL (by omega) hw) rfl ?_
  refine zj_icmp_gt (tgt := 92) dX9_layFaces_9 (by decide) (fun c => ?_) (fun c => ?_)
  · replace h := h.1 c
    exact zj_vret dX9_layFaces_92 rfl h
  · replace h := h.2 c
    refine zj_iconst (x := 0) dX9_layFaces_12 rfl ?_
    refine zj_istore (ls2 := [.ref w, .int x1, .int x2, .int x3, .int 0]) dX9_layFaces_13 (by decide) rfl rfl ?_
    exact h
theorem yzr_1_3 {nn : Nat} {S : z_Shp} (h : z_Lk nn S) (hn : 1 < nn) : z_r S 1 3 = some 2 := (h.2 1 (by omega)).2.2 3 2 rfl
theorem yzr_19_3 {nn : Nat} {S : z_Shp} (h : z_Lk nn S) (hn : 19 < nn) : z_r S 19 3 = some 20 := (h.2 19 (by omega)).2.2 3 20 rfl
theorem yzWr0_3 {nn : Nat} {S : z_Shp} {w : Nat} (h : z_Lk nn S) (hn : w + 18 ≤ nn) (hw : z_isW w) : z_r S w 3 = some (w + 1) := by
  rcases hw with rfl | rfl
  · exact yzr_1_3 h (by omega)
  · exact yzr_19_3 h (by omega)
theorem yzk_2 {nn : Nat} {S : z_Shp} (h : z_Lk nn S) (hn : 2 < nn) : z_k S 2 = 25 := (h.2 2 (by omega)).1
theorem yzk_20 {nn : Nat} {S : z_Shp} (h : z_Lk nn S) (hn : 20 < nn) : z_k S 20 = 25 := (h.2 20 (by omega)).1
theorem yzWk1 {nn : Nat} {S : z_Shp} {w : Nat} (h : z_Lk nn S) (hn : w + 18 ≤ nn) (hw : z_isW w) : z_k S (w + 1) = 25 := by
  rcases hw with rfl | rfl
  · exact yzk_2 h (by omega)
  · exact yzk_20 h (by omega)
theorem yzl_2 {nn : Nat} {S : z_Shp} (h : z_Lk nn S) (hn : 2 < nn) : z_l S 2 = 2 := (h.2 2 (by omega)).2.1
theorem yzl_20 {nn : Nat} {S : z_Shp} (h : z_Lk nn S) (hn : 20 < nn) : z_l S 20 = 2 := (h.2 20 (by omega)).2.1
theorem yzWl1 {nn : Nat} {S : z_Shp} {w : Nat} (h : z_Lk nn S) (hn : w + 18 ≤ nn) (hw : z_isW w) : z_l S (w + 1) = 2 := by
  rcases hw with rfl | rfl
  · exact yzl_2 h (by omega)
  · exact yzl_20 h (by omega)
theorem yzr_2_0 {nn : Nat} {S : z_Shp} (h : z_Lk nn S) (hn : 2 < nn) : z_r S 2 0 = some 3 := (h.2 2 (by omega)).2.2 0 3 rfl
theorem yzr_20_0 {nn : Nat} {S : z_Shp} (h : z_Lk nn S) (hn : 20 < nn) : z_r S 20 0 = some 21 := (h.2 20 (by omega)).2.2 0 21 rfl
theorem yzWr1_0 {nn : Nat} {S : z_Shp} {w : Nat} (h : z_Lk nn S) (hn : w + 18 ≤ nn) (hw : z_isW w) : z_r S (w + 1) 0 = some (w + 2) := by
  rcases hw with rfl | rfl
  · exact yzr_2_0 h (by omega)
  · exact yzr_20_0 h (by omega)
theorem yzr_2_1 {nn : Nat} {S : z_Shp} (h : z_Lk nn S) (hn : 2 < nn) : z_r S 2 1 = some 4 := (h.2 2 (by omega)).2.2 1 4 rfl
theorem yzr_20_1 {nn : Nat} {S : z_Shp} (h : z_Lk nn S) (hn : 20 < nn) : z_r S 20 1 = some 22 := (h.2 20 (by omega)).2.2 1 22 rfl
theorem yzWr1_1 {nn : Nat} {S : z_Shp} {w : Nat} (h : z_Lk nn S) (hn : w + 18 ≤ nn) (hw : z_isW w) : z_r S (w + 1) 1 = some (w + 3) := by
  rcases hw with rfl | rfl
  · exact yzr_2_1 h (by omega)
  · exact yzr_20_1 h (by omega)
theorem yzWg1r {nn : Nat} {S : z_Shp} {w : Nat} {i : Int32} (h : z_Lk nn S) (hn : w + 18 ≤ nn) (hw : z_isW w) (hi : vp_in i 2) : z_r S (w + 1) i.toNatClampNeg = some (w + 2 + i.toNatClampNeg) := z_2 (P := fun q => z_r S (w + 1) q = some (w + 2 + q)) hi (yzWr1_0 h (by omega) hw) (yzWr1_1 h (by omega) hw)
theorem yzk_3 {nn : Nat} {S : z_Shp} (h : z_Lk nn S) (hn : 3 < nn) : z_k S 3 = 21 := (h.2 3 (by omega)).1
theorem yzk_21 {nn : Nat} {S : z_Shp} (h : z_Lk nn S) (hn : 21 < nn) : z_k S 21 = 21 := (h.2 21 (by omega)).1
theorem yzWk2 {nn : Nat} {S : z_Shp} {w : Nat} (h : z_Lk nn S) (hn : w + 18 ≤ nn) (hw : z_isW w) : z_k S (w + 2) = 21 := by
  rcases hw with rfl | rfl
  · exact yzk_3 h (by omega)
  · exact yzk_21 h (by omega)
theorem yzk_4 {nn : Nat} {S : z_Shp} (h : z_Lk nn S) (hn : 4 < nn) : z_k S 4 = 21 := (h.2 4 (by omega)).1
theorem yzk_22 {nn : Nat} {S : z_Shp} (h : z_Lk nn S) (hn : 22 < nn) : z_k S 22 = 21 := (h.2 22 (by omega)).1
theorem yzWk3 {nn : Nat} {S : z_Shp} {w : Nat} (h : z_Lk nn S) (hn : w + 18 ≤ nn) (hw : z_isW w) : z_k S (w + 3) = 21 := by
  rcases hw with rfl | rfl
  · exact yzk_4 h (by omega)
  · exact yzk_22 h (by omega)
theorem yzWg1k {nn : Nat} {S : z_Shp} {w : Nat} {i : Int32} (h : z_Lk nn S) (hn : w + 18 ≤ nn) (hw : z_isW w) (hi : vp_in i 2) : z_k S (w + 2 + i.toNatClampNeg) = 21 := z_2 (P := fun q => z_k S (w + 2 + q) = 21) hi (yzWk2 h (by omega) hw) (yzWk3 h (by omega) hw)
theorem yzl_3 {nn : Nat} {S : z_Shp} (h : z_Lk nn S) (hn : 3 < nn) : z_l S 3 = 12 := (h.2 3 (by omega)).2.1
theorem yzl_21 {nn : Nat} {S : z_Shp} (h : z_Lk nn S) (hn : 21 < nn) : z_l S 21 = 12 := (h.2 21 (by omega)).2.1
theorem yzWl2 {nn : Nat} {S : z_Shp} {w : Nat} (h : z_Lk nn S) (hn : w + 18 ≤ nn) (hw : z_isW w) : z_l S (w + 2) = 12 := by
  rcases hw with rfl | rfl
  · exact yzl_3 h (by omega)
  · exact yzl_21 h (by omega)
theorem yzl_4 {nn : Nat} {S : z_Shp} (h : z_Lk nn S) (hn : 4 < nn) : z_l S 4 = 12 := (h.2 4 (by omega)).2.1
theorem yzl_22 {nn : Nat} {S : z_Shp} (h : z_Lk nn S) (hn : 22 < nn) : z_l S 22 = 12 := (h.2 22 (by omega)).2.1
theorem yzWl3 {nn : Nat} {S : z_Shp} {w : Nat} (h : z_Lk nn S) (hn : w + 18 ≤ nn) (hw : z_isW w) : z_l S (w + 3) = 12 := by
  rcases hw with rfl | rfl
  · exact yzl_4 h (by omega)
  · exact yzl_22 h (by omega)
theorem yzWg1l {nn : Nat} {S : z_Shp} {w : Nat} {i : Int32} (h : z_Lk nn S) (hn : w + 18 ≤ nn) (hw : z_isW w) (hi : vp_in i 2) : z_l S (w + 2 + i.toNatClampNeg) = 12 := z_2 (P := fun q => z_l S (w + 2 + q) = 12) hi (yzWl2 h (by omega) hw) (yzWl3 h (by omega) hw)
theorem yzr_1_4 {nn : Nat} {S : z_Shp} (h : z_Lk nn S) (hn : 1 < nn) : z_r S 1 4 = some 5 := (h.2 1 (by omega)).2.2 4 5 rfl
theorem yzr_19_4 {nn : Nat} {S : z_Shp} (h : z_Lk nn S) (hn : 19 < nn) : z_r S 19 4 = some 23 := (h.2 19 (by omega)).2.2 4 23 rfl
theorem yzWr0_4 {nn : Nat} {S : z_Shp} {w : Nat} (h : z_Lk nn S) (hn : w + 18 ≤ nn) (hw : z_isW w) : z_r S w 4 = some (w + 4) := by
  rcases hw with rfl | rfl
  · exact yzr_1_4 h (by omega)
  · exact yzr_19_4 h (by omega)
theorem yzk_5 {nn : Nat} {S : z_Shp} (h : z_Lk nn S) (hn : 5 < nn) : z_k S 5 = 25 := (h.2 5 (by omega)).1
theorem yzk_23 {nn : Nat} {S : z_Shp} (h : z_Lk nn S) (hn : 23 < nn) : z_k S 23 = 25 := (h.2 23 (by omega)).1
theorem yzWk4 {nn : Nat} {S : z_Shp} {w : Nat} (h : z_Lk nn S) (hn : w + 18 ≤ nn) (hw : z_isW w) : z_k S (w + 4) = 25 := by
  rcases hw with rfl | rfl
  · exact yzk_5 h (by omega)
  · exact yzk_23 h (by omega)
theorem yzl_5 {nn : Nat} {S : z_Shp} (h : z_Lk nn S) (hn : 5 < nn) : z_l S 5 = 2 := (h.2 5 (by omega)).2.1
theorem yzl_23 {nn : Nat} {S : z_Shp} (h : z_Lk nn S) (hn : 23 < nn) : z_l S 23 = 2 := (h.2 23 (by omega)).2.1
theorem yzWl4 {nn : Nat} {S : z_Shp} {w : Nat} (h : z_Lk nn S) (hn : w + 18 ≤ nn) (hw : z_isW w) : z_l S (w + 4) = 2 := by
  rcases hw with rfl | rfl
  · exact yzl_5 h (by omega)
  · exact yzl_23 h (by omega)
theorem yzr_5_0 {nn : Nat} {S : z_Shp} (h : z_Lk nn S) (hn : 5 < nn) : z_r S 5 0 = some 6 := (h.2 5 (by omega)).2.2 0 6 rfl
theorem yzr_23_0 {nn : Nat} {S : z_Shp} (h : z_Lk nn S) (hn : 23 < nn) : z_r S 23 0 = some 24 := (h.2 23 (by omega)).2.2 0 24 rfl
theorem yzWr4_0 {nn : Nat} {S : z_Shp} {w : Nat} (h : z_Lk nn S) (hn : w + 18 ≤ nn) (hw : z_isW w) : z_r S (w + 4) 0 = some (w + 5) := by
  rcases hw with rfl | rfl
  · exact yzr_5_0 h (by omega)
  · exact yzr_23_0 h (by omega)
theorem yzr_5_1 {nn : Nat} {S : z_Shp} (h : z_Lk nn S) (hn : 5 < nn) : z_r S 5 1 = some 7 := (h.2 5 (by omega)).2.2 1 7 rfl
theorem yzr_23_1 {nn : Nat} {S : z_Shp} (h : z_Lk nn S) (hn : 23 < nn) : z_r S 23 1 = some 25 := (h.2 23 (by omega)).2.2 1 25 rfl
theorem yzWr4_1 {nn : Nat} {S : z_Shp} {w : Nat} (h : z_Lk nn S) (hn : w + 18 ≤ nn) (hw : z_isW w) : z_r S (w + 4) 1 = some (w + 6) := by
  rcases hw with rfl | rfl
  · exact yzr_5_1 h (by omega)
  · exact yzr_23_1 h (by omega)
theorem yzWg4r {nn : Nat} {S : z_Shp} {w : Nat} {i : Int32} (h : z_Lk nn S) (hn : w + 18 ≤ nn) (hw : z_isW w) (hi : vp_in i 2) : z_r S (w + 4) i.toNatClampNeg = some (w + 5 + i.toNatClampNeg) := z_2 (P := fun q => z_r S (w + 4) q = some (w + 5 + q)) hi (yzWr4_0 h (by omega) hw) (yzWr4_1 h (by omega) hw)
theorem yzk_6 {nn : Nat} {S : z_Shp} (h : z_Lk nn S) (hn : 6 < nn) : z_k S 6 = 21 := (h.2 6 (by omega)).1
theorem yzk_24 {nn : Nat} {S : z_Shp} (h : z_Lk nn S) (hn : 24 < nn) : z_k S 24 = 21 := (h.2 24 (by omega)).1
theorem yzWk5 {nn : Nat} {S : z_Shp} {w : Nat} (h : z_Lk nn S) (hn : w + 18 ≤ nn) (hw : z_isW w) : z_k S (w + 5) = 21 := by
  rcases hw with rfl | rfl
  · exact yzk_6 h (by omega)
  · exact yzk_24 h (by omega)
theorem yzk_7 {nn : Nat} {S : z_Shp} (h : z_Lk nn S) (hn : 7 < nn) : z_k S 7 = 21 := (h.2 7 (by omega)).1
theorem yzk_25 {nn : Nat} {S : z_Shp} (h : z_Lk nn S) (hn : 25 < nn) : z_k S 25 = 21 := (h.2 25 (by omega)).1
theorem yzWk6 {nn : Nat} {S : z_Shp} {w : Nat} (h : z_Lk nn S) (hn : w + 18 ≤ nn) (hw : z_isW w) : z_k S (w + 6) = 21 := by
  rcases hw with rfl | rfl
  · exact yzk_7 h (by omega)
  · exact yzk_25 h (by omega)
theorem yzWg4k {nn : Nat} {S : z_Shp} {w : Nat} {i : Int32} (h : z_Lk nn S) (hn : w + 18 ≤ nn) (hw : z_isW w) (hi : vp_in i 2) : z_k S (w + 5 + i.toNatClampNeg) = 21 := z_2 (P := fun q => z_k S (w + 5 + q) = 21) hi (yzWk5 h (by omega) hw) (yzWk6 h (by omega) hw)
theorem yzl_6 {nn : Nat} {S : z_Shp} (h : z_Lk nn S) (hn : 6 < nn) : z_l S 6 = 12 := (h.2 6 (by omega)).2.1
theorem yzl_24 {nn : Nat} {S : z_Shp} (h : z_Lk nn S) (hn : 24 < nn) : z_l S 24 = 12 := (h.2 24 (by omega)).2.1
theorem yzWl5 {nn : Nat} {S : z_Shp} {w : Nat} (h : z_Lk nn S) (hn : w + 18 ≤ nn) (hw : z_isW w) : z_l S (w + 5) = 12 := by
  rcases hw with rfl | rfl
  · exact yzl_6 h (by omega)
  · exact yzl_24 h (by omega)
theorem yzl_7 {nn : Nat} {S : z_Shp} (h : z_Lk nn S) (hn : 7 < nn) : z_l S 7 = 12 := (h.2 7 (by omega)).2.1
theorem yzl_25 {nn : Nat} {S : z_Shp} (h : z_Lk nn S) (hn : 25 < nn) : z_l S 25 = 12 := (h.2 25 (by omega)).2.1
theorem yzWl6 {nn : Nat} {S : z_Shp} {w : Nat} (h : z_Lk nn S) (hn : w + 18 ≤ nn) (hw : z_isW w) : z_l S (w + 6) = 12 := by
  rcases hw with rfl | rfl
  · exact yzl_7 h (by omega)
  · exact yzl_25 h (by omega)
theorem yzWg4l {nn : Nat} {S : z_Shp} {w : Nat} {i : Int32} (h : z_Lk nn S) (hn : w + 18 ≤ nn) (hw : z_isW w) (hi : vp_in i 2) : z_l S (w + 5 + i.toNatClampNeg) = 12 := z_2 (P := fun q => z_l S (w + 5 + q) = 12) hi (yzWl5 h (by omega) hw) (yzWl6 h (by omega) hw)
theorem ysg_X9_layFaces_15 {nn : Nat} {G : z_G} {d : Nat} {S : z_Shp} {v : z_Dat} {Q : Option Value → z_Shp → z_Dat → Prop} {x1 : Int32} {x2 : Int32} {x3 : Int32} {x4 : Int32} {w : Nat} (hL : z_Lk nn S) (hn : w + 18 ≤ nn) (hw : z_isW w)
    (h : ((v w 0) < x4 → (z_J G (d + 1) mX9_layFaces (4, [.ref w, .int x1, .int x2, .int (x3 + 1), .null], [], S, v) Q)) ∧ (¬ (v w 0) < x4 → (z_J G d mX9_kindAt (0, [.ref w, .int x3, .int x4, .null, .null, .null], [], S, v) (fun r S1 v1 => ∃ y1 : Int32, r = some (.int y1) ∧ S1 = S ∧ ((¬ y1 = x1 → (z_J G (d + 1) mX9_layFaces (15, [.ref w, .int x1, .int x2, .int x3, .int (x4 + 1)], [], S, v1) Q)) ∧ (y1 = x1 → (((v1 w 2) ≤ x2 → (z_J G (d + 1) mX9_layFaces (15, [.ref w, .int x1, .int x2, .int x3, .int (x4 + 1)], [], S, v1) Q)) ∧ (¬ (v1 w 2) ≤ x2 → ((vp_in x1 2) ∧ (vp_in x2 12 ∧ (∀ v2, v2 = z_u v1 (w + 2 + x1.toNatClampNeg) x2.toNatClampNeg x3 → ((vp_in x1 2) ∧ (vp_in x2 12 ∧ (∀ v3, v3 = z_u v2 (w + 5 + x1.toNatClampNeg) x2.toNatClampNeg x4 → ((vp_in x1 2) ∧ (z_J G d mX9_bitsAt (0, [.ref w, .int x3, .int x4, .null, .null, .null], [], S, v3) (fun r S1 v4 => ∃ y2 : Int32, r = some (.int y2) ∧ S1 = S ∧ (vp_in x2 12 ∧ (∀ v5, v5 = z_u v4 (w + 8 + x1.toNatClampNeg) x2.toNatClampNeg y2 → (z_J G (d + 1) mX9_layFaces (15, [.ref w, .int x1, .int (x2 + 1), .int x3, .int (x4 + 1)], [], S, v5) Q)))))))))))))))))))) :
    z_J G (d + 1) mX9_layFaces (15, [.ref w, .int x1, .int x2, .int x3, .int x4], [], S, v) Q := by
  refine zj_iload dX9_layFaces_15 rfl ?_
  refine zj_aload_n dX9_layFaces_17 rfl rfl ?_
  refine zj_getI (ci := 9) (j := 0) dX9_layFaces_18 wf_X9_35 (by decide) (by decide) (yzWk0 hL (by omega) hw) rfl ?_
  refine zj_icmp_gt (tgt := 86) dX9_layFaces_21 (by decide) (fun c => ?_) (fun c => ?_)
  · replace h := h.1 c
    refine zj_iinc (y := x3 + 1) (ls2 := [.ref w, .int x1, .int x2, .int (x3 + 1), .int x4]) dX9_layFaces_86 rfl rfl (by decide) rfl rfl ?_
    refine zj_goto (tgt := 4) dX9_layFaces_89 (by decide) ?_
    refine zj_forget (ls2 := [.ref w, .int x1, .int x2, .int (x3 + 1), .null]) ⟨Or.inr rfl, Or.inr rfl, Or.inr rfl, Or.inr rfl, Or.inl rfl, trivial⟩ ?_
    exact h
  · replace h := h.2 c
    refine zj_aload_n dX9_layFaces_24 rfl rfl ?_
    refine zj_iload_n dX9_layFaces_25 rfl rfl ?_
    refine zj_iload dX9_layFaces_26 rfl ?_
    refine zj_callV (M' := mX9_kindAt) (avs := [.int x3, .int x4]) (st := []) (ci := 9) dX9_layFaces_28 wm_X9_kindAt wl_X9_55 wi_X9_kindAt ws_X9_kindAt (by decide) (yzWk0 hL (by omega) hw) rfl rfl (by decide) rfl (Nat.le_of_ble_eq_true rfl) (Nat.le_of_ble_eq_true rfl) ⟨Or.inl (z_k0 (yzWk0 hL (by omega) hw)), trivial⟩ trivial (z_J.mono h (fun r S1 v1 hq => ?_))
    obtain ⟨y1, rfl, rfl, h⟩ := hq
    refine zj_iload_n dX9_layFaces_31 rfl rfl ?_
    refine zj_icmp_ne (tgt := 80) dX9_layFaces_32 (by decide) (fun c => ?_) (fun c => ?_)
    · replace h := h.1 c
      refine zj_iinc (y := x4 + 1) (ls2 := [.ref w, .int x1, .int x2, .int x3, .int (x4 + 1)]) dX9_layFaces_80 rfl rfl (by decide) rfl rfl ?_
      refine zj_goto (tgt := 15) dX9_layFaces_83 (by decide) ?_
      exact h
    · replace h := h.2 c
      refine zj_iload_n dX9_layFaces_35 rfl rfl ?_
      refine zj_aload_n dX9_layFaces_36 rfl rfl ?_
      refine zj_getI (ci := 9) (j := 2) dX9_layFaces_37 wf_X9_42 (by decide) (by decide) (yzWk0 hL (by omega) hw) rfl ?_
      refine zj_icmp_ge (tgt := 80) dX9_layFaces_40 (by decide) (fun c => ?_) (fun c => ?_)
      · replace h := h.1 c
        refine zj_iinc (y := x4 + 1) (ls2 := [.ref w, .int x1, .int x2, .int x3, .int (x4 + 1)]) dX9_layFaces_80 rfl rfl (by decide) rfl rfl ?_
        refine zj_goto (tgt := 15) dX9_layFaces_83 (by decide) ?_
        exact h
      · replace h := h.2 c
        refine zj_aload_n dX9_layFaces_43 rfl rfl ?_
        refine zj_getR (ci := 9) (j := 3) dX9_layFaces_44 wf_X9_11 (by decide) (by decide) (yzWk0 hL (by omega) hw) rfl (yzWr0_3 hL (by omega) hw) ?_
        refine zj_iload_n dX9_layFaces_47 rfl rfl ?_
        obtain ⟨hi1, h⟩ := h
        refine zj_aaload0 dX9_layFaces_48 (yzWk1 hL (by omega) hw) (by rw [(yzWl1 hL (by omega) hw)]; exact hi1) (yzWg1r hL (by omega) hw hi1) ?_
        refine zj_iload_n dX9_layFaces_49 rfl rfl ?_
        refine zj_iload_n dX9_layFaces_50 rfl rfl ?_
        refine zj_iastore dX9_layFaces_51 (yzWg1k hL (by omega) hw hi1) (by rw [(yzWg1l hL (by omega) hw hi1)]; exact h.1) (fun v2 ev2 => ?_)
        replace h := h.2 v2 ev2
        refine zj_aload_n dX9_layFaces_52 rfl rfl ?_
        refine zj_getR (ci := 9) (j := 4) dX9_layFaces_53 wf_X9_16 (by decide) (by decide) (yzWk0 hL (by omega) hw) rfl (yzWr0_4 hL (by omega) hw) ?_
        refine zj_iload_n dX9_layFaces_56 rfl rfl ?_
        obtain ⟨hi2, h⟩ := h
        refine zj_aaload0 dX9_layFaces_57 (yzWk4 hL (by omega) hw) (by rw [(yzWl4 hL (by omega) hw)]; exact hi2) (yzWg4r hL (by omega) hw hi2) ?_
        refine zj_iload_n dX9_layFaces_58 rfl rfl ?_
        refine zj_iload dX9_layFaces_59 rfl ?_
        refine zj_iastore dX9_layFaces_61 (yzWg4k hL (by omega) hw hi2) (by rw [(yzWg4l hL (by omega) hw hi2)]; exact h.1) (fun v3 ev3 => ?_)
        replace h := h.2 v3 ev3
        refine zj_aload_n dX9_layFaces_62 rfl rfl ?_
        refine zj_getR (ci := 9) (j := 5) dX9_layFaces_63 wf_X9_19 (by decide) (by decide) (yzWk0 hL (by omega) hw) rfl (yzWr0_5 hL (by omega) hw) ?_
        refine zj_iload_n dX9_layFaces_66 rfl rfl ?_
        obtain ⟨hi3, h⟩ := h
        refine zj_aaload0 dX9_layFaces_67 (yzWk7 hL (by omega) hw) (by rw [(yzWl7 hL (by omega) hw)]; exact hi3) (yzWg7r hL (by omega) hw hi3) ?_
        refine zj_iload_n dX9_layFaces_68 rfl rfl ?_
        refine zj_aload_n dX9_layFaces_69 rfl rfl ?_
        refine zj_iload_n dX9_layFaces_70 rfl rfl ?_
        refine zj_iload dX9_layFaces_71 rfl ?_
        refine zj_callV (M' := mX9_bitsAt) (avs := [.int x3, .int x4]) (st := [.int x2, .ref (w + 8 + x1.toNatClampNeg)]) (ci := 9) dX9_layFaces_73 wm_X9_bitsAt wl_X9_59 wi_X9_bitsAt ws_X9_bitsAt (by decide) (yzWk0 hL (by omega) hw) rfl rfl (by decide) rfl (Nat.le_of_ble_eq_true rfl) (Nat.le_of_ble_eq_true rfl) ⟨Or.inl (z_k0 (yzWk0 hL (by omega) hw)), trivial⟩ ⟨Or.inl (z_k0 (yzWg7k hL (by omega) hw hi3)), trivial⟩ (z_J.mono h (fun r S1 v4 hq => ?_))
        obtain ⟨y2, rfl, rfl, h⟩ := hq
        refine zj_iastore dX9_layFaces_76 (yzWg7k hL (by omega) hw hi3) (by rw [(yzWg7l hL (by omega) hw hi3)]; exact h.1) (fun v5 ev5 => ?_)
        replace h := h.2 v5 ev5
        refine zj_iinc (y := x2 + 1) (ls2 := [.ref w, .int x1, .int (x2 + 1), .int x3, .int x4]) dX9_layFaces_77 rfl rfl (by decide) rfl rfl ?_
        refine zj_iinc (y := x4 + 1) (ls2 := [.ref w, .int x1, .int (x2 + 1), .int x3, .int (x4 + 1)]) dX9_layFaces_80 rfl rfl (by decide) rfl rfl ?_
        refine zj_goto (tgt := 15) dX9_layFaces_83 (by decide) ?_
        exact h
theorem yzr_1_6 {nn : Nat} {S : z_Shp} (h : z_Lk nn S) (hn : 1 < nn) : z_r S 1 6 = some 11 := (h.2 1 (by omega)).2.2 6 11 rfl
theorem yzr_19_6 {nn : Nat} {S : z_Shp} (h : z_Lk nn S) (hn : 19 < nn) : z_r S 19 6 = some 29 := (h.2 19 (by omega)).2.2 6 29 rfl
theorem yzWr0_6 {nn : Nat} {S : z_Shp} {w : Nat} (h : z_Lk nn S) (hn : w + 18 ≤ nn) (hw : z_isW w) : z_r S w 6 = some (w + 10) := by
  rcases hw with rfl | rfl
  · exact yzr_1_6 h (by omega)
  · exact yzr_19_6 h (by omega)
theorem yzk_11 {nn : Nat} {S : z_Shp} (h : z_Lk nn S) (hn : 11 < nn) : z_k S 11 = 25 := (h.2 11 (by omega)).1
theorem yzk_29 {nn : Nat} {S : z_Shp} (h : z_Lk nn S) (hn : 29 < nn) : z_k S 29 = 25 := (h.2 29 (by omega)).1
theorem yzWk10 {nn : Nat} {S : z_Shp} {w : Nat} (h : z_Lk nn S) (hn : w + 18 ≤ nn) (hw : z_isW w) : z_k S (w + 10) = 25 := by
  rcases hw with rfl | rfl
  · exact yzk_11 h (by omega)
  · exact yzk_29 h (by omega)
theorem yzl_11 {nn : Nat} {S : z_Shp} (h : z_Lk nn S) (hn : 11 < nn) : z_l S 11 = 2 := (h.2 11 (by omega)).2.1
theorem yzl_29 {nn : Nat} {S : z_Shp} (h : z_Lk nn S) (hn : 29 < nn) : z_l S 29 = 2 := (h.2 29 (by omega)).2.1
theorem yzWl10 {nn : Nat} {S : z_Shp} {w : Nat} (h : z_Lk nn S) (hn : w + 18 ≤ nn) (hw : z_isW w) : z_l S (w + 10) = 2 := by
  rcases hw with rfl | rfl
  · exact yzl_11 h (by omega)
  · exact yzl_29 h (by omega)
theorem yzr_11_0 {nn : Nat} {S : z_Shp} (h : z_Lk nn S) (hn : 11 < nn) : z_r S 11 0 = some 12 := (h.2 11 (by omega)).2.2 0 12 rfl
theorem yzr_29_0 {nn : Nat} {S : z_Shp} (h : z_Lk nn S) (hn : 29 < nn) : z_r S 29 0 = some 30 := (h.2 29 (by omega)).2.2 0 30 rfl
theorem yzWr10_0 {nn : Nat} {S : z_Shp} {w : Nat} (h : z_Lk nn S) (hn : w + 18 ≤ nn) (hw : z_isW w) : z_r S (w + 10) 0 = some (w + 11) := by
  rcases hw with rfl | rfl
  · exact yzr_11_0 h (by omega)
  · exact yzr_29_0 h (by omega)
theorem yzr_11_1 {nn : Nat} {S : z_Shp} (h : z_Lk nn S) (hn : 11 < nn) : z_r S 11 1 = some 13 := (h.2 11 (by omega)).2.2 1 13 rfl
theorem yzr_29_1 {nn : Nat} {S : z_Shp} (h : z_Lk nn S) (hn : 29 < nn) : z_r S 29 1 = some 31 := (h.2 29 (by omega)).2.2 1 31 rfl
theorem yzWr10_1 {nn : Nat} {S : z_Shp} {w : Nat} (h : z_Lk nn S) (hn : w + 18 ≤ nn) (hw : z_isW w) : z_r S (w + 10) 1 = some (w + 12) := by
  rcases hw with rfl | rfl
  · exact yzr_11_1 h (by omega)
  · exact yzr_29_1 h (by omega)
theorem yzWg10r {nn : Nat} {S : z_Shp} {w : Nat} {i : Int32} (h : z_Lk nn S) (hn : w + 18 ≤ nn) (hw : z_isW w) (hi : vp_in i 2) : z_r S (w + 10) i.toNatClampNeg = some (w + 11 + i.toNatClampNeg) := z_2 (P := fun q => z_r S (w + 10) q = some (w + 11 + q)) hi (yzWr10_0 h (by omega) hw) (yzWr10_1 h (by omega) hw)
theorem yzk_12 {nn : Nat} {S : z_Shp} (h : z_Lk nn S) (hn : 12 < nn) : z_k S 12 = 21 := (h.2 12 (by omega)).1
theorem yzk_30 {nn : Nat} {S : z_Shp} (h : z_Lk nn S) (hn : 30 < nn) : z_k S 30 = 21 := (h.2 30 (by omega)).1
theorem yzWk11 {nn : Nat} {S : z_Shp} {w : Nat} (h : z_Lk nn S) (hn : w + 18 ≤ nn) (hw : z_isW w) : z_k S (w + 11) = 21 := by
  rcases hw with rfl | rfl
  · exact yzk_12 h (by omega)
  · exact yzk_30 h (by omega)
theorem yzk_13 {nn : Nat} {S : z_Shp} (h : z_Lk nn S) (hn : 13 < nn) : z_k S 13 = 21 := (h.2 13 (by omega)).1
theorem yzk_31 {nn : Nat} {S : z_Shp} (h : z_Lk nn S) (hn : 31 < nn) : z_k S 31 = 21 := (h.2 31 (by omega)).1
theorem yzWk12 {nn : Nat} {S : z_Shp} {w : Nat} (h : z_Lk nn S) (hn : w + 18 ≤ nn) (hw : z_isW w) : z_k S (w + 12) = 21 := by
  rcases hw with rfl | rfl
  · exact yzk_13 h (by omega)
  · exact yzk_31 h (by omega)
theorem yzWg10k {nn : Nat} {S : z_Shp} {w : Nat} {i : Int32} (h : z_Lk nn S) (hn : w + 18 ≤ nn) (hw : z_isW w) (hi : vp_in i 2) : z_k S (w + 11 + i.toNatClampNeg) = 21 := z_2 (P := fun q => z_k S (w + 11 + q) = 21) hi (yzWk11 h (by omega) hw) (yzWk12 h (by omega) hw)
theorem yzl_12 {nn : Nat} {S : z_Shp} (h : z_Lk nn S) (hn : 12 < nn) : z_l S 12 = 25 := (h.2 12 (by omega)).2.1
theorem yzl_30 {nn : Nat} {S : z_Shp} (h : z_Lk nn S) (hn : 30 < nn) : z_l S 30 = 25 := (h.2 30 (by omega)).2.1
theorem yzWl11 {nn : Nat} {S : z_Shp} {w : Nat} (h : z_Lk nn S) (hn : w + 18 ≤ nn) (hw : z_isW w) : z_l S (w + 11) = 25 := by
  rcases hw with rfl | rfl
  · exact yzl_12 h (by omega)
  · exact yzl_30 h (by omega)
theorem yzl_13 {nn : Nat} {S : z_Shp} (h : z_Lk nn S) (hn : 13 < nn) : z_l S 13 = 25 := (h.2 13 (by omega)).2.1
theorem yzl_31 {nn : Nat} {S : z_Shp} (h : z_Lk nn S) (hn : 31 < nn) : z_l S 31 = 25 := (h.2 31 (by omega)).2.1
theorem yzWl12 {nn : Nat} {S : z_Shp} {w : Nat} (h : z_Lk nn S) (hn : w + 18 ≤ nn) (hw : z_isW w) : z_l S (w + 12) = 25 := by
  rcases hw with rfl | rfl
  · exact yzl_13 h (by omega)
  · exact yzl_31 h (by omega)
theorem yzWg10l {nn : Nat} {S : z_Shp} {w : Nat} {i : Int32} (h : z_Lk nn S) (hn : w + 18 ≤ nn) (hw : z_isW w) (hi : vp_in i 2) : z_l S (w + 11 + i.toNatClampNeg) = 25 := z_2 (P := fun q => z_l S (w + 11 + q) = 25) hi (yzWl11 h (by omega) hw) (yzWl12 h (by omega) hw)
theorem yzr_1_7 {nn : Nat} {S : z_Shp} (h : z_Lk nn S) (hn : 1 < nn) : z_r S 1 7 = some 14 := (h.2 1 (by omega)).2.2 7 14 rfl
theorem yzr_19_7 {nn : Nat} {S : z_Shp} (h : z_Lk nn S) (hn : 19 < nn) : z_r S 19 7 = some 32 := (h.2 19 (by omega)).2.2 7 32 rfl
theorem yzWr0_7 {nn : Nat} {S : z_Shp} {w : Nat} (h : z_Lk nn S) (hn : w + 18 ≤ nn) (hw : z_isW w) : z_r S w 7 = some (w + 13) := by
  rcases hw with rfl | rfl
  · exact yzr_1_7 h (by omega)
  · exact yzr_19_7 h (by omega)
theorem yzk_14 {nn : Nat} {S : z_Shp} (h : z_Lk nn S) (hn : 14 < nn) : z_k S 14 = 25 := (h.2 14 (by omega)).1
theorem yzk_32 {nn : Nat} {S : z_Shp} (h : z_Lk nn S) (hn : 32 < nn) : z_k S 32 = 25 := (h.2 32 (by omega)).1
theorem yzWk13 {nn : Nat} {S : z_Shp} {w : Nat} (h : z_Lk nn S) (hn : w + 18 ≤ nn) (hw : z_isW w) : z_k S (w + 13) = 25 := by
  rcases hw with rfl | rfl
  · exact yzk_14 h (by omega)
  · exact yzk_32 h (by omega)
theorem yzl_14 {nn : Nat} {S : z_Shp} (h : z_Lk nn S) (hn : 14 < nn) : z_l S 14 = 2 := (h.2 14 (by omega)).2.1
theorem yzl_32 {nn : Nat} {S : z_Shp} (h : z_Lk nn S) (hn : 32 < nn) : z_l S 32 = 2 := (h.2 32 (by omega)).2.1
theorem yzWl13 {nn : Nat} {S : z_Shp} {w : Nat} (h : z_Lk nn S) (hn : w + 18 ≤ nn) (hw : z_isW w) : z_l S (w + 13) = 2 := by
  rcases hw with rfl | rfl
  · exact yzl_14 h (by omega)
  · exact yzl_32 h (by omega)
theorem yzr_14_0 {nn : Nat} {S : z_Shp} (h : z_Lk nn S) (hn : 14 < nn) : z_r S 14 0 = some 15 := (h.2 14 (by omega)).2.2 0 15 rfl
theorem yzr_32_0 {nn : Nat} {S : z_Shp} (h : z_Lk nn S) (hn : 32 < nn) : z_r S 32 0 = some 33 := (h.2 32 (by omega)).2.2 0 33 rfl
theorem yzWr13_0 {nn : Nat} {S : z_Shp} {w : Nat} (h : z_Lk nn S) (hn : w + 18 ≤ nn) (hw : z_isW w) : z_r S (w + 13) 0 = some (w + 14) := by
  rcases hw with rfl | rfl
  · exact yzr_14_0 h (by omega)
  · exact yzr_32_0 h (by omega)
theorem yzr_14_1 {nn : Nat} {S : z_Shp} (h : z_Lk nn S) (hn : 14 < nn) : z_r S 14 1 = some 16 := (h.2 14 (by omega)).2.2 1 16 rfl
theorem yzr_32_1 {nn : Nat} {S : z_Shp} (h : z_Lk nn S) (hn : 32 < nn) : z_r S 32 1 = some 34 := (h.2 32 (by omega)).2.2 1 34 rfl
theorem yzWr13_1 {nn : Nat} {S : z_Shp} {w : Nat} (h : z_Lk nn S) (hn : w + 18 ≤ nn) (hw : z_isW w) : z_r S (w + 13) 1 = some (w + 15) := by
  rcases hw with rfl | rfl
  · exact yzr_14_1 h (by omega)
  · exact yzr_32_1 h (by omega)
theorem yzWg13r {nn : Nat} {S : z_Shp} {w : Nat} {i : Int32} (h : z_Lk nn S) (hn : w + 18 ≤ nn) (hw : z_isW w) (hi : vp_in i 2) : z_r S (w + 13) i.toNatClampNeg = some (w + 14 + i.toNatClampNeg) := z_2 (P := fun q => z_r S (w + 13) q = some (w + 14 + q)) hi (yzWr13_0 h (by omega) hw) (yzWr13_1 h (by omega) hw)
theorem yzk_15 {nn : Nat} {S : z_Shp} (h : z_Lk nn S) (hn : 15 < nn) : z_k S 15 = 21 := (h.2 15 (by omega)).1
theorem yzk_33 {nn : Nat} {S : z_Shp} (h : z_Lk nn S) (hn : 33 < nn) : z_k S 33 = 21 := (h.2 33 (by omega)).1
theorem yzWk14 {nn : Nat} {S : z_Shp} {w : Nat} (h : z_Lk nn S) (hn : w + 18 ≤ nn) (hw : z_isW w) : z_k S (w + 14) = 21 := by
  rcases hw with rfl | rfl
  · exact yzk_15 h (by omega)
  · exact yzk_33 h (by omega)
theorem yzk_16 {nn : Nat} {S : z_Shp} (h : z_Lk nn S) (hn : 16 < nn) : z_k S 16 = 21 := (h.2 16 (by omega)).1
theorem yzk_34 {nn : Nat} {S : z_Shp} (h : z_Lk nn S) (hn : 34 < nn) : z_k S 34 = 21 := (h.2 34 (by omega)).1
theorem yzWk15 {nn : Nat} {S : z_Shp} {w : Nat} (h : z_Lk nn S) (hn : w + 18 ≤ nn) (hw : z_isW w) : z_k S (w + 15) = 21 := by
  rcases hw with rfl | rfl
  · exact yzk_16 h (by omega)
  · exact yzk_34 h (by omega)
theorem yzWg13k {nn : Nat} {S : z_Shp} {w : Nat} {i : Int32} (h : z_Lk nn S) (hn : w + 18 ≤ nn) (hw : z_isW w) (hi : vp_in i 2) : z_k S (w + 14 + i.toNatClampNeg) = 21 := z_2 (P := fun q => z_k S (w + 14 + q) = 21) hi (yzWk14 h (by omega) hw) (yzWk15 h (by omega) hw)
theorem yzl_15 {nn : Nat} {S : z_Shp} (h : z_Lk nn S) (hn : 15 < nn) : z_l S 15 = 25 := (h.2 15 (by omega)).2.1
theorem yzl_33 {nn : Nat} {S : z_Shp} (h : z_Lk nn S) (hn : 33 < nn) : z_l S 33 = 25 := (h.2 33 (by omega)).2.1
theorem yzWl14 {nn : Nat} {S : z_Shp} {w : Nat} (h : z_Lk nn S) (hn : w + 18 ≤ nn) (hw : z_isW w) : z_l S (w + 14) = 25 := by
  rcases hw with rfl | rfl
  · exact yzl_15 h (by omega)
  · exact yzl_33 h (by omega)
theorem yzl_16 {nn : Nat} {S : z_Shp} (h : z_Lk nn S) (hn : 16 < nn) : z_l S 16 = 25 := (h.2 16 (by omega)).2.1
theorem yzl_34 {nn : Nat} {S : z_Shp} (h : z_Lk nn S) (hn : 34 < nn) : z_l S 34 = 25 := (h.2 34 (by omega)).2.1
theorem yzWl15 {nn : Nat} {S : z_Shp} {w : Nat} (h : z_Lk nn S) (hn : w + 18 ≤ nn) (hw : z_isW w) : z_l S (w + 15) = 25 := by
  rcases hw with rfl | rfl
  · exact yzl_16 h (by omega)
  · exact yzl_34 h (by omega)
theorem yzWg13l {nn : Nat} {S : z_Shp} {w : Nat} {i : Int32} (h : z_Lk nn S) (hn : w + 18 ≤ nn) (hw : z_isW w) (hi : vp_in i 2) : z_l S (w + 14 + i.toNatClampNeg) = 25 := z_2 (P := fun q => z_l S (w + 14 + q) = 25) hi (yzWl14 h (by omega) hw) (yzWl15 h (by omega) hw)
theorem ysg_X9_layQubits_2 {nn : Nat} {G : z_G} {d : Nat} {S : z_Shp} {v : z_Dat} {Q : Option Value → z_Shp → z_Dat → Prop} {x1 : Int32} {x2 : Int32} {w : Nat} (hL : z_Lk nn S) (hn : w + 18 ≤ nn) (hw : z_isW w)
    (h : ((v w 1) ≤ x2 → (Q none S v)) ∧ (¬ (v w 1) ≤ x2 → (z_J G d mX9_checksOn (0, [.ref w, .int x1, .int x2, .null, .null], [], S, v) (fun r S1 v1 => ∃ y1 : Int32, r = some (.int y1) ∧ S1 = S ∧ ((vp_in x1 2) ∧ (vp_in x2 25 ∧ (∀ v2, v2 = z_u v1 (w + 11 + x1.toNatClampNeg) x2.toNatClampNeg (z_tz y1) → ((vp_in x1 2) ∧ ((¬ (y1 &&& (y1 - 1)) = 0 → (vp_in x2 25 ∧ (∀ v3, v3 = z_u v2 (w + 14 + x1.toNatClampNeg) x2.toNatClampNeg (z_tz (y1 &&& (y1 - 1))) → (z_J G (d + 1) mX9_layQubits (2, [.ref w, .int x1, .int (x2 + 1), .null, .null], [], S, v3) Q)))) ∧ ((y1 &&& (y1 - 1)) = 0 → (vp_in x2 25 ∧ (∀ v4, v4 = z_u v2 (w + 14 + x1.toNatClampNeg) x2.toNatClampNeg (-1) → (z_J G (d + 1) mX9_layQubits (2, [.ref w, .int x1, .int (x2 + 1), .null, .null], [], S, v4) Q))))))))))))) :
    z_J G (d + 1) mX9_layQubits (2, [.ref w, .int x1, .int x2, .null, .null], [], S, v) Q := by
  refine zj_iload_n dX9_layQubits_2 rfl rfl ?_
  refine zj_aload_n dX9_layQubits_3 rfl rfl ?_
  refine zj_getI (ci := 9) (j := 1) dX9_layQubits_4 wf_X9_39 (by decide) (by decide) (yzWk0 hL (by omega) hw) rfl ?_
  refine zj_icmp_ge (tgt := 64) dX9_layQubits_7 (by decide) (fun c => ?_) (fun c => ?_)
  · replace h := h.1 c
    exact zj_vret dX9_layQubits_64 rfl h
  · replace h := h.2 c
    refine zj_aload_n dX9_layQubits_10 rfl rfl ?_
    refine zj_iload_n dX9_layQubits_11 rfl rfl ?_
    refine zj_iload_n dX9_layQubits_12 rfl rfl ?_
    refine zj_callV (M' := mX9_checksOn) (avs := [.int x1, .int x2]) (st := []) (ci := 9) dX9_layQubits_13 wm_X9_checksOn wl_X9_62 wi_X9_checksOn ws_X9_checksOn (by decide) (yzWk0 hL (by omega) hw) rfl rfl (by decide) rfl (Nat.le_of_ble_eq_true rfl) (Nat.le_of_ble_eq_true rfl) ⟨Or.inl (z_k0 (yzWk0 hL (by omega) hw)), trivial⟩ trivial (z_J.mono h (fun r S1 v1 hq => ?_))
    obtain ⟨y1, rfl, rfl, h⟩ := hq
    refine zj_istore_n (ls2 := [.ref w, .int x1, .int x2, .int y1, .null]) dX9_layQubits_16 rfl (by decide) rfl rfl ?_
    refine zj_iload_n dX9_layQubits_17 rfl rfl ?_
    refine zj_iload_n dX9_layQubits_18 rfl rfl ?_
    refine zj_iconst (x := 1) dX9_layQubits_19 rfl ?_
    refine zj_isub dX9_layQubits_20 ?_
    refine zj_iand dX9_layQubits_21 ?_
    refine zj_istore (ls2 := [.ref w, .int x1, .int x2, .int y1, .int (y1 &&& (y1 - 1))]) dX9_layQubits_22 (by decide) rfl rfl ?_
    refine zj_aload_n dX9_layQubits_24 rfl rfl ?_
    refine zj_getR (ci := 9) (j := 6) dX9_layQubits_25 wf_X9_22 (by decide) (by decide) (yzWk0 hL (by omega) hw) rfl (yzWr0_6 hL (by omega) hw) ?_
    refine zj_iload_n dX9_layQubits_28 rfl rfl ?_
    obtain ⟨hi1, h⟩ := h
    refine zj_aaload0 dX9_layQubits_29 (yzWk10 hL (by omega) hw) (by rw [(yzWl10 hL (by omega) hw)]; exact hi1) (yzWg10r hL (by omega) hw hi1) ?_
    refine zj_iload_n dX9_layQubits_30 rfl rfl ?_
    refine zj_iload_n dX9_layQubits_31 rfl rfl ?_
    refine zj_callS (M' := mJ6_numberOfTrailingZeros_0f7a4) (avs := [.int y1]) (st := [.int x2, .ref (w + 11 + x1.toNatClampNeg)]) dX9_layQubits_32 wm_J6_numberOfTrailingZeros_0f7a4 wl_X9_65 wt_J6_numberOfTrailingZeros_0f7a4 rfl (by decide) rfl (Nat.le_of_ble_eq_true rfl) (Nat.le_of_ble_eq_true rfl) ⟨Or.inl (z_k0 (yzWk0 hL (by omega) hw)), trivial⟩ ⟨Or.inl (z_k0 (yzWg10k hL (by omega) hw hi1)), trivial⟩ (hp_J6_numberOfTrailingZeros_0f7a4 ?_)
    refine zj_iastore dX9_layQubits_35 (yzWg10k hL (by omega) hw hi1) (by rw [(yzWg10l hL (by omega) hw hi1)]; exact h.1) (fun v2 ev2 => ?_)
    replace h := h.2 v2 ev2
    refine zj_aload_n dX9_layQubits_36 rfl rfl ?_
    refine zj_getR (ci := 9) (j := 7) dX9_layQubits_37 wf_X9_25 (by decide) (by decide) (yzWk0 hL (by omega) hw) rfl (yzWr0_7 hL (by omega) hw) ?_
    refine zj_iload_n dX9_layQubits_40 rfl rfl ?_
    obtain ⟨hi2, h⟩ := h
    refine zj_aaload0 dX9_layQubits_41 (yzWk13 hL (by omega) hw) (by rw [(yzWl13 hL (by omega) hw)]; exact hi2) (yzWg13r hL (by omega) hw hi2) ?_
    refine zj_iload_n dX9_layQubits_42 rfl rfl ?_
    refine zj_iload dX9_layQubits_43 rfl ?_
    refine zj_if_ne (tgt := 52) dX9_layQubits_45 (by decide) (fun c => ?_) (fun c => ?_)
    · replace h := h.1 c
      refine zj_iload dX9_layQubits_52 rfl ?_
      refine zj_callS (M' := mJ6_numberOfTrailingZeros_0f7a4) (avs := [.int (y1 &&& (y1 - 1))]) (st := [.int x2, .ref (w + 14 + x1.toNatClampNeg)]) dX9_layQubits_54 wm_J6_numberOfTrailingZeros_0f7a4 wl_X9_65 wt_J6_numberOfTrailingZeros_0f7a4 rfl (by decide) rfl (Nat.le_of_ble_eq_true rfl) (Nat.le_of_ble_eq_true rfl) ⟨Or.inl (z_k0 (yzWk0 hL (by omega) hw)), trivial⟩ ⟨Or.inl (z_k0 (yzWg13k hL (by omega) hw hi2)), trivial⟩ (hp_J6_numberOfTrailingZeros_0f7a4 ?_)
      refine zj_iastore dX9_layQubits_57 (yzWg13k hL (by omega) hw hi2) (by rw [(yzWg13l hL (by omega) hw hi2)]; exact h.1) (fun v3 ev3 => ?_)
      replace h := h.2 v3 ev3
      refine zj_iinc (y := x2 + 1) (ls2 := [.ref w, .int x1, .int (x2 + 1), .int y1, .int (y1 &&& (y1 - 1))]) dX9_layQubits_58 rfl rfl (by decide) rfl rfl ?_
      refine zj_goto (tgt := 2) dX9_layQubits_61 (by decide) ?_
      refine zj_forget (ls2 := [.ref w, .int x1, .int (x2 + 1), .null, .null]) ⟨Or.inr rfl, Or.inr rfl, Or.inr rfl, Or.inl rfl, Or.inl rfl, trivial⟩ ?_
      exact h
    · replace h := h.2 c
      refine zj_iconst (x := (-1)) dX9_layQubits_48 rfl ?_
      refine zj_goto (tgt := 57) dX9_layQubits_49 (by decide) ?_
      refine zj_iastore dX9_layQubits_57 (yzWg13k hL (by omega) hw hi2) (by rw [(yzWg13l hL (by omega) hw hi2)]; exact h.1) (fun v4 ev4 => ?_)
      replace h := h.2 v4 ev4
      refine zj_iinc (y := x2 + 1) (ls2 := [.ref w, .int x1, .int (x2 + 1), .int y1, .int (y1 &&& (y1 - 1))]) dX9_layQubits_58 rfl rfl (by decide) rfl rfl ?_
      refine zj_goto (tgt := 2) dX9_layQubits_61 (by decide) ?_
      refine zj_forget (ls2 := [.ref w, .int x1, .int (x2 + 1), .null, .null]) ⟨Or.inr rfl, Or.inr rfl, Or.inr rfl, Or.inl rfl, Or.inl rfl, trivial⟩ ?_
      exact h
theorem yzk_37 {nn : Nat} {S : z_Shp} (h : z_Lk nn S) (hn : 37 < nn) : z_k S 37 = 1 := (h.2 37 (by omega)).1
theorem yzk_47 {nn : Nat} {S : z_Shp} (h : z_Lk nn S) (hn : 47 < nn) : z_k S 47 = 1 := (h.2 47 (by omega)).1
theorem yzk_61 {nn : Nat} {S : z_Shp} (h : z_Lk nn S) (hn : 61 < nn) : z_k S 61 = 1 := (h.2 61 (by omega)).1
theorem yzk_71 {nn : Nat} {S : z_Shp} (h : z_Lk nn S) (hn : 71 < nn) : z_k S 71 = 1 := (h.2 71 (by omega)).1
theorem yzk_81 {nn : Nat} {S : z_Shp} (h : z_Lk nn S) (hn : 81 < nn) : z_k S 81 = 1 := (h.2 81 (by omega)).1
theorem yzk_91 {nn : Nat} {S : z_Shp} (h : z_Lk nn S) (hn : 91 < nn) : z_k S 91 = 1 := (h.2 91 (by omega)).1
theorem yzk_101 {nn : Nat} {S : z_Shp} (h : z_Lk nn S) (hn : 101 < nn) : z_k S 101 = 1 := (h.2 101 (by omega)).1
theorem yzk_111 {nn : Nat} {S : z_Shp} (h : z_Lk nn S) (hn : 111 < nn) : z_k S 111 = 1 := (h.2 111 (by omega)).1
theorem yzk_121 {nn : Nat} {S : z_Shp} (h : z_Lk nn S) (hn : 121 < nn) : z_k S 121 = 1 := (h.2 121 (by omega)).1
theorem yzk_131 {nn : Nat} {S : z_Shp} (h : z_Lk nn S) (hn : 131 < nn) : z_k S 131 = 1 := (h.2 131 (by omega)).1
theorem yzk_203 {nn : Nat} {S : z_Shp} (h : z_Lk nn S) (hn : 203 < nn) : z_k S 203 = 1 := (h.2 203 (by omega)).1
theorem yzk_213 {nn : Nat} {S : z_Shp} (h : z_Lk nn S) (hn : 213 < nn) : z_k S 213 = 1 := (h.2 213 (by omega)).1
theorem yzFk0 {nn : Nat} {S : z_Shp} {f : Nat} (h : z_Lk nn S) (hn : f + 10 ≤ nn) (hf : z_isF f) : z_k S f = 1 := by
  simp only [z_isF, List.mem_cons, List.not_mem_nil, or_false] at hf
  rcases hf with rfl | rfl | rfl | rfl | rfl | rfl | rfl | rfl | rfl | rfl | rfl | rfl
  · exact yzk_37 h (by omega)
  · exact yzk_47 h (by omega)
  · exact yzk_61 h (by omega)
  · exact yzk_71 h (by omega)
  · exact yzk_81 h (by omega)
  · exact yzk_91 h (by omega)
  · exact yzk_101 h (by omega)
  · exact yzk_111 h (by omega)
  · exact yzk_121 h (by omega)
  · exact yzk_131 h (by omega)
  · exact yzk_203 h (by omega)
  · exact yzk_213 h (by omega)
theorem ysg_X0_startAnew_0 {nn : Nat} {G : z_G} {d : Nat} {S : z_Shp} {v : z_Dat} {Q : Option Value → z_Shp → z_Dat → Prop} {f : Nat} {x1 : Nat} (hL : z_Lk nn S) (hn : f + 10 ≤ nn ∧ x1 + 18 ≤ nn) (hf : z_isF f) (hx1 : z_isW x1)
    (h : x1 < z_n S ∧ z_J G d mX0_startAnew (5, [.ref f, .ref x1, .null], [], (z_sr S f 0 (some x1)), v) Q) :
    z_J G d mX0_startAnew (0, [.ref f, .ref x1, .null], [], S, v) Q := by
  refine zj_aload_n dX0_startAnew_0 rfl rfl ?_
  refine zj_aload_n dX0_startAnew_1 rfl rfl ?_
  refine zj_putR (ci := 0) (j := 0) dX0_startAnew_2 wf_X0_33 (by decide) (by decide) (yzFk0 hL (by omega) hf) rfl rfl (fun _ => rfl) (fun _ => rfl) (Or.inl h.1) ?_
  replace h := h.2
  exact h
theorem yzr_37_5 {nn : Nat} {S : z_Shp} (h : z_Lk nn S) (hn : 37 < nn) : z_r S 37 5 = some 43 := (h.2 37 (by omega)).2.2 5 43 rfl
theorem yzr_47_5 {nn : Nat} {S : z_Shp} (h : z_Lk nn S) (hn : 47 < nn) : z_r S 47 5 = some 53 := (h.2 47 (by omega)).2.2 5 53 rfl
theorem yzr_61_5 {nn : Nat} {S : z_Shp} (h : z_Lk nn S) (hn : 61 < nn) : z_r S 61 5 = some 67 := (h.2 61 (by omega)).2.2 5 67 rfl
theorem yzr_71_5 {nn : Nat} {S : z_Shp} (h : z_Lk nn S) (hn : 71 < nn) : z_r S 71 5 = some 77 := (h.2 71 (by omega)).2.2 5 77 rfl
theorem yzr_81_5 {nn : Nat} {S : z_Shp} (h : z_Lk nn S) (hn : 81 < nn) : z_r S 81 5 = some 87 := (h.2 81 (by omega)).2.2 5 87 rfl
theorem yzr_91_5 {nn : Nat} {S : z_Shp} (h : z_Lk nn S) (hn : 91 < nn) : z_r S 91 5 = some 97 := (h.2 91 (by omega)).2.2 5 97 rfl
theorem yzr_101_5 {nn : Nat} {S : z_Shp} (h : z_Lk nn S) (hn : 101 < nn) : z_r S 101 5 = some 107 := (h.2 101 (by omega)).2.2 5 107 rfl
theorem yzr_111_5 {nn : Nat} {S : z_Shp} (h : z_Lk nn S) (hn : 111 < nn) : z_r S 111 5 = some 117 := (h.2 111 (by omega)).2.2 5 117 rfl
theorem yzr_121_5 {nn : Nat} {S : z_Shp} (h : z_Lk nn S) (hn : 121 < nn) : z_r S 121 5 = some 127 := (h.2 121 (by omega)).2.2 5 127 rfl
theorem yzr_131_5 {nn : Nat} {S : z_Shp} (h : z_Lk nn S) (hn : 131 < nn) : z_r S 131 5 = some 137 := (h.2 131 (by omega)).2.2 5 137 rfl
theorem yzr_203_5 {nn : Nat} {S : z_Shp} (h : z_Lk nn S) (hn : 203 < nn) : z_r S 203 5 = some 209 := (h.2 203 (by omega)).2.2 5 209 rfl
theorem yzr_213_5 {nn : Nat} {S : z_Shp} (h : z_Lk nn S) (hn : 213 < nn) : z_r S 213 5 = some 219 := (h.2 213 (by omega)).2.2 5 219 rfl
theorem yzFr0_5 {nn : Nat} {S : z_Shp} {f : Nat} (h : z_Lk nn S) (hn : f + 10 ≤ nn) (hf : z_isF f) : z_r S f 5 = some (f + 6) := by
  simp only [z_isF, List.mem_cons, List.not_mem_nil, or_false] at hf
  rcases hf with rfl | rfl | rfl | rfl | rfl | rfl | rfl | rfl | rfl | rfl | rfl | rfl
  · exact yzr_37_5 h (by omega)
  · exact yzr_47_5 h (by omega)
  · exact yzr_61_5 h (by omega)
  · exact yzr_71_5 h (by omega)
  · exact yzr_81_5 h (by omega)
  · exact yzr_91_5 h (by omega)
  · exact yzr_101_5 h (by omega)
  · exact yzr_111_5 h (by omega)
  · exact yzr_121_5 h (by omega)
  · exact yzr_131_5 h (by omega)
  · exact yzr_203_5 h (by omega)
  · exact yzr_213_5 h (by omega)
theorem ysg_X0_startAnew_5 {nn : Nat} {G : z_G} {d : Nat} {S : z_Shp} {v : z_Dat} {Q : Option Value → z_Shp → z_Dat → Prop} {f : Nat} {x1 : Nat} (hL : z_Lk nn S) (hn : f + 10 ≤ nn ∧ x1 + 18 ≤ nn) (hf : z_isF f) (hx1 : z_isW x1)
    (h : ∀ v1, v1 = z_u v f 1 0 → (z_J G d mJ7_fill_53178 (0, [.ref (f + 6), .int 1, .null, .null], [], S, v1) (fun r S1 v2 => r = none ∧ S1 = S ∧ (z_J G (d + 1) mX0_startAnew (20, [.ref f, .ref x1, .int 0], [], S, v2) Q)))) :
    z_J G (d + 1) mX0_startAnew (5, [.ref f, .ref x1, .null], [], S, v) Q := by
  refine zj_aload_n dX0_startAnew_5 rfl rfl ?_
  refine zj_iconst (x := 0) dX0_startAnew_6 rfl ?_
  refine zj_putI (ci := 0) (j := 1) dX0_startAnew_7 wf_X0_37 (by decide) (by decide) (yzFk0 hL (by omega) hf) rfl rfl rfl rfl (fun v1 ev1 => ?_)
  replace h := h v1 ev1
  refine zj_aload_n dX0_startAnew_10 rfl rfl ?_
  refine zj_getR (ci := 0) (j := 5) dX0_startAnew_11 wf_X0_23 (by decide) (by decide) (yzFk0 hL (by omega) hf) rfl (yzFr0_5 hL (by omega) hf) ?_
  refine zj_iconst (x := 1) dX0_startAnew_14 rfl ?_
  refine zj_callS (M' := mJ7_fill_53178) (avs := [.ref (f + 6), .int 1]) (st := []) dX0_startAnew_15 wm_J7_fill_53178 wl_X0_41 wt_J7_fill_53178 rfl (by decide) rfl (Nat.le_of_ble_eq_true rfl) (Nat.le_of_ble_eq_true rfl) ⟨Or.inl (z_k0 (yzFk0 hL (by omega) hf)), Or.inl (z_k0 (yzWk0 hL (by omega) hx1)), trivial⟩ trivial (z_J.mono h (fun r S1 v2 hq => ?_))
  obtain ⟨rfl, rfl, h⟩ := hq
  refine zj_iconst (x := 0) dX0_startAnew_18 rfl ?_
  refine zj_istore_n (ls2 := [.ref f, .ref x1, .int 0]) dX0_startAnew_19 rfl (by decide) rfl rfl ?_
  exact h
theorem yzr_37_2 {nn : Nat} {S : z_Shp} (h : z_Lk nn S) (hn : 37 < nn) : z_r S 37 2 = some 38 := (h.2 37 (by omega)).2.2 2 38 rfl
theorem yzr_47_2 {nn : Nat} {S : z_Shp} (h : z_Lk nn S) (hn : 47 < nn) : z_r S 47 2 = some 48 := (h.2 47 (by omega)).2.2 2 48 rfl
theorem yzr_61_2 {nn : Nat} {S : z_Shp} (h : z_Lk nn S) (hn : 61 < nn) : z_r S 61 2 = some 62 := (h.2 61 (by omega)).2.2 2 62 rfl
theorem yzr_71_2 {nn : Nat} {S : z_Shp} (h : z_Lk nn S) (hn : 71 < nn) : z_r S 71 2 = some 72 := (h.2 71 (by omega)).2.2 2 72 rfl
theorem yzr_81_2 {nn : Nat} {S : z_Shp} (h : z_Lk nn S) (hn : 81 < nn) : z_r S 81 2 = some 82 := (h.2 81 (by omega)).2.2 2 82 rfl
theorem yzr_91_2 {nn : Nat} {S : z_Shp} (h : z_Lk nn S) (hn : 91 < nn) : z_r S 91 2 = some 92 := (h.2 91 (by omega)).2.2 2 92 rfl
theorem yzr_101_2 {nn : Nat} {S : z_Shp} (h : z_Lk nn S) (hn : 101 < nn) : z_r S 101 2 = some 102 := (h.2 101 (by omega)).2.2 2 102 rfl
theorem yzr_111_2 {nn : Nat} {S : z_Shp} (h : z_Lk nn S) (hn : 111 < nn) : z_r S 111 2 = some 112 := (h.2 111 (by omega)).2.2 2 112 rfl
theorem yzr_121_2 {nn : Nat} {S : z_Shp} (h : z_Lk nn S) (hn : 121 < nn) : z_r S 121 2 = some 122 := (h.2 121 (by omega)).2.2 2 122 rfl
theorem yzr_131_2 {nn : Nat} {S : z_Shp} (h : z_Lk nn S) (hn : 131 < nn) : z_r S 131 2 = some 132 := (h.2 131 (by omega)).2.2 2 132 rfl
theorem yzr_203_2 {nn : Nat} {S : z_Shp} (h : z_Lk nn S) (hn : 203 < nn) : z_r S 203 2 = some 204 := (h.2 203 (by omega)).2.2 2 204 rfl
theorem yzr_213_2 {nn : Nat} {S : z_Shp} (h : z_Lk nn S) (hn : 213 < nn) : z_r S 213 2 = some 214 := (h.2 213 (by omega)).2.2 2 214 rfl
theorem yzFr0_2 {nn : Nat} {S : z_Shp} {f : Nat} (h : z_Lk nn S) (hn : f + 10 ≤ nn) (hf : z_isF f) : z_r S f 2 = some (f + 1) := by
  simp only [z_isF, List.mem_cons, List.not_mem_nil, or_false] at hf
  rcases hf with rfl | rfl | rfl | rfl | rfl | rfl | rfl | rfl | rfl | rfl | rfl | rfl
  · exact yzr_37_2 h (by omega)
  · exact yzr_47_2 h (by omega)
  · exact yzr_61_2 h (by omega)
  · exact yzr_71_2 h (by omega)
  · exact yzr_81_2 h (by omega)
  · exact yzr_91_2 h (by omega)
  · exact yzr_101_2 h (by omega)
  · exact yzr_111_2 h (by omega)
  · exact yzr_121_2 h (by omega)
  · exact yzr_131_2 h (by omega)
  · exact yzr_203_2 h (by omega)
  · exact yzr_213_2 h (by omega)
theorem yzk_38 {nn : Nat} {S : z_Shp} (h : z_Lk nn S) (hn : 38 < nn) : z_k S 38 = 21 := (h.2 38 (by omega)).1
theorem yzk_48 {nn : Nat} {S : z_Shp} (h : z_Lk nn S) (hn : 48 < nn) : z_k S 48 = 21 := (h.2 48 (by omega)).1
theorem yzk_62 {nn : Nat} {S : z_Shp} (h : z_Lk nn S) (hn : 62 < nn) : z_k S 62 = 21 := (h.2 62 (by omega)).1
theorem yzk_72 {nn : Nat} {S : z_Shp} (h : z_Lk nn S) (hn : 72 < nn) : z_k S 72 = 21 := (h.2 72 (by omega)).1
theorem yzk_82 {nn : Nat} {S : z_Shp} (h : z_Lk nn S) (hn : 82 < nn) : z_k S 82 = 21 := (h.2 82 (by omega)).1
theorem yzk_92 {nn : Nat} {S : z_Shp} (h : z_Lk nn S) (hn : 92 < nn) : z_k S 92 = 21 := (h.2 92 (by omega)).1
theorem yzk_102 {nn : Nat} {S : z_Shp} (h : z_Lk nn S) (hn : 102 < nn) : z_k S 102 = 21 := (h.2 102 (by omega)).1
theorem yzk_112 {nn : Nat} {S : z_Shp} (h : z_Lk nn S) (hn : 112 < nn) : z_k S 112 = 21 := (h.2 112 (by omega)).1
theorem yzk_122 {nn : Nat} {S : z_Shp} (h : z_Lk nn S) (hn : 122 < nn) : z_k S 122 = 21 := (h.2 122 (by omega)).1
theorem yzk_132 {nn : Nat} {S : z_Shp} (h : z_Lk nn S) (hn : 132 < nn) : z_k S 132 = 21 := (h.2 132 (by omega)).1
theorem yzk_204 {nn : Nat} {S : z_Shp} (h : z_Lk nn S) (hn : 204 < nn) : z_k S 204 = 21 := (h.2 204 (by omega)).1
theorem yzk_214 {nn : Nat} {S : z_Shp} (h : z_Lk nn S) (hn : 214 < nn) : z_k S 214 = 21 := (h.2 214 (by omega)).1
theorem yzFk1 {nn : Nat} {S : z_Shp} {f : Nat} (h : z_Lk nn S) (hn : f + 10 ≤ nn) (hf : z_isF f) : z_k S (f + 1) = 21 := by
  simp only [z_isF, List.mem_cons, List.not_mem_nil, or_false] at hf
  rcases hf with rfl | rfl | rfl | rfl | rfl | rfl | rfl | rfl | rfl | rfl | rfl | rfl
  · exact yzk_38 h (by omega)
  · exact yzk_48 h (by omega)
  · exact yzk_62 h (by omega)
  · exact yzk_72 h (by omega)
  · exact yzk_82 h (by omega)
  · exact yzk_92 h (by omega)
  · exact yzk_102 h (by omega)
  · exact yzk_112 h (by omega)
  · exact yzk_122 h (by omega)
  · exact yzk_132 h (by omega)
  · exact yzk_204 h (by omega)
  · exact yzk_214 h (by omega)
theorem yzl_38 {nn : Nat} {S : z_Shp} (h : z_Lk nn S) (hn : 38 < nn) : z_l S 38 = 2 := (h.2 38 (by omega)).2.1
theorem yzl_48 {nn : Nat} {S : z_Shp} (h : z_Lk nn S) (hn : 48 < nn) : z_l S 48 = 2 := (h.2 48 (by omega)).2.1
theorem yzl_62 {nn : Nat} {S : z_Shp} (h : z_Lk nn S) (hn : 62 < nn) : z_l S 62 = 2 := (h.2 62 (by omega)).2.1
theorem yzl_72 {nn : Nat} {S : z_Shp} (h : z_Lk nn S) (hn : 72 < nn) : z_l S 72 = 2 := (h.2 72 (by omega)).2.1
theorem yzl_82 {nn : Nat} {S : z_Shp} (h : z_Lk nn S) (hn : 82 < nn) : z_l S 82 = 2 := (h.2 82 (by omega)).2.1
theorem yzl_92 {nn : Nat} {S : z_Shp} (h : z_Lk nn S) (hn : 92 < nn) : z_l S 92 = 2 := (h.2 92 (by omega)).2.1
theorem yzl_102 {nn : Nat} {S : z_Shp} (h : z_Lk nn S) (hn : 102 < nn) : z_l S 102 = 2 := (h.2 102 (by omega)).2.1
theorem yzl_112 {nn : Nat} {S : z_Shp} (h : z_Lk nn S) (hn : 112 < nn) : z_l S 112 = 2 := (h.2 112 (by omega)).2.1
theorem yzl_122 {nn : Nat} {S : z_Shp} (h : z_Lk nn S) (hn : 122 < nn) : z_l S 122 = 2 := (h.2 122 (by omega)).2.1
theorem yzl_132 {nn : Nat} {S : z_Shp} (h : z_Lk nn S) (hn : 132 < nn) : z_l S 132 = 2 := (h.2 132 (by omega)).2.1
theorem yzl_204 {nn : Nat} {S : z_Shp} (h : z_Lk nn S) (hn : 204 < nn) : z_l S 204 = 2 := (h.2 204 (by omega)).2.1
theorem yzl_214 {nn : Nat} {S : z_Shp} (h : z_Lk nn S) (hn : 214 < nn) : z_l S 214 = 2 := (h.2 214 (by omega)).2.1
theorem yzFl1 {nn : Nat} {S : z_Shp} {f : Nat} (h : z_Lk nn S) (hn : f + 10 ≤ nn) (hf : z_isF f) : z_l S (f + 1) = 2 := by
  simp only [z_isF, List.mem_cons, List.not_mem_nil, or_false] at hf
  rcases hf with rfl | rfl | rfl | rfl | rfl | rfl | rfl | rfl | rfl | rfl | rfl | rfl
  · exact yzl_38 h (by omega)
  · exact yzl_48 h (by omega)
  · exact yzl_62 h (by omega)
  · exact yzl_72 h (by omega)
  · exact yzl_82 h (by omega)
  · exact yzl_92 h (by omega)
  · exact yzl_102 h (by omega)
  · exact yzl_112 h (by omega)
  · exact yzl_122 h (by omega)
  · exact yzl_132 h (by omega)
  · exact yzl_204 h (by omega)
  · exact yzl_214 h (by omega)
theorem yzr_37_3 {nn : Nat} {S : z_Shp} (h : z_Lk nn S) (hn : 37 < nn) : z_r S 37 3 = some 39 := (h.2 37 (by omega)).2.2 3 39 rfl
theorem yzr_47_3 {nn : Nat} {S : z_Shp} (h : z_Lk nn S) (hn : 47 < nn) : z_r S 47 3 = some 49 := (h.2 47 (by omega)).2.2 3 49 rfl
theorem yzr_61_3 {nn : Nat} {S : z_Shp} (h : z_Lk nn S) (hn : 61 < nn) : z_r S 61 3 = some 63 := (h.2 61 (by omega)).2.2 3 63 rfl
theorem yzr_71_3 {nn : Nat} {S : z_Shp} (h : z_Lk nn S) (hn : 71 < nn) : z_r S 71 3 = some 73 := (h.2 71 (by omega)).2.2 3 73 rfl
theorem yzr_81_3 {nn : Nat} {S : z_Shp} (h : z_Lk nn S) (hn : 81 < nn) : z_r S 81 3 = some 83 := (h.2 81 (by omega)).2.2 3 83 rfl
theorem yzr_91_3 {nn : Nat} {S : z_Shp} (h : z_Lk nn S) (hn : 91 < nn) : z_r S 91 3 = some 93 := (h.2 91 (by omega)).2.2 3 93 rfl
theorem yzr_101_3 {nn : Nat} {S : z_Shp} (h : z_Lk nn S) (hn : 101 < nn) : z_r S 101 3 = some 103 := (h.2 101 (by omega)).2.2 3 103 rfl
theorem yzr_111_3 {nn : Nat} {S : z_Shp} (h : z_Lk nn S) (hn : 111 < nn) : z_r S 111 3 = some 113 := (h.2 111 (by omega)).2.2 3 113 rfl
theorem yzr_121_3 {nn : Nat} {S : z_Shp} (h : z_Lk nn S) (hn : 121 < nn) : z_r S 121 3 = some 123 := (h.2 121 (by omega)).2.2 3 123 rfl
theorem yzr_131_3 {nn : Nat} {S : z_Shp} (h : z_Lk nn S) (hn : 131 < nn) : z_r S 131 3 = some 133 := (h.2 131 (by omega)).2.2 3 133 rfl
theorem yzr_203_3 {nn : Nat} {S : z_Shp} (h : z_Lk nn S) (hn : 203 < nn) : z_r S 203 3 = some 205 := (h.2 203 (by omega)).2.2 3 205 rfl
theorem yzr_213_3 {nn : Nat} {S : z_Shp} (h : z_Lk nn S) (hn : 213 < nn) : z_r S 213 3 = some 215 := (h.2 213 (by omega)).2.2 3 215 rfl
theorem yzFr0_3 {nn : Nat} {S : z_Shp} {f : Nat} (h : z_Lk nn S) (hn : f + 10 ≤ nn) (hf : z_isF f) : z_r S f 3 = some (f + 2) := by
  simp only [z_isF, List.mem_cons, List.not_mem_nil, or_false] at hf
  rcases hf with rfl | rfl | rfl | rfl | rfl | rfl | rfl | rfl | rfl | rfl | rfl | rfl
  · exact yzr_37_3 h (by omega)
  · exact yzr_47_3 h (by omega)
  · exact yzr_61_3 h (by omega)
  · exact yzr_71_3 h (by omega)
  · exact yzr_81_3 h (by omega)
  · exact yzr_91_3 h (by omega)
  · exact yzr_101_3 h (by omega)
  · exact yzr_111_3 h (by omega)
  · exact yzr_121_3 h (by omega)
  · exact yzr_131_3 h (by omega)
  · exact yzr_203_3 h (by omega)
  · exact yzr_213_3 h (by omega)
theorem yzk_39 {nn : Nat} {S : z_Shp} (h : z_Lk nn S) (hn : 39 < nn) : z_k S 39 = 21 := (h.2 39 (by omega)).1
theorem yzk_49 {nn : Nat} {S : z_Shp} (h : z_Lk nn S) (hn : 49 < nn) : z_k S 49 = 21 := (h.2 49 (by omega)).1
theorem yzk_63 {nn : Nat} {S : z_Shp} (h : z_Lk nn S) (hn : 63 < nn) : z_k S 63 = 21 := (h.2 63 (by omega)).1
theorem yzk_73 {nn : Nat} {S : z_Shp} (h : z_Lk nn S) (hn : 73 < nn) : z_k S 73 = 21 := (h.2 73 (by omega)).1
theorem yzk_83 {nn : Nat} {S : z_Shp} (h : z_Lk nn S) (hn : 83 < nn) : z_k S 83 = 21 := (h.2 83 (by omega)).1
theorem yzk_93 {nn : Nat} {S : z_Shp} (h : z_Lk nn S) (hn : 93 < nn) : z_k S 93 = 21 := (h.2 93 (by omega)).1
theorem yzk_103 {nn : Nat} {S : z_Shp} (h : z_Lk nn S) (hn : 103 < nn) : z_k S 103 = 21 := (h.2 103 (by omega)).1
theorem yzk_113 {nn : Nat} {S : z_Shp} (h : z_Lk nn S) (hn : 113 < nn) : z_k S 113 = 21 := (h.2 113 (by omega)).1
theorem yzk_123 {nn : Nat} {S : z_Shp} (h : z_Lk nn S) (hn : 123 < nn) : z_k S 123 = 21 := (h.2 123 (by omega)).1
theorem yzk_133 {nn : Nat} {S : z_Shp} (h : z_Lk nn S) (hn : 133 < nn) : z_k S 133 = 21 := (h.2 133 (by omega)).1
theorem yzk_205 {nn : Nat} {S : z_Shp} (h : z_Lk nn S) (hn : 205 < nn) : z_k S 205 = 21 := (h.2 205 (by omega)).1
theorem yzk_215 {nn : Nat} {S : z_Shp} (h : z_Lk nn S) (hn : 215 < nn) : z_k S 215 = 21 := (h.2 215 (by omega)).1
theorem yzFk2 {nn : Nat} {S : z_Shp} {f : Nat} (h : z_Lk nn S) (hn : f + 10 ≤ nn) (hf : z_isF f) : z_k S (f + 2) = 21 := by
  simp only [z_isF, List.mem_cons, List.not_mem_nil, or_false] at hf
  rcases hf with rfl | rfl | rfl | rfl | rfl | rfl | rfl | rfl | rfl | rfl | rfl | rfl
  · exact yzk_39 h (by omega)
  · exact yzk_49 h (by omega)
  · exact yzk_63 h (by omega)
  · exact yzk_73 h (by omega)
  · exact yzk_83 h (by omega)
  · exact yzk_93 h (by omega)
  · exact yzk_103 h (by omega)
  · exact yzk_113 h (by omega)
  · exact yzk_123 h (by omega)
  · exact yzk_133 h (by omega)
  · exact yzk_205 h (by omega)
  · exact yzk_215 h (by omega)
theorem yzl_39 {nn : Nat} {S : z_Shp} (h : z_Lk nn S) (hn : 39 < nn) : z_l S 39 = 2 := (h.2 39 (by omega)).2.1
theorem yzl_49 {nn : Nat} {S : z_Shp} (h : z_Lk nn S) (hn : 49 < nn) : z_l S 49 = 2 := (h.2 49 (by omega)).2.1
theorem yzl_63 {nn : Nat} {S : z_Shp} (h : z_Lk nn S) (hn : 63 < nn) : z_l S 63 = 2 := (h.2 63 (by omega)).2.1
theorem yzl_73 {nn : Nat} {S : z_Shp} (h : z_Lk nn S) (hn : 73 < nn) : z_l S 73 = 2 := (h.2 73 (by omega)).2.1
theorem yzl_83 {nn : Nat} {S : z_Shp} (h : z_Lk nn S) (hn : 83 < nn) : z_l S 83 = 2 := (h.2 83 (by omega)).2.1
theorem yzl_93 {nn : Nat} {S : z_Shp} (h : z_Lk nn S) (hn : 93 < nn) : z_l S 93 = 2 := (h.2 93 (by omega)).2.1
theorem yzl_103 {nn : Nat} {S : z_Shp} (h : z_Lk nn S) (hn : 103 < nn) : z_l S 103 = 2 := (h.2 103 (by omega)).2.1
theorem yzl_113 {nn : Nat} {S : z_Shp} (h : z_Lk nn S) (hn : 113 < nn) : z_l S 113 = 2 := (h.2 113 (by omega)).2.1
theorem yzl_123 {nn : Nat} {S : z_Shp} (h : z_Lk nn S) (hn : 123 < nn) : z_l S 123 = 2 := (h.2 123 (by omega)).2.1
theorem yzl_133 {nn : Nat} {S : z_Shp} (h : z_Lk nn S) (hn : 133 < nn) : z_l S 133 = 2 := (h.2 133 (by omega)).2.1
theorem yzl_205 {nn : Nat} {S : z_Shp} (h : z_Lk nn S) (hn : 205 < nn) : z_l S 205 = 2 := (h.2 205 (by omega)).2.1
theorem yzl_215 {nn : Nat} {S : z_Shp} (h : z_Lk nn S) (hn : 215 < nn) : z_l S 215 = 2 := (h.2 215 (by omega)).2.1
theorem yzFl2 {nn : Nat} {S : z_Shp} {f : Nat} (h : z_Lk nn S) (hn : f + 10 ≤ nn) (hf : z_isF f) : z_l S (f + 2) = 2 := by
  simp only [z_isF, List.mem_cons, List.not_mem_nil, or_false] at hf
  rcases hf with rfl | rfl | rfl | rfl | rfl | rfl | rfl | rfl | rfl | rfl | rfl | rfl
  · exact yzl_39 h (by omega)
  · exact yzl_49 h (by omega)
  · exact yzl_63 h (by omega)
  · exact yzl_73 h (by omega)
  · exact yzl_83 h (by omega)
  · exact yzl_93 h (by omega)
  · exact yzl_103 h (by omega)
  · exact yzl_113 h (by omega)
  · exact yzl_123 h (by omega)
  · exact yzl_133 h (by omega)
  · exact yzl_205 h (by omega)
  · exact yzl_215 h (by omega)
theorem yzr_37_4 {nn : Nat} {S : z_Shp} (h : z_Lk nn S) (hn : 37 < nn) : z_r S 37 4 = some 40 := (h.2 37 (by omega)).2.2 4 40 rfl
theorem yzr_47_4 {nn : Nat} {S : z_Shp} (h : z_Lk nn S) (hn : 47 < nn) : z_r S 47 4 = some 50 := (h.2 47 (by omega)).2.2 4 50 rfl
theorem yzr_61_4 {nn : Nat} {S : z_Shp} (h : z_Lk nn S) (hn : 61 < nn) : z_r S 61 4 = some 64 := (h.2 61 (by omega)).2.2 4 64 rfl
theorem yzr_71_4 {nn : Nat} {S : z_Shp} (h : z_Lk nn S) (hn : 71 < nn) : z_r S 71 4 = some 74 := (h.2 71 (by omega)).2.2 4 74 rfl
theorem yzr_81_4 {nn : Nat} {S : z_Shp} (h : z_Lk nn S) (hn : 81 < nn) : z_r S 81 4 = some 84 := (h.2 81 (by omega)).2.2 4 84 rfl
theorem yzr_91_4 {nn : Nat} {S : z_Shp} (h : z_Lk nn S) (hn : 91 < nn) : z_r S 91 4 = some 94 := (h.2 91 (by omega)).2.2 4 94 rfl
theorem yzr_101_4 {nn : Nat} {S : z_Shp} (h : z_Lk nn S) (hn : 101 < nn) : z_r S 101 4 = some 104 := (h.2 101 (by omega)).2.2 4 104 rfl
theorem yzr_111_4 {nn : Nat} {S : z_Shp} (h : z_Lk nn S) (hn : 111 < nn) : z_r S 111 4 = some 114 := (h.2 111 (by omega)).2.2 4 114 rfl
theorem yzr_121_4 {nn : Nat} {S : z_Shp} (h : z_Lk nn S) (hn : 121 < nn) : z_r S 121 4 = some 124 := (h.2 121 (by omega)).2.2 4 124 rfl
theorem yzr_131_4 {nn : Nat} {S : z_Shp} (h : z_Lk nn S) (hn : 131 < nn) : z_r S 131 4 = some 134 := (h.2 131 (by omega)).2.2 4 134 rfl
theorem yzr_203_4 {nn : Nat} {S : z_Shp} (h : z_Lk nn S) (hn : 203 < nn) : z_r S 203 4 = some 206 := (h.2 203 (by omega)).2.2 4 206 rfl
theorem yzr_213_4 {nn : Nat} {S : z_Shp} (h : z_Lk nn S) (hn : 213 < nn) : z_r S 213 4 = some 216 := (h.2 213 (by omega)).2.2 4 216 rfl
theorem yzFr0_4 {nn : Nat} {S : z_Shp} {f : Nat} (h : z_Lk nn S) (hn : f + 10 ≤ nn) (hf : z_isF f) : z_r S f 4 = some (f + 3) := by
  simp only [z_isF, List.mem_cons, List.not_mem_nil, or_false] at hf
  rcases hf with rfl | rfl | rfl | rfl | rfl | rfl | rfl | rfl | rfl | rfl | rfl | rfl
  · exact yzr_37_4 h (by omega)
  · exact yzr_47_4 h (by omega)
  · exact yzr_61_4 h (by omega)
  · exact yzr_71_4 h (by omega)
  · exact yzr_81_4 h (by omega)
  · exact yzr_91_4 h (by omega)
  · exact yzr_101_4 h (by omega)
  · exact yzr_111_4 h (by omega)
  · exact yzr_121_4 h (by omega)
  · exact yzr_131_4 h (by omega)
  · exact yzr_203_4 h (by omega)
  · exact yzr_213_4 h (by omega)
theorem yzk_40 {nn : Nat} {S : z_Shp} (h : z_Lk nn S) (hn : 40 < nn) : z_k S 40 = 25 := (h.2 40 (by omega)).1
theorem yzk_50 {nn : Nat} {S : z_Shp} (h : z_Lk nn S) (hn : 50 < nn) : z_k S 50 = 25 := (h.2 50 (by omega)).1
theorem yzk_64 {nn : Nat} {S : z_Shp} (h : z_Lk nn S) (hn : 64 < nn) : z_k S 64 = 25 := (h.2 64 (by omega)).1
theorem yzk_74 {nn : Nat} {S : z_Shp} (h : z_Lk nn S) (hn : 74 < nn) : z_k S 74 = 25 := (h.2 74 (by omega)).1
theorem yzk_84 {nn : Nat} {S : z_Shp} (h : z_Lk nn S) (hn : 84 < nn) : z_k S 84 = 25 := (h.2 84 (by omega)).1
theorem yzk_94 {nn : Nat} {S : z_Shp} (h : z_Lk nn S) (hn : 94 < nn) : z_k S 94 = 25 := (h.2 94 (by omega)).1
theorem yzk_104 {nn : Nat} {S : z_Shp} (h : z_Lk nn S) (hn : 104 < nn) : z_k S 104 = 25 := (h.2 104 (by omega)).1
theorem yzk_114 {nn : Nat} {S : z_Shp} (h : z_Lk nn S) (hn : 114 < nn) : z_k S 114 = 25 := (h.2 114 (by omega)).1
theorem yzk_124 {nn : Nat} {S : z_Shp} (h : z_Lk nn S) (hn : 124 < nn) : z_k S 124 = 25 := (h.2 124 (by omega)).1
theorem yzk_134 {nn : Nat} {S : z_Shp} (h : z_Lk nn S) (hn : 134 < nn) : z_k S 134 = 25 := (h.2 134 (by omega)).1
theorem yzk_206 {nn : Nat} {S : z_Shp} (h : z_Lk nn S) (hn : 206 < nn) : z_k S 206 = 25 := (h.2 206 (by omega)).1
theorem yzk_216 {nn : Nat} {S : z_Shp} (h : z_Lk nn S) (hn : 216 < nn) : z_k S 216 = 25 := (h.2 216 (by omega)).1
theorem yzFk3 {nn : Nat} {S : z_Shp} {f : Nat} (h : z_Lk nn S) (hn : f + 10 ≤ nn) (hf : z_isF f) : z_k S (f + 3) = 25 := by
  simp only [z_isF, List.mem_cons, List.not_mem_nil, or_false] at hf
  rcases hf with rfl | rfl | rfl | rfl | rfl | rfl | rfl | rfl | rfl | rfl | rfl | rfl
  · exact yzk_40 h (by omega)
  · exact yzk_50 h (by omega)
  · exact yzk_64 h (by omega)
  · exact yzk_74 h (by omega)
  · exact yzk_84 h (by omega)
  · exact yzk_94 h (by omega)
  · exact yzk_104 h (by omega)
  · exact yzk_114 h (by omega)
  · exact yzk_124 h (by omega)
  · exact yzk_134 h (by omega)
  · exact yzk_206 h (by omega)
  · exact yzk_216 h (by omega)
theorem yzl_40 {nn : Nat} {S : z_Shp} (h : z_Lk nn S) (hn : 40 < nn) : z_l S 40 = 2 := (h.2 40 (by omega)).2.1
theorem yzl_50 {nn : Nat} {S : z_Shp} (h : z_Lk nn S) (hn : 50 < nn) : z_l S 50 = 2 := (h.2 50 (by omega)).2.1
theorem yzl_64 {nn : Nat} {S : z_Shp} (h : z_Lk nn S) (hn : 64 < nn) : z_l S 64 = 2 := (h.2 64 (by omega)).2.1
theorem yzl_74 {nn : Nat} {S : z_Shp} (h : z_Lk nn S) (hn : 74 < nn) : z_l S 74 = 2 := (h.2 74 (by omega)).2.1
theorem yzl_84 {nn : Nat} {S : z_Shp} (h : z_Lk nn S) (hn : 84 < nn) : z_l S 84 = 2 := (h.2 84 (by omega)).2.1
theorem yzl_94 {nn : Nat} {S : z_Shp} (h : z_Lk nn S) (hn : 94 < nn) : z_l S 94 = 2 := (h.2 94 (by omega)).2.1
theorem yzl_104 {nn : Nat} {S : z_Shp} (h : z_Lk nn S) (hn : 104 < nn) : z_l S 104 = 2 := (h.2 104 (by omega)).2.1
theorem yzl_114 {nn : Nat} {S : z_Shp} (h : z_Lk nn S) (hn : 114 < nn) : z_l S 114 = 2 := (h.2 114 (by omega)).2.1
theorem yzl_124 {nn : Nat} {S : z_Shp} (h : z_Lk nn S) (hn : 124 < nn) : z_l S 124 = 2 := (h.2 124 (by omega)).2.1
theorem yzl_134 {nn : Nat} {S : z_Shp} (h : z_Lk nn S) (hn : 134 < nn) : z_l S 134 = 2 := (h.2 134 (by omega)).2.1
theorem yzl_206 {nn : Nat} {S : z_Shp} (h : z_Lk nn S) (hn : 206 < nn) : z_l S 206 = 2 := (h.2 206 (by omega)).2.1
theorem yzl_216 {nn : Nat} {S : z_Shp} (h : z_Lk nn S) (hn : 216 < nn) : z_l S 216 = 2 := (h.2 216 (by omega)).2.1
theorem yzFl3 {nn : Nat} {S : z_Shp} {f : Nat} (h : z_Lk nn S) (hn : f + 10 ≤ nn) (hf : z_isF f) : z_l S (f + 3) = 2 := by
  simp only [z_isF, List.mem_cons, List.not_mem_nil, or_false] at hf
  rcases hf with rfl | rfl | rfl | rfl | rfl | rfl | rfl | rfl | rfl | rfl | rfl | rfl
  · exact yzl_40 h (by omega)
  · exact yzl_50 h (by omega)
  · exact yzl_64 h (by omega)
  · exact yzl_74 h (by omega)
  · exact yzl_84 h (by omega)
  · exact yzl_94 h (by omega)
  · exact yzl_104 h (by omega)
  · exact yzl_114 h (by omega)
  · exact yzl_124 h (by omega)
  · exact yzl_134 h (by omega)
  · exact yzl_206 h (by omega)
  · exact yzl_216 h (by omega)
theorem yzr_40_0 {nn : Nat} {S : z_Shp} (h : z_Lk nn S) (hn : 40 < nn) : z_r S 40 0 = some 41 := (h.2 40 (by omega)).2.2 0 41 rfl
theorem yzr_50_0 {nn : Nat} {S : z_Shp} (h : z_Lk nn S) (hn : 50 < nn) : z_r S 50 0 = some 51 := (h.2 50 (by omega)).2.2 0 51 rfl
theorem yzr_64_0 {nn : Nat} {S : z_Shp} (h : z_Lk nn S) (hn : 64 < nn) : z_r S 64 0 = some 65 := (h.2 64 (by omega)).2.2 0 65 rfl
theorem yzr_74_0 {nn : Nat} {S : z_Shp} (h : z_Lk nn S) (hn : 74 < nn) : z_r S 74 0 = some 75 := (h.2 74 (by omega)).2.2 0 75 rfl
theorem yzr_84_0 {nn : Nat} {S : z_Shp} (h : z_Lk nn S) (hn : 84 < nn) : z_r S 84 0 = some 85 := (h.2 84 (by omega)).2.2 0 85 rfl
theorem yzr_94_0 {nn : Nat} {S : z_Shp} (h : z_Lk nn S) (hn : 94 < nn) : z_r S 94 0 = some 95 := (h.2 94 (by omega)).2.2 0 95 rfl
theorem yzr_104_0 {nn : Nat} {S : z_Shp} (h : z_Lk nn S) (hn : 104 < nn) : z_r S 104 0 = some 105 := (h.2 104 (by omega)).2.2 0 105 rfl
theorem yzr_114_0 {nn : Nat} {S : z_Shp} (h : z_Lk nn S) (hn : 114 < nn) : z_r S 114 0 = some 115 := (h.2 114 (by omega)).2.2 0 115 rfl
theorem yzr_124_0 {nn : Nat} {S : z_Shp} (h : z_Lk nn S) (hn : 124 < nn) : z_r S 124 0 = some 125 := (h.2 124 (by omega)).2.2 0 125 rfl
theorem yzr_134_0 {nn : Nat} {S : z_Shp} (h : z_Lk nn S) (hn : 134 < nn) : z_r S 134 0 = some 135 := (h.2 134 (by omega)).2.2 0 135 rfl
theorem yzr_206_0 {nn : Nat} {S : z_Shp} (h : z_Lk nn S) (hn : 206 < nn) : z_r S 206 0 = some 207 := (h.2 206 (by omega)).2.2 0 207 rfl
theorem yzr_216_0 {nn : Nat} {S : z_Shp} (h : z_Lk nn S) (hn : 216 < nn) : z_r S 216 0 = some 217 := (h.2 216 (by omega)).2.2 0 217 rfl
theorem yzFr3_0 {nn : Nat} {S : z_Shp} {f : Nat} (h : z_Lk nn S) (hn : f + 10 ≤ nn) (hf : z_isF f) : z_r S (f + 3) 0 = some (f + 4) := by
  simp only [z_isF, List.mem_cons, List.not_mem_nil, or_false] at hf
  rcases hf with rfl | rfl | rfl | rfl | rfl | rfl | rfl | rfl | rfl | rfl | rfl | rfl
  · exact yzr_40_0 h (by omega)
  · exact yzr_50_0 h (by omega)
  · exact yzr_64_0 h (by omega)
  · exact yzr_74_0 h (by omega)
  · exact yzr_84_0 h (by omega)
  · exact yzr_94_0 h (by omega)
  · exact yzr_104_0 h (by omega)
  · exact yzr_114_0 h (by omega)
  · exact yzr_124_0 h (by omega)
  · exact yzr_134_0 h (by omega)
  · exact yzr_206_0 h (by omega)
  · exact yzr_216_0 h (by omega)
theorem yzr_40_1 {nn : Nat} {S : z_Shp} (h : z_Lk nn S) (hn : 40 < nn) : z_r S 40 1 = some 42 := (h.2 40 (by omega)).2.2 1 42 rfl
theorem yzr_50_1 {nn : Nat} {S : z_Shp} (h : z_Lk nn S) (hn : 50 < nn) : z_r S 50 1 = some 52 := (h.2 50 (by omega)).2.2 1 52 rfl
theorem yzr_64_1 {nn : Nat} {S : z_Shp} (h : z_Lk nn S) (hn : 64 < nn) : z_r S 64 1 = some 66 := (h.2 64 (by omega)).2.2 1 66 rfl
theorem yzr_74_1 {nn : Nat} {S : z_Shp} (h : z_Lk nn S) (hn : 74 < nn) : z_r S 74 1 = some 76 := (h.2 74 (by omega)).2.2 1 76 rfl
theorem yzr_84_1 {nn : Nat} {S : z_Shp} (h : z_Lk nn S) (hn : 84 < nn) : z_r S 84 1 = some 86 := (h.2 84 (by omega)).2.2 1 86 rfl
theorem yzr_94_1 {nn : Nat} {S : z_Shp} (h : z_Lk nn S) (hn : 94 < nn) : z_r S 94 1 = some 96 := (h.2 94 (by omega)).2.2 1 96 rfl
theorem yzr_104_1 {nn : Nat} {S : z_Shp} (h : z_Lk nn S) (hn : 104 < nn) : z_r S 104 1 = some 106 := (h.2 104 (by omega)).2.2 1 106 rfl
theorem yzr_114_1 {nn : Nat} {S : z_Shp} (h : z_Lk nn S) (hn : 114 < nn) : z_r S 114 1 = some 116 := (h.2 114 (by omega)).2.2 1 116 rfl
theorem yzr_124_1 {nn : Nat} {S : z_Shp} (h : z_Lk nn S) (hn : 124 < nn) : z_r S 124 1 = some 126 := (h.2 124 (by omega)).2.2 1 126 rfl
theorem yzr_134_1 {nn : Nat} {S : z_Shp} (h : z_Lk nn S) (hn : 134 < nn) : z_r S 134 1 = some 136 := (h.2 134 (by omega)).2.2 1 136 rfl
theorem yzr_206_1 {nn : Nat} {S : z_Shp} (h : z_Lk nn S) (hn : 206 < nn) : z_r S 206 1 = some 208 := (h.2 206 (by omega)).2.2 1 208 rfl
theorem yzr_216_1 {nn : Nat} {S : z_Shp} (h : z_Lk nn S) (hn : 216 < nn) : z_r S 216 1 = some 218 := (h.2 216 (by omega)).2.2 1 218 rfl
theorem yzFr3_1 {nn : Nat} {S : z_Shp} {f : Nat} (h : z_Lk nn S) (hn : f + 10 ≤ nn) (hf : z_isF f) : z_r S (f + 3) 1 = some (f + 5) := by
  simp only [z_isF, List.mem_cons, List.not_mem_nil, or_false] at hf
  rcases hf with rfl | rfl | rfl | rfl | rfl | rfl | rfl | rfl | rfl | rfl | rfl | rfl
  · exact yzr_40_1 h (by omega)
  · exact yzr_50_1 h (by omega)
  · exact yzr_64_1 h (by omega)
  · exact yzr_74_1 h (by omega)
  · exact yzr_84_1 h (by omega)
  · exact yzr_94_1 h (by omega)
  · exact yzr_104_1 h (by omega)
  · exact yzr_114_1 h (by omega)
  · exact yzr_124_1 h (by omega)
  · exact yzr_134_1 h (by omega)
  · exact yzr_206_1 h (by omega)
  · exact yzr_216_1 h (by omega)
theorem yzFg3r {nn : Nat} {S : z_Shp} {f : Nat} {i : Int32} (h : z_Lk nn S) (hn : f + 10 ≤ nn) (hf : z_isF f) (hi : vp_in i 2) : z_r S (f + 3) i.toNatClampNeg = some (f + 4 + i.toNatClampNeg) := z_2 (P := fun q => z_r S (f + 3) q = some (f + 4 + q)) hi (yzFr3_0 h (by omega) hf) (yzFr3_1 h (by omega) hf)
theorem yzr_37_6 {nn : Nat} {S : z_Shp} (h : z_Lk nn S) (hn : 37 < nn) : z_r S 37 6 = some 44 := (h.2 37 (by omega)).2.2 6 44 rfl
theorem yzr_47_6 {nn : Nat} {S : z_Shp} (h : z_Lk nn S) (hn : 47 < nn) : z_r S 47 6 = some 54 := (h.2 47 (by omega)).2.2 6 54 rfl
theorem yzr_61_6 {nn : Nat} {S : z_Shp} (h : z_Lk nn S) (hn : 61 < nn) : z_r S 61 6 = some 68 := (h.2 61 (by omega)).2.2 6 68 rfl
theorem yzr_71_6 {nn : Nat} {S : z_Shp} (h : z_Lk nn S) (hn : 71 < nn) : z_r S 71 6 = some 78 := (h.2 71 (by omega)).2.2 6 78 rfl
theorem yzr_81_6 {nn : Nat} {S : z_Shp} (h : z_Lk nn S) (hn : 81 < nn) : z_r S 81 6 = some 88 := (h.2 81 (by omega)).2.2 6 88 rfl
theorem yzr_91_6 {nn : Nat} {S : z_Shp} (h : z_Lk nn S) (hn : 91 < nn) : z_r S 91 6 = some 98 := (h.2 91 (by omega)).2.2 6 98 rfl
theorem yzr_101_6 {nn : Nat} {S : z_Shp} (h : z_Lk nn S) (hn : 101 < nn) : z_r S 101 6 = some 108 := (h.2 101 (by omega)).2.2 6 108 rfl
theorem yzr_111_6 {nn : Nat} {S : z_Shp} (h : z_Lk nn S) (hn : 111 < nn) : z_r S 111 6 = some 118 := (h.2 111 (by omega)).2.2 6 118 rfl
theorem yzr_121_6 {nn : Nat} {S : z_Shp} (h : z_Lk nn S) (hn : 121 < nn) : z_r S 121 6 = some 128 := (h.2 121 (by omega)).2.2 6 128 rfl
theorem yzr_131_6 {nn : Nat} {S : z_Shp} (h : z_Lk nn S) (hn : 131 < nn) : z_r S 131 6 = some 138 := (h.2 131 (by omega)).2.2 6 138 rfl
theorem yzr_203_6 {nn : Nat} {S : z_Shp} (h : z_Lk nn S) (hn : 203 < nn) : z_r S 203 6 = some 210 := (h.2 203 (by omega)).2.2 6 210 rfl
theorem yzr_213_6 {nn : Nat} {S : z_Shp} (h : z_Lk nn S) (hn : 213 < nn) : z_r S 213 6 = some 220 := (h.2 213 (by omega)).2.2 6 220 rfl
theorem yzFr0_6 {nn : Nat} {S : z_Shp} {f : Nat} (h : z_Lk nn S) (hn : f + 10 ≤ nn) (hf : z_isF f) : z_r S f 6 = some (f + 7) := by
  simp only [z_isF, List.mem_cons, List.not_mem_nil, or_false] at hf
  rcases hf with rfl | rfl | rfl | rfl | rfl | rfl | rfl | rfl | rfl | rfl | rfl | rfl
  · exact yzr_37_6 h (by omega)
  · exact yzr_47_6 h (by omega)
  · exact yzr_61_6 h (by omega)
  · exact yzr_71_6 h (by omega)
  · exact yzr_81_6 h (by omega)
  · exact yzr_91_6 h (by omega)
  · exact yzr_101_6 h (by omega)
  · exact yzr_111_6 h (by omega)
  · exact yzr_121_6 h (by omega)
  · exact yzr_131_6 h (by omega)
  · exact yzr_203_6 h (by omega)
  · exact yzr_213_6 h (by omega)
theorem yzk_44 {nn : Nat} {S : z_Shp} (h : z_Lk nn S) (hn : 44 < nn) : z_k S 44 = 25 := (h.2 44 (by omega)).1
theorem yzk_54 {nn : Nat} {S : z_Shp} (h : z_Lk nn S) (hn : 54 < nn) : z_k S 54 = 25 := (h.2 54 (by omega)).1
theorem yzk_68 {nn : Nat} {S : z_Shp} (h : z_Lk nn S) (hn : 68 < nn) : z_k S 68 = 25 := (h.2 68 (by omega)).1
theorem yzk_78 {nn : Nat} {S : z_Shp} (h : z_Lk nn S) (hn : 78 < nn) : z_k S 78 = 25 := (h.2 78 (by omega)).1
theorem yzk_88 {nn : Nat} {S : z_Shp} (h : z_Lk nn S) (hn : 88 < nn) : z_k S 88 = 25 := (h.2 88 (by omega)).1
theorem yzk_98 {nn : Nat} {S : z_Shp} (h : z_Lk nn S) (hn : 98 < nn) : z_k S 98 = 25 := (h.2 98 (by omega)).1
theorem yzk_108 {nn : Nat} {S : z_Shp} (h : z_Lk nn S) (hn : 108 < nn) : z_k S 108 = 25 := (h.2 108 (by omega)).1
theorem yzk_118 {nn : Nat} {S : z_Shp} (h : z_Lk nn S) (hn : 118 < nn) : z_k S 118 = 25 := (h.2 118 (by omega)).1
theorem yzk_128 {nn : Nat} {S : z_Shp} (h : z_Lk nn S) (hn : 128 < nn) : z_k S 128 = 25 := (h.2 128 (by omega)).1
theorem yzk_138 {nn : Nat} {S : z_Shp} (h : z_Lk nn S) (hn : 138 < nn) : z_k S 138 = 25 := (h.2 138 (by omega)).1
theorem yzk_210 {nn : Nat} {S : z_Shp} (h : z_Lk nn S) (hn : 210 < nn) : z_k S 210 = 25 := (h.2 210 (by omega)).1
theorem yzk_220 {nn : Nat} {S : z_Shp} (h : z_Lk nn S) (hn : 220 < nn) : z_k S 220 = 25 := (h.2 220 (by omega)).1
theorem yzFk7 {nn : Nat} {S : z_Shp} {f : Nat} (h : z_Lk nn S) (hn : f + 10 ≤ nn) (hf : z_isF f) : z_k S (f + 7) = 25 := by
  simp only [z_isF, List.mem_cons, List.not_mem_nil, or_false] at hf
  rcases hf with rfl | rfl | rfl | rfl | rfl | rfl | rfl | rfl | rfl | rfl | rfl | rfl
  · exact yzk_44 h (by omega)
  · exact yzk_54 h (by omega)
  · exact yzk_68 h (by omega)
  · exact yzk_78 h (by omega)
  · exact yzk_88 h (by omega)
  · exact yzk_98 h (by omega)
  · exact yzk_108 h (by omega)
  · exact yzk_118 h (by omega)
  · exact yzk_128 h (by omega)
  · exact yzk_138 h (by omega)
  · exact yzk_210 h (by omega)
  · exact yzk_220 h (by omega)
theorem yzl_44 {nn : Nat} {S : z_Shp} (h : z_Lk nn S) (hn : 44 < nn) : z_l S 44 = 2 := (h.2 44 (by omega)).2.1
theorem yzl_54 {nn : Nat} {S : z_Shp} (h : z_Lk nn S) (hn : 54 < nn) : z_l S 54 = 2 := (h.2 54 (by omega)).2.1
theorem yzl_68 {nn : Nat} {S : z_Shp} (h : z_Lk nn S) (hn : 68 < nn) : z_l S 68 = 2 := (h.2 68 (by omega)).2.1
theorem yzl_78 {nn : Nat} {S : z_Shp} (h : z_Lk nn S) (hn : 78 < nn) : z_l S 78 = 2 := (h.2 78 (by omega)).2.1
theorem yzl_88 {nn : Nat} {S : z_Shp} (h : z_Lk nn S) (hn : 88 < nn) : z_l S 88 = 2 := (h.2 88 (by omega)).2.1
theorem yzl_98 {nn : Nat} {S : z_Shp} (h : z_Lk nn S) (hn : 98 < nn) : z_l S 98 = 2 := (h.2 98 (by omega)).2.1
theorem yzl_108 {nn : Nat} {S : z_Shp} (h : z_Lk nn S) (hn : 108 < nn) : z_l S 108 = 2 := (h.2 108 (by omega)).2.1
theorem yzl_118 {nn : Nat} {S : z_Shp} (h : z_Lk nn S) (hn : 118 < nn) : z_l S 118 = 2 := (h.2 118 (by omega)).2.1
theorem yzl_128 {nn : Nat} {S : z_Shp} (h : z_Lk nn S) (hn : 128 < nn) : z_l S 128 = 2 := (h.2 128 (by omega)).2.1
theorem yzl_138 {nn : Nat} {S : z_Shp} (h : z_Lk nn S) (hn : 138 < nn) : z_l S 138 = 2 := (h.2 138 (by omega)).2.1
theorem yzl_210 {nn : Nat} {S : z_Shp} (h : z_Lk nn S) (hn : 210 < nn) : z_l S 210 = 2 := (h.2 210 (by omega)).2.1
theorem yzl_220 {nn : Nat} {S : z_Shp} (h : z_Lk nn S) (hn : 220 < nn) : z_l S 220 = 2 := (h.2 220 (by omega)).2.1
theorem yzFl7 {nn : Nat} {S : z_Shp} {f : Nat} (h : z_Lk nn S) (hn : f + 10 ≤ nn) (hf : z_isF f) : z_l S (f + 7) = 2 := by
  simp only [z_isF, List.mem_cons, List.not_mem_nil, or_false] at hf
  rcases hf with rfl | rfl | rfl | rfl | rfl | rfl | rfl | rfl | rfl | rfl | rfl | rfl
  · exact yzl_44 h (by omega)
  · exact yzl_54 h (by omega)
  · exact yzl_68 h (by omega)
  · exact yzl_78 h (by omega)
  · exact yzl_88 h (by omega)
  · exact yzl_98 h (by omega)
  · exact yzl_108 h (by omega)
  · exact yzl_118 h (by omega)
  · exact yzl_128 h (by omega)
  · exact yzl_138 h (by omega)
  · exact yzl_210 h (by omega)
  · exact yzl_220 h (by omega)
theorem yzr_44_0 {nn : Nat} {S : z_Shp} (h : z_Lk nn S) (hn : 44 < nn) : z_r S 44 0 = some 45 := (h.2 44 (by omega)).2.2 0 45 rfl
theorem yzr_54_0 {nn : Nat} {S : z_Shp} (h : z_Lk nn S) (hn : 54 < nn) : z_r S 54 0 = some 55 := (h.2 54 (by omega)).2.2 0 55 rfl
theorem yzr_68_0 {nn : Nat} {S : z_Shp} (h : z_Lk nn S) (hn : 68 < nn) : z_r S 68 0 = some 69 := (h.2 68 (by omega)).2.2 0 69 rfl
theorem yzr_78_0 {nn : Nat} {S : z_Shp} (h : z_Lk nn S) (hn : 78 < nn) : z_r S 78 0 = some 79 := (h.2 78 (by omega)).2.2 0 79 rfl
theorem yzr_88_0 {nn : Nat} {S : z_Shp} (h : z_Lk nn S) (hn : 88 < nn) : z_r S 88 0 = some 89 := (h.2 88 (by omega)).2.2 0 89 rfl
theorem yzr_98_0 {nn : Nat} {S : z_Shp} (h : z_Lk nn S) (hn : 98 < nn) : z_r S 98 0 = some 99 := (h.2 98 (by omega)).2.2 0 99 rfl
theorem yzr_108_0 {nn : Nat} {S : z_Shp} (h : z_Lk nn S) (hn : 108 < nn) : z_r S 108 0 = some 109 := (h.2 108 (by omega)).2.2 0 109 rfl
theorem yzr_118_0 {nn : Nat} {S : z_Shp} (h : z_Lk nn S) (hn : 118 < nn) : z_r S 118 0 = some 119 := (h.2 118 (by omega)).2.2 0 119 rfl
theorem yzr_128_0 {nn : Nat} {S : z_Shp} (h : z_Lk nn S) (hn : 128 < nn) : z_r S 128 0 = some 129 := (h.2 128 (by omega)).2.2 0 129 rfl
theorem yzr_138_0 {nn : Nat} {S : z_Shp} (h : z_Lk nn S) (hn : 138 < nn) : z_r S 138 0 = some 139 := (h.2 138 (by omega)).2.2 0 139 rfl
theorem yzr_210_0 {nn : Nat} {S : z_Shp} (h : z_Lk nn S) (hn : 210 < nn) : z_r S 210 0 = some 211 := (h.2 210 (by omega)).2.2 0 211 rfl
theorem yzr_220_0 {nn : Nat} {S : z_Shp} (h : z_Lk nn S) (hn : 220 < nn) : z_r S 220 0 = some 221 := (h.2 220 (by omega)).2.2 0 221 rfl
theorem yzFr7_0 {nn : Nat} {S : z_Shp} {f : Nat} (h : z_Lk nn S) (hn : f + 10 ≤ nn) (hf : z_isF f) : z_r S (f + 7) 0 = some (f + 8) := by
  simp only [z_isF, List.mem_cons, List.not_mem_nil, or_false] at hf
  rcases hf with rfl | rfl | rfl | rfl | rfl | rfl | rfl | rfl | rfl | rfl | rfl | rfl
  · exact yzr_44_0 h (by omega)
  · exact yzr_54_0 h (by omega)
  · exact yzr_68_0 h (by omega)
  · exact yzr_78_0 h (by omega)
  · exact yzr_88_0 h (by omega)
  · exact yzr_98_0 h (by omega)
  · exact yzr_108_0 h (by omega)
  · exact yzr_118_0 h (by omega)
  · exact yzr_128_0 h (by omega)
  · exact yzr_138_0 h (by omega)
  · exact yzr_210_0 h (by omega)
  · exact yzr_220_0 h (by omega)
theorem yzr_44_1 {nn : Nat} {S : z_Shp} (h : z_Lk nn S) (hn : 44 < nn) : z_r S 44 1 = some 46 := (h.2 44 (by omega)).2.2 1 46 rfl
theorem yzr_54_1 {nn : Nat} {S : z_Shp} (h : z_Lk nn S) (hn : 54 < nn) : z_r S 54 1 = some 56 := (h.2 54 (by omega)).2.2 1 56 rfl
theorem yzr_68_1 {nn : Nat} {S : z_Shp} (h : z_Lk nn S) (hn : 68 < nn) : z_r S 68 1 = some 70 := (h.2 68 (by omega)).2.2 1 70 rfl
theorem yzr_78_1 {nn : Nat} {S : z_Shp} (h : z_Lk nn S) (hn : 78 < nn) : z_r S 78 1 = some 80 := (h.2 78 (by omega)).2.2 1 80 rfl
theorem yzr_88_1 {nn : Nat} {S : z_Shp} (h : z_Lk nn S) (hn : 88 < nn) : z_r S 88 1 = some 90 := (h.2 88 (by omega)).2.2 1 90 rfl
theorem yzr_98_1 {nn : Nat} {S : z_Shp} (h : z_Lk nn S) (hn : 98 < nn) : z_r S 98 1 = some 100 := (h.2 98 (by omega)).2.2 1 100 rfl
theorem yzr_108_1 {nn : Nat} {S : z_Shp} (h : z_Lk nn S) (hn : 108 < nn) : z_r S 108 1 = some 110 := (h.2 108 (by omega)).2.2 1 110 rfl
theorem yzr_118_1 {nn : Nat} {S : z_Shp} (h : z_Lk nn S) (hn : 118 < nn) : z_r S 118 1 = some 120 := (h.2 118 (by omega)).2.2 1 120 rfl
theorem yzr_128_1 {nn : Nat} {S : z_Shp} (h : z_Lk nn S) (hn : 128 < nn) : z_r S 128 1 = some 130 := (h.2 128 (by omega)).2.2 1 130 rfl
theorem yzr_138_1 {nn : Nat} {S : z_Shp} (h : z_Lk nn S) (hn : 138 < nn) : z_r S 138 1 = some 140 := (h.2 138 (by omega)).2.2 1 140 rfl
theorem yzr_210_1 {nn : Nat} {S : z_Shp} (h : z_Lk nn S) (hn : 210 < nn) : z_r S 210 1 = some 212 := (h.2 210 (by omega)).2.2 1 212 rfl
theorem yzr_220_1 {nn : Nat} {S : z_Shp} (h : z_Lk nn S) (hn : 220 < nn) : z_r S 220 1 = some 222 := (h.2 220 (by omega)).2.2 1 222 rfl
theorem yzFr7_1 {nn : Nat} {S : z_Shp} {f : Nat} (h : z_Lk nn S) (hn : f + 10 ≤ nn) (hf : z_isF f) : z_r S (f + 7) 1 = some (f + 9) := by
  simp only [z_isF, List.mem_cons, List.not_mem_nil, or_false] at hf
  rcases hf with rfl | rfl | rfl | rfl | rfl | rfl | rfl | rfl | rfl | rfl | rfl | rfl
  · exact yzr_44_1 h (by omega)
  · exact yzr_54_1 h (by omega)
  · exact yzr_68_1 h (by omega)
  · exact yzr_78_1 h (by omega)
  · exact yzr_88_1 h (by omega)
  · exact yzr_98_1 h (by omega)
  · exact yzr_108_1 h (by omega)
  · exact yzr_118_1 h (by omega)
  · exact yzr_128_1 h (by omega)
  · exact yzr_138_1 h (by omega)
  · exact yzr_210_1 h (by omega)
  · exact yzr_220_1 h (by omega)
theorem yzFg7r {nn : Nat} {S : z_Shp} {f : Nat} {i : Int32} (h : z_Lk nn S) (hn : f + 10 ≤ nn) (hf : z_isF f) (hi : vp_in i 2) : z_r S (f + 7) i.toNatClampNeg = some (f + 8 + i.toNatClampNeg) := z_2 (P := fun q => z_r S (f + 7) q = some (f + 8 + q)) hi (yzFr7_0 h (by omega) hf) (yzFr7_1 h (by omega) hf)
theorem ysg_X0_startAnew_20 {nn : Nat} {G : z_G} {d : Nat} {S : z_Shp} {v : z_Dat} {Q : Option Value → z_Shp → z_Dat → Prop} {x2 : Int32} {f : Nat} {x1 : Nat} (hL : z_Lk nn S) (hn : f + 10 ≤ nn ∧ x1 + 18 ≤ nn) (hf : z_isF f) (hx1 : z_isW x1)
    (h : (2 ≤ x2 → (Q none S v)) ∧ (¬ 2 ≤ x2 → (vp_in x2 2 ∧ (∀ v1, v1 = z_u v (f + 1) x2.toNatClampNeg 0 → (vp_in x2 2 ∧ (∀ v2, v2 = z_u v1 (f + 2) x2.toNatClampNeg 0 → ((vp_in x2 2) ∧ (z_J G d mJ7_fill_53178 (0, [.ref (f + 4 + x2.toNatClampNeg), .int 0, .null, .null], [], S, v2) (fun r S1 v3 => r = none ∧ S1 = S ∧ ((vp_in x2 2) ∧ (z_J G d mJ7_fill_53178 (0, [.ref (f + 8 + x2.toNatClampNeg), .int 1, .null, .null], [], S, v3) (fun r S1 v4 => r = none ∧ S1 = S ∧ (z_J G (d + 1) mX0_startAnew (20, [.ref f, .ref x1, .int (x2 + 1)], [], S, v4) Q))))))))))))) :
    z_J G (d + 1) mX0_startAnew (20, [.ref f, .ref x1, .int x2], [], S, v) Q := by
  refine zj_iload_n dX0_startAnew_20 rfl rfl ?_
  refine zj_iconst (x := 2) dX0_startAnew_21 rfl ?_
  refine zj_icmp_ge (tgt := 65) dX0_startAnew_22 (by decide) (fun c => ?_) (fun c => ?_)
  · replace h := h.1 c
    exact zj_vret dX0_startAnew_65 rfl h
  · replace h := h.2 c
    refine zj_aload_n dX0_startAnew_25 rfl rfl ?_
    refine zj_getR (ci := 0) (j := 2) dX0_startAnew_26 wf_X0_9 (by decide) (by decide) (yzFk0 hL (by omega) hf) rfl (yzFr0_2 hL (by omega) hf) ?_
    refine zj_iload_n dX0_startAnew_29 rfl rfl ?_
    refine zj_iconst (x := 0) dX0_startAnew_30 rfl ?_
    refine zj_iastore dX0_startAnew_31 (yzFk1 hL (by omega) hf) (by rw [(yzFl1 hL (by omega) hf)]; exact h.1) (fun v1 ev1 => ?_)
    replace h := h.2 v1 ev1
    refine zj_aload_n dX0_startAnew_32 rfl rfl ?_
    refine zj_getR (ci := 0) (j := 3) dX0_startAnew_33 wf_X0_15 (by decide) (by decide) (yzFk0 hL (by omega) hf) rfl (yzFr0_3 hL (by omega) hf) ?_
    refine zj_iload_n dX0_startAnew_36 rfl rfl ?_
    refine zj_iconst (x := 0) dX0_startAnew_37 rfl ?_
    refine zj_iastore dX0_startAnew_38 (yzFk2 hL (by omega) hf) (by rw [(yzFl2 hL (by omega) hf)]; exact h.1) (fun v2 ev2 => ?_)
    replace h := h.2 v2 ev2
    refine zj_aload_n dX0_startAnew_39 rfl rfl ?_
    refine zj_getR (ci := 0) (j := 4) dX0_startAnew_40 wf_X0_20 (by decide) (by decide) (yzFk0 hL (by omega) hf) rfl (yzFr0_4 hL (by omega) hf) ?_
    refine zj_iload_n dX0_startAnew_43 rfl rfl ?_
    obtain ⟨hi1, h⟩ := h
    refine zj_aaload0 dX0_startAnew_44 (yzFk3 hL (by omega) hf) (by rw [(yzFl3 hL (by omega) hf)]; exact hi1) (yzFg3r hL (by omega) hf hi1) ?_
    refine zj_iconst (x := 0) dX0_startAnew_45 rfl ?_
    refine zj_callS (M' := mJ7_fill_53178) (avs := [.ref (f + 4 + x2.toNatClampNeg), .int 0]) (st := []) dX0_startAnew_46 wm_J7_fill_53178 wl_X0_41 wt_J7_fill_53178 rfl (by decide) rfl (Nat.le_of_ble_eq_true rfl) (Nat.le_of_ble_eq_true rfl) ⟨Or.inl (z_k0 (yzFk0 hL (by omega) hf)), Or.inl (z_k0 (yzWk0 hL (by omega) hx1)), trivial⟩ trivial (z_J.mono h (fun r S1 v3 hq => ?_))
    obtain ⟨rfl, rfl, h⟩ := hq
    refine zj_aload_n dX0_startAnew_49 rfl rfl ?_
    refine zj_getR (ci := 0) (j := 6) dX0_startAnew_50 wf_X0_26 (by decide) (by decide) (yzFk0 hL (by omega) hf) rfl (yzFr0_6 hL (by omega) hf) ?_
    refine zj_iload_n dX0_startAnew_53 rfl rfl ?_
    obtain ⟨hi2, h⟩ := h
    refine zj_aaload0 dX0_startAnew_54 (yzFk7 hL (by omega) hf) (by rw [(yzFl7 hL (by omega) hf)]; exact hi2) (yzFg7r hL (by omega) hf hi2) ?_
    refine zj_iconst (x := 1) dX0_startAnew_55 rfl ?_
    refine zj_callS (M' := mJ7_fill_53178) (avs := [.ref (f + 8 + x2.toNatClampNeg), .int 1]) (st := []) dX0_startAnew_56 wm_J7_fill_53178 wl_X0_41 wt_J7_fill_53178 rfl (by decide) rfl (Nat.le_of_ble_eq_true rfl) (Nat.le_of_ble_eq_true rfl) ⟨Or.inl (z_k0 (yzFk0 hL (by omega) hf)), Or.inl (z_k0 (yzWk0 hL (by omega) hx1)), trivial⟩ trivial (z_J.mono h (fun r S1 v4 hq => ?_))
    obtain ⟨rfl, rfl, h⟩ := hq
    refine zj_iinc (y := x2 + 1) (ls2 := [.ref f, .ref x1, .int (x2 + 1)]) dX0_startAnew_59 rfl rfl (by decide) rfl rfl ?_
    refine zj_goto (tgt := 20) dX0_startAnew_62 (by decide) ?_
    exact h
end YL
