theorem sg_X9_bitsAt_0 {G : z_G} {d : Nat} {S : z_Shp} {v : z_Dat} {Q : Option Value → z_Shp → z_Dat → Prop} {w : Nat} {x1 : Int32} {x2 : Int32} (hL : z_L S) (hw : z_isW w)
    (h : z_J G d mX9_bitsAt (7, [.ref w, .int x1, .int x2, .int 0, .int (x1 - 1), .null], [], S, v) Q) :
    z_J G d mX9_bitsAt (0, [.ref w, .int x1, .int x2, .null, .null, .null], [], S, v) Q := by
  refine zj_iconst (x := 0) dX9_bitsAt_0 rfl ?_
  refine zj_istore_n (ls2 := [.ref w, .int x1, .int x2, .int 0, .null, .null]) dX9_bitsAt_1 rfl (by decide) rfl rfl ?_
  refine zj_iload_n dX9_bitsAt_2 rfl rfl ?_
  refine zj_iconst (x := 1) dX9_bitsAt_3 rfl ?_
  refine zj_isub dX9_bitsAt_4 ?_
  refine zj_istore (ls2 := [.ref w, .int x1, .int x2, .int 0, .int (x1 - 1), .null]) dX9_bitsAt_5 (by decide) rfl rfl ?_
  exact h
theorem sg_X9_bitsAt_7 {G : z_G} {d : Nat} {S : z_Shp} {v : z_Dat} {Q : Option Value → z_Shp → z_Dat → Prop} {x1 : Int32} {x2 : Int32} {x3 : Int32} {x4 : Int32} {w : Nat} (hL : z_L S) (hw : z_isW w)
    (h : (x1 < x4 → (Q (some (.int x3)) S v)) ∧ (¬ x1 < x4 → (z_J G d mX9_bitsAt (18, [.ref w, .int x1, .int x2, .int x3, .int x4, .int (x2 - 1)], [], S, v) Q))) :
    z_J G d mX9_bitsAt (7, [.ref w, .int x1, .int x2, .int x3, .int x4, .null], [], S, v) Q := by
  refine zj_iload dX9_bitsAt_7 rfl ?_
  refine zj_iload_n dX9_bitsAt_9 rfl rfl ?_
  refine zj_icmp_gt (tgt := 79) dX9_bitsAt_10 (by decide) (fun c => ?_) (fun c => ?_)
  · replace h := h.1 c
    refine zj_iload_n dX9_bitsAt_79 rfl rfl ?_
    exact zj_iret dX9_bitsAt_80 rfl rfl h
  · replace h := h.2 c
    refine zj_iload_n dX9_bitsAt_13 rfl rfl ?_
    refine zj_iconst (x := 1) dX9_bitsAt_14 rfl ?_
    refine zj_isub dX9_bitsAt_15 ?_
    refine zj_istore (ls2 := [.ref w, .int x1, .int x2, .int x3, .int x4, .int (x2 - 1)]) dX9_bitsAt_16 (by decide) rfl rfl ?_
    exact h
theorem sg_X9_bitsAt_18 {G : z_G} {d : Nat} {S : z_Shp} {v : z_Dat} {Q : Option Value → z_Shp → z_Dat → Prop} {x1 : Int32} {x2 : Int32} {x3 : Int32} {x4 : Int32} {x5 : Int32} {w : Nat} (hL : z_L S) (hw : z_isW w)
    (h : (x2 < x5 → (z_J G d mX9_bitsAt (7, [.ref w, .int x1, .int x2, .int x3, .int (x4 + 1), .null], [], S, v) Q)) ∧ (¬ x2 < x5 → ((x4 < 0 → (z_J G d mX9_bitsAt (18, [.ref w, .int x1, .int x2, .int x3, .int x4, .int (x5 + 1)], [], S, v) Q)) ∧ (¬ x4 < 0 → (((v w 0) ≤ x4 → (z_J G d mX9_bitsAt (18, [.ref w, .int x1, .int x2, .int x3, .int x4, .int (x5 + 1)], [], S, v) Q)) ∧ (¬ (v w 0) ≤ x4 → ((x5 < 0 → (z_J G d mX9_bitsAt (18, [.ref w, .int x1, .int x2, .int x3, .int x4, .int (x5 + 1)], [], S, v) Q)) ∧ (¬ x5 < 0 → (((v w 0) ≤ x5 → (z_J G d mX9_bitsAt (18, [.ref w, .int x1, .int x2, .int x3, .int x4, .int (x5 + 1)], [], S, v) Q)) ∧ (¬ (v w 0) ≤ x5 → (z_J G d mX9_bitsAt (18, [.ref w, .int x1, .int x2, .int (x3 ||| ((1 : Int32) <<< (((x4 * (v w 0)) + x5) &&& 31))), .int x4, .int (x5 + 1)], [], S, v) Q))))))))))) :
    z_J G d mX9_bitsAt (18, [.ref w, .int x1, .int x2, .int x3, .int x4, .int x5], [], S, v) Q := by
  refine zj_iload dX9_bitsAt_18 rfl ?_
  refine zj_iload_n dX9_bitsAt_20 rfl rfl ?_
  refine zj_icmp_gt (tgt := 73) dX9_bitsAt_21 (by decide) (fun c => ?_) (fun c => ?_)
  · replace h := h.1 c
    refine zj_iinc (y := x4 + 1) (ls2 := [.ref w, .int x1, .int x2, .int x3, .int (x4 + 1), .int x5]) dX9_bitsAt_73 rfl rfl (by decide) rfl rfl ?_
    refine zj_goto (tgt := 7) dX9_bitsAt_76 (by decide) ?_
    refine zj_forget (ls2 := [.ref w, .int x1, .int x2, .int x3, .int (x4 + 1), .null]) ⟨Or.inr rfl, Or.inr rfl, Or.inr rfl, Or.inr rfl, Or.inr rfl, Or.inl rfl, trivial⟩ ?_
    exact h
  · replace h := h.2 c
    refine zj_iload dX9_bitsAt_24 rfl ?_
    refine zj_if_lt (tgt := 67) dX9_bitsAt_26 (by decide) (fun c => ?_) (fun c => ?_)
    · replace h := h.1 c
      refine zj_iinc (y := x5 + 1) (ls2 := [.ref w, .int x1, .int x2, .int x3, .int x4, .int (x5 + 1)]) dX9_bitsAt_67 rfl rfl (by decide) rfl rfl ?_
      refine zj_goto (tgt := 18) dX9_bitsAt_70 (by decide) ?_
      exact h
    · replace h := h.2 c
      refine zj_iload dX9_bitsAt_29 rfl ?_
      refine zj_aload_n dX9_bitsAt_31 rfl rfl ?_
      refine zj_getI (ci := 9) (j := 0) dX9_bitsAt_32 wf_X9_35 (by decide) (by decide) (zWk0 hL hw) rfl ?_
      refine zj_icmp_ge (tgt := 67) dX9_bitsAt_35 (by decide) (fun c => ?_) (fun c => ?_)
      · replace h := h.1 c
        refine zj_iinc (y := x5 + 1) (ls2 := [.ref w, .int x1, .int x2, .int x3, .int x4, .int (x5 + 1)]) dX9_bitsAt_67 rfl rfl (by decide) rfl rfl ?_
        refine zj_goto (tgt := 18) dX9_bitsAt_70 (by decide) ?_
        exact h
      · replace h := h.2 c
        refine zj_iload dX9_bitsAt_38 rfl ?_
        refine zj_if_lt (tgt := 67) dX9_bitsAt_40 (by decide) (fun c => ?_) (fun c => ?_)
        · replace h := h.1 c
          refine zj_iinc (y := x5 + 1) (ls2 := [.ref w, .int x1, .int x2, .int x3, .int x4, .int (x5 + 1)]) dX9_bitsAt_67 rfl rfl (by decide) rfl rfl ?_
          refine zj_goto (tgt := 18) dX9_bitsAt_70 (by decide) ?_
          exact h
        · replace h := h.2 c
          refine zj_iload dX9_bitsAt_43 rfl ?_
          refine zj_aload_n dX9_bitsAt_45 rfl rfl ?_
          refine zj_getI (ci := 9) (j := 0) dX9_bitsAt_46 wf_X9_35 (by decide) (by decide) (zWk0 hL hw) rfl ?_
          refine zj_icmp_ge (tgt := 67) dX9_bitsAt_49 (by decide) (fun c => ?_) (fun c => ?_)
          · replace h := h.1 c
            refine zj_iinc (y := x5 + 1) (ls2 := [.ref w, .int x1, .int x2, .int x3, .int x4, .int (x5 + 1)]) dX9_bitsAt_67 rfl rfl (by decide) rfl rfl ?_
            refine zj_goto (tgt := 18) dX9_bitsAt_70 (by decide) ?_
            exact h
          · replace h := h.2 c
            refine zj_iload_n dX9_bitsAt_52 rfl rfl ?_
            refine zj_iconst (x := 1) dX9_bitsAt_53 rfl ?_
            refine zj_iload dX9_bitsAt_54 rfl ?_
            refine zj_aload_n dX9_bitsAt_56 rfl rfl ?_
            refine zj_getI (ci := 9) (j := 0) dX9_bitsAt_57 wf_X9_35 (by decide) (by decide) (zWk0 hL hw) rfl ?_
            refine zj_imul dX9_bitsAt_60 ?_
            refine zj_iload dX9_bitsAt_61 rfl ?_
            refine zj_iadd dX9_bitsAt_63 ?_
            refine zj_ishl dX9_bitsAt_64 ?_
            refine zj_ior dX9_bitsAt_65 ?_
            refine zj_istore_n (ls2 := [.ref w, .int x1, .int x2, .int (x3 ||| ((1 : Int32) <<< (((x4 * (v w 0)) + x5) &&& 31))), .int x4, .int x5]) dX9_bitsAt_66 rfl (by decide) rfl rfl ?_
            refine zj_iinc (y := x5 + 1) (ls2 := [.ref w, .int x1, .int x2, .int (x3 ||| ((1 : Int32) <<< (((x4 * (v w 0)) + x5) &&& 31))), .int x4, .int (x5 + 1)]) dX9_bitsAt_67 rfl rfl (by decide) rfl rfl ?_
            refine zj_goto (tgt := 18) dX9_bitsAt_70 (by decide) ?_
            exact h
theorem sg_X9_checksOn_0 {G : z_G} {d : Nat} {S : z_Shp} {v : z_Dat} {Q : Option Value → z_Shp → z_Dat → Prop} {w : Nat} {x1 : Int32} {x2 : Int32} (hL : z_L S) (hw : z_isW w)
    (h : z_J G d mX9_checksOn (5, [.ref w, .int x1, .int x2, .int 0, .int 0], [], S, v) Q) :
    z_J G d mX9_checksOn (0, [.ref w, .int x1, .int x2, .null, .null], [], S, v) Q := by
  refine zj_iconst (x := 0) dX9_checksOn_0 rfl ?_
  refine zj_istore_n (ls2 := [.ref w, .int x1, .int x2, .int 0, .null]) dX9_checksOn_1 rfl (by decide) rfl rfl ?_
  refine zj_iconst (x := 0) dX9_checksOn_2 rfl ?_
  refine zj_istore (ls2 := [.ref w, .int x1, .int x2, .int 0, .int 0]) dX9_checksOn_3 (by decide) rfl rfl ?_
  exact h
theorem sg_X9_checksOn_5 {G : z_G} {d : Nat} {S : z_Shp} {v : z_Dat} {Q : Option Value → z_Shp → z_Dat → Prop} {x1 : Int32} {x2 : Int32} {x3 : Int32} {x4 : Int32} {w : Nat} (hL : z_L S) (hw : z_isW w)
    (h : ((v w 2) ≤ x4 → (Q (some (.int x3)) S v)) ∧ (¬ (v w 2) ≤ x4 → ((vp_in x1 2) ∧ ((vp_in x4 12) ∧ (z_J G d mX9_checksOn (5, [.ref w, .int x1, .int x2, .int (x3 ||| ((((v (w + 8 + x1.toNatClampNeg) x4.toNatClampNeg) >>> (x2 &&& 31)) &&& 1) <<< (x4 &&& 31))), .int (x4 + 1)], [], S, v) Q))))) :
    z_J G d mX9_checksOn (5, [.ref w, .int x1, .int x2, .int x3, .int x4], [], S, v) Q := by
  refine zj_iload dX9_checksOn_5 rfl ?_
  refine zj_aload_n dX9_checksOn_7 rfl rfl ?_
  refine zj_getI (ci := 9) (j := 2) dX9_checksOn_8 wf_X9_42 (by decide) (by decide) (zWk0 hL hw) rfl ?_
  refine zj_icmp_ge (tgt := 39) dX9_checksOn_11 (by decide) (fun c => ?_) (fun c => ?_)
  · replace h := h.1 c
    refine zj_iload_n dX9_checksOn_39 rfl rfl ?_
    exact zj_iret dX9_checksOn_40 rfl rfl h
  · replace h := h.2 c
    refine zj_iload_n dX9_checksOn_14 rfl rfl ?_
    refine zj_aload_n dX9_checksOn_15 rfl rfl ?_
    refine zj_getR (ci := 9) (j := 5) dX9_checksOn_16 wf_X9_19 (by decide) (by decide) (zWk0 hL hw) rfl (zWr0_5 hL hw) ?_
    refine zj_iload_n dX9_checksOn_19 rfl rfl ?_
    obtain ⟨hi1, h⟩ := h
    refine zj_aaload0 dX9_checksOn_20 (zWk7 hL hw) (by rw [(zWl7 hL hw)]; exact hi1) (zWg7r hL hw hi1) ?_
    refine zj_iload dX9_checksOn_21 rfl ?_
    refine zj_iaload dX9_checksOn_23 (zWg7k hL hw hi1) (by rw [(zWg7l hL hw hi1)]; exact h.1) ?_
    replace h := h.2
    refine zj_iload_n dX9_checksOn_24 rfl rfl ?_
    refine zj_ishr dX9_checksOn_25 ?_
    refine zj_iconst (x := 1) dX9_checksOn_26 rfl ?_
    refine zj_iand dX9_checksOn_27 ?_
    refine zj_iload dX9_checksOn_28 rfl ?_
    refine zj_ishl dX9_checksOn_30 ?_
    refine zj_ior dX9_checksOn_31 ?_
    refine zj_istore_n (ls2 := [.ref w, .int x1, .int x2, .int (x3 ||| ((((v (w + 8 + x1.toNatClampNeg) x4.toNatClampNeg) >>> (x2 &&& 31)) &&& 1) <<< (x4 &&& 31))), .int x4]) dX9_checksOn_32 rfl (by decide) rfl rfl ?_
    refine zj_iinc (y := x4 + 1) (ls2 := [.ref w, .int x1, .int x2, .int (x3 ||| ((((v (w + 8 + x1.toNatClampNeg) x4.toNatClampNeg) >>> (x2 &&& 31)) &&& 1) <<< (x4 &&& 31))), .int (x4 + 1)]) dX9_checksOn_33 rfl rfl (by decide) rfl rfl ?_
    refine zj_goto (tgt := 5) dX9_checksOn_36 (by decide) ?_
    exact h
theorem sg_X9_kindAt_0 {G : z_G} {d : Nat} {S : z_Shp} {v : z_Dat} {Q : Option Value → z_Shp → z_Dat → Prop} {w : Nat} {x1 : Int32} {x2 : Int32} (hL : z_L S) (hw : z_isW w)
    (h : (x1 < 1 → ((x2 < 1 → ((¬ ((x1 + x2) - (x1 + x2) / 2 * 2) = 0 → (Q (some (.int (-1))) S v)) ∧ (¬ ¬ ((x1 + x2) - (x1 + x2) / 2 * 2) = 0 → (Q (some (.int (-1))) S v)))) ∧ (¬ x2 < 1 → (((v w 0) ≤ x2 → ((¬ ((x1 + x2) - (x1 + x2) / 2 * 2) = 0 → (Q (some (.int (-1))) S v)) ∧ (¬ ¬ ((x1 + x2) - (x1 + x2) / 2 * 2) = 0 → (Q (some (.int (-1))) S v)))) ∧ (¬ (v w 0) ≤ x2 → ((¬ ((x1 + x2) - (x1 + x2) / 2 * 2) = 0 → (Q (some (.int 1)) S v)) ∧ (¬ ¬ ((x1 + x2) - (x1 + x2) / 2 * 2) = 0 → (Q (some (.int (-1))) S v)))))))) ∧ (¬ x1 < 1 → (((v w 0) ≤ x1 → ((x2 < 1 → ((¬ ((x1 + x2) - (x1 + x2) / 2 * 2) = 0 → (Q (some (.int (-1))) S v)) ∧ (¬ ¬ ((x1 + x2) - (x1 + x2) / 2 * 2) = 0 → (Q (some (.int (-1))) S v)))) ∧ (¬ x2 < 1 → (((v w 0) ≤ x2 → ((¬ ((x1 + x2) - (x1 + x2) / 2 * 2) = 0 → (Q (some (.int (-1))) S v)) ∧ (¬ ¬ ((x1 + x2) - (x1 + x2) / 2 * 2) = 0 → (Q (some (.int (-1))) S v)))) ∧ (¬ (v w 0) ≤ x2 → ((¬ ((x1 + x2) - (x1 + x2) / 2 * 2) = 0 → (Q (some (.int 1)) S v)) ∧ (¬ ¬ ((x1 + x2) - (x1 + x2) / 2 * 2) = 0 → (Q (some (.int (-1))) S v)))))))) ∧ (¬ (v w 0) ≤ x1 → ((x2 < 1 → ((¬ ((x1 + x2) - (x1 + x2) / 2 * 2) = 0 → (Q (some (.int (-1))) S v)) ∧ (¬ ¬ ((x1 + x2) - (x1 + x2) / 2 * 2) = 0 → (Q (some (.int 0)) S v)))) ∧ (¬ x2 < 1 → (((v w 0) ≤ x2 → ((¬ ((x1 + x2) - (x1 + x2) / 2 * 2) = 0 → (Q (some (.int (-1))) S v)) ∧ (¬ ¬ ((x1 + x2) - (x1 + x2) / 2 * 2) = 0 → (Q (some (.int 0)) S v)))) ∧ (¬ (v w 0) ≤ x2 → ((¬ ((x1 + x2) - (x1 + x2) / 2 * 2) = 0 → (Q (some (.int 1)) S v)) ∧ (¬ ¬ ((x1 + x2) - (x1 + x2) / 2 * 2) = 0 → (Q (some (.int 0)) S v))))))))))) :
    z_J G d mX9_kindAt (0, [.ref w, .int x1, .int x2, .null, .null, .null], [], S, v) Q := by
  refine zj_iload_n dX9_kindAt_0 rfl rfl ?_
  refine zj_iconst (x := 1) dX9_kindAt_1 rfl ?_
  refine zj_icmp_lt (tgt := 17) dX9_kindAt_2 (by decide) (fun c => ?_) (fun c => ?_)
  · replace h := h.1 c
    refine zj_iconst (x := 0) dX9_kindAt_17 rfl ?_
    refine zj_istore_n (ls2 := [.ref w, .int x1, .int x2, .int 0, .null, .null]) dX9_kindAt_18 rfl (by decide) rfl rfl ?_
    refine zj_iload_n dX9_kindAt_19 rfl rfl ?_
    refine zj_iconst (x := 1) dX9_kindAt_20 rfl ?_
    refine zj_icmp_lt (tgt := 36) dX9_kindAt_21 (by decide) (fun c => ?_) (fun c => ?_)
    · replace h := h.1 c
      refine zj_iconst (x := 0) dX9_kindAt_36 rfl ?_
      refine zj_istore (ls2 := [.ref w, .int x1, .int x2, .int 0, .int 0, .null]) dX9_kindAt_37 (by decide) rfl rfl ?_
      refine zj_iload_n dX9_kindAt_39 rfl rfl ?_
      refine zj_iload_n dX9_kindAt_40 rfl rfl ?_
      refine zj_iadd dX9_kindAt_41 ?_
      refine zj_iconst (x := 2) dX9_kindAt_42 rfl ?_
      refine zj_irem dX9_kindAt_43 (by decide) ?_
      refine zj_if_ne (tgt := 51) dX9_kindAt_44 (by decide) (fun c => ?_) (fun c => ?_)
      · replace h := h.1 c
        refine zj_iconst (x := 1) dX9_kindAt_51 rfl ?_
        refine zj_istore (ls2 := [.ref w, .int x1, .int x2, .int 0, .int 0, .int 1]) dX9_kindAt_52 (by decide) rfl rfl ?_
        refine zj_iload_n dX9_kindAt_54 rfl rfl ?_
        refine zj_if_eq (tgt := 66) dX9_kindAt_55 (by decide) (fun _ => ?_) (fun q => absurd (by decide) q)
        refine zj_iload_n dX9_kindAt_66 rfl rfl ?_
        refine zj_if_eq (tgt := 81) dX9_kindAt_67 (by decide) (fun _ => ?_) (fun q => absurd (by decide) q)
        refine zj_iload dX9_kindAt_81 rfl ?_
        refine zj_if_eq (tgt := 98) dX9_kindAt_83 (by decide) (fun _ => ?_) (fun q => absurd (by decide) q)
        refine zj_iconst (x := (-1)) dX9_kindAt_98 rfl ?_
        exact zj_iret dX9_kindAt_99 rfl rfl h
      · replace h := h.2 c
        refine zj_iconst (x := 0) dX9_kindAt_47 rfl ?_
        refine zj_goto (tgt := 52) dX9_kindAt_48 (by decide) ?_
        refine zj_istore (ls2 := [.ref w, .int x1, .int x2, .int 0, .int 0, .int 0]) dX9_kindAt_52 (by decide) rfl rfl ?_
        refine zj_iload_n dX9_kindAt_54 rfl rfl ?_
        refine zj_if_eq (tgt := 66) dX9_kindAt_55 (by decide) (fun _ => ?_) (fun q => absurd (by decide) q)
        refine zj_iload_n dX9_kindAt_66 rfl rfl ?_
        refine zj_if_eq (tgt := 81) dX9_kindAt_67 (by decide) (fun _ => ?_) (fun q => absurd (by decide) q)
        refine zj_iload dX9_kindAt_81 rfl ?_
        refine zj_if_eq (tgt := 98) dX9_kindAt_83 (by decide) (fun _ => ?_) (fun q => absurd (by decide) q)
        refine zj_iconst (x := (-1)) dX9_kindAt_98 rfl ?_
        exact zj_iret dX9_kindAt_99 rfl rfl h
    · replace h := h.2 c
      refine zj_iload_n dX9_kindAt_24 rfl rfl ?_
      refine zj_aload_n dX9_kindAt_25 rfl rfl ?_
      refine zj_getI (ci := 9) (j := 0) dX9_kindAt_26 wf_X9_35 (by decide) (by decide) (zWk0 hL hw) rfl ?_
      refine zj_icmp_ge (tgt := 36) dX9_kindAt_29 (by decide) (fun c => ?_) (fun c => ?_)
      · replace h := h.1 c
        refine zj_iconst (x := 0) dX9_kindAt_36 rfl ?_
        refine zj_istore (ls2 := [.ref w, .int x1, .int x2, .int 0, .int 0, .null]) dX9_kindAt_37 (by decide) rfl rfl ?_
        refine zj_iload_n dX9_kindAt_39 rfl rfl ?_
        refine zj_iload_n dX9_kindAt_40 rfl rfl ?_
        refine zj_iadd dX9_kindAt_41 ?_
        refine zj_iconst (x := 2) dX9_kindAt_42 rfl ?_
        refine zj_irem dX9_kindAt_43 (by decide) ?_
        refine zj_if_ne (tgt := 51) dX9_kindAt_44 (by decide) (fun c => ?_) (fun c => ?_)
        · replace h := h.1 c
          refine zj_iconst (x := 1) dX9_kindAt_51 rfl ?_
          refine zj_istore (ls2 := [.ref w, .int x1, .int x2, .int 0, .int 0, .int 1]) dX9_kindAt_52 (by decide) rfl rfl ?_
          refine zj_iload_n dX9_kindAt_54 rfl rfl ?_
          refine zj_if_eq (tgt := 66) dX9_kindAt_55 (by decide) (fun _ => ?_) (fun q => absurd (by decide) q)
          refine zj_iload_n dX9_kindAt_66 rfl rfl ?_
          refine zj_if_eq (tgt := 81) dX9_kindAt_67 (by decide) (fun _ => ?_) (fun q => absurd (by decide) q)
          refine zj_iload dX9_kindAt_81 rfl ?_
          refine zj_if_eq (tgt := 98) dX9_kindAt_83 (by decide) (fun _ => ?_) (fun q => absurd (by decide) q)
          refine zj_iconst (x := (-1)) dX9_kindAt_98 rfl ?_
          exact zj_iret dX9_kindAt_99 rfl rfl h
        · replace h := h.2 c
          refine zj_iconst (x := 0) dX9_kindAt_47 rfl ?_
          refine zj_goto (tgt := 52) dX9_kindAt_48 (by decide) ?_
          refine zj_istore (ls2 := [.ref w, .int x1, .int x2, .int 0, .int 0, .int 0]) dX9_kindAt_52 (by decide) rfl rfl ?_
          refine zj_iload_n dX9_kindAt_54 rfl rfl ?_
          refine zj_if_eq (tgt := 66) dX9_kindAt_55 (by decide) (fun _ => ?_) (fun q => absurd (by decide) q)
          refine zj_iload_n dX9_kindAt_66 rfl rfl ?_
          refine zj_if_eq (tgt := 81) dX9_kindAt_67 (by decide) (fun _ => ?_) (fun q => absurd (by decide) q)
          refine zj_iload dX9_kindAt_81 rfl ?_
          refine zj_if_eq (tgt := 98) dX9_kindAt_83 (by decide) (fun _ => ?_) (fun q => absurd (by decide) q)
          refine zj_iconst (x := (-1)) dX9_kindAt_98 rfl ?_
          exact zj_iret dX9_kindAt_99 rfl rfl h
      · replace h := h.2 c
        refine zj_iconst (x := 1) dX9_kindAt_32 rfl ?_
        refine zj_goto (tgt := 37) dX9_kindAt_33 (by decide) ?_
        refine zj_istore (ls2 := [.ref w, .int x1, .int x2, .int 0, .int 1, .null]) dX9_kindAt_37 (by decide) rfl rfl ?_
        refine zj_iload_n dX9_kindAt_39 rfl rfl ?_
        refine zj_iload_n dX9_kindAt_40 rfl rfl ?_
        refine zj_iadd dX9_kindAt_41 ?_
        refine zj_iconst (x := 2) dX9_kindAt_42 rfl ?_
        refine zj_irem dX9_kindAt_43 (by decide) ?_
        refine zj_if_ne (tgt := 51) dX9_kindAt_44 (by decide) (fun c => ?_) (fun c => ?_)
        · replace h := h.1 c
          refine zj_iconst (x := 1) dX9_kindAt_51 rfl ?_
          refine zj_istore (ls2 := [.ref w, .int x1, .int x2, .int 0, .int 1, .int 1]) dX9_kindAt_52 (by decide) rfl rfl ?_
          refine zj_iload_n dX9_kindAt_54 rfl rfl ?_
          refine zj_if_eq (tgt := 66) dX9_kindAt_55 (by decide) (fun _ => ?_) (fun q => absurd (by decide) q)
          refine zj_iload_n dX9_kindAt_66 rfl rfl ?_
          refine zj_if_eq (tgt := 81) dX9_kindAt_67 (by decide) (fun _ => ?_) (fun q => absurd (by decide) q)
          refine zj_iload dX9_kindAt_81 rfl ?_
          refine zj_if_eq (tgt := 98) dX9_kindAt_83 (by decide) (fun q => absurd q (by decide)) (fun _ => ?_)
          refine zj_iload dX9_kindAt_86 rfl ?_
          refine zj_iconst (x := 1) dX9_kindAt_88 rfl ?_
          refine zj_icmp_ne (tgt := 96) dX9_kindAt_89 (by decide) (fun q => absurd q (by decide)) (fun _ => ?_)
          refine zj_iconst (x := 1) dX9_kindAt_92 rfl ?_
          refine zj_goto (tgt := 97) dX9_kindAt_93 (by decide) ?_
          exact zj_iret dX9_kindAt_97 rfl rfl h
        · replace h := h.2 c
          refine zj_iconst (x := 0) dX9_kindAt_47 rfl ?_
          refine zj_goto (tgt := 52) dX9_kindAt_48 (by decide) ?_
          refine zj_istore (ls2 := [.ref w, .int x1, .int x2, .int 0, .int 1, .int 0]) dX9_kindAt_52 (by decide) rfl rfl ?_
          refine zj_iload_n dX9_kindAt_54 rfl rfl ?_
          refine zj_if_eq (tgt := 66) dX9_kindAt_55 (by decide) (fun _ => ?_) (fun q => absurd (by decide) q)
          refine zj_iload_n dX9_kindAt_66 rfl rfl ?_
          refine zj_if_eq (tgt := 81) dX9_kindAt_67 (by decide) (fun _ => ?_) (fun q => absurd (by decide) q)
          refine zj_iload dX9_kindAt_81 rfl ?_
          refine zj_if_eq (tgt := 98) dX9_kindAt_83 (by decide) (fun q => absurd q (by decide)) (fun _ => ?_)
          refine zj_iload dX9_kindAt_86 rfl ?_
          refine zj_iconst (x := 1) dX9_kindAt_88 rfl ?_
          refine zj_icmp_ne (tgt := 96) dX9_kindAt_89 (by decide) (fun _ => ?_) (fun q => absurd (by decide) q)
          refine zj_iconst (x := (-1)) dX9_kindAt_96 rfl ?_
          exact zj_iret dX9_kindAt_97 rfl rfl h
  · replace h := h.2 c
    refine zj_iload_n dX9_kindAt_5 rfl rfl ?_
    refine zj_aload_n dX9_kindAt_6 rfl rfl ?_
    refine zj_getI (ci := 9) (j := 0) dX9_kindAt_7 wf_X9_35 (by decide) (by decide) (zWk0 hL hw) rfl ?_
    refine zj_icmp_ge (tgt := 17) dX9_kindAt_10 (by decide) (fun c => ?_) (fun c => ?_)
    · replace h := h.1 c
      refine zj_iconst (x := 0) dX9_kindAt_17 rfl ?_
      refine zj_istore_n (ls2 := [.ref w, .int x1, .int x2, .int 0, .null, .null]) dX9_kindAt_18 rfl (by decide) rfl rfl ?_
      refine zj_iload_n dX9_kindAt_19 rfl rfl ?_
      refine zj_iconst (x := 1) dX9_kindAt_20 rfl ?_
      refine zj_icmp_lt (tgt := 36) dX9_kindAt_21 (by decide) (fun c => ?_) (fun c => ?_)
      · replace h := h.1 c
        refine zj_iconst (x := 0) dX9_kindAt_36 rfl ?_
        refine zj_istore (ls2 := [.ref w, .int x1, .int x2, .int 0, .int 0, .null]) dX9_kindAt_37 (by decide) rfl rfl ?_
        refine zj_iload_n dX9_kindAt_39 rfl rfl ?_
        refine zj_iload_n dX9_kindAt_40 rfl rfl ?_
        refine zj_iadd dX9_kindAt_41 ?_
        refine zj_iconst (x := 2) dX9_kindAt_42 rfl ?_
        refine zj_irem dX9_kindAt_43 (by decide) ?_
        refine zj_if_ne (tgt := 51) dX9_kindAt_44 (by decide) (fun c => ?_) (fun c => ?_)
        · replace h := h.1 c
          refine zj_iconst (x := 1) dX9_kindAt_51 rfl ?_
          refine zj_istore (ls2 := [.ref w, .int x1, .int x2, .int 0, .int 0, .int 1]) dX9_kindAt_52 (by decide) rfl rfl ?_
          refine zj_iload_n dX9_kindAt_54 rfl rfl ?_
          refine zj_if_eq (tgt := 66) dX9_kindAt_55 (by decide) (fun _ => ?_) (fun q => absurd (by decide) q)
          refine zj_iload_n dX9_kindAt_66 rfl rfl ?_
          refine zj_if_eq (tgt := 81) dX9_kindAt_67 (by decide) (fun _ => ?_) (fun q => absurd (by decide) q)
          refine zj_iload dX9_kindAt_81 rfl ?_
          refine zj_if_eq (tgt := 98) dX9_kindAt_83 (by decide) (fun _ => ?_) (fun q => absurd (by decide) q)
          refine zj_iconst (x := (-1)) dX9_kindAt_98 rfl ?_
          exact zj_iret dX9_kindAt_99 rfl rfl h
        · replace h := h.2 c
          refine zj_iconst (x := 0) dX9_kindAt_47 rfl ?_
          refine zj_goto (tgt := 52) dX9_kindAt_48 (by decide) ?_
          refine zj_istore (ls2 := [.ref w, .int x1, .int x2, .int 0, .int 0, .int 0]) dX9_kindAt_52 (by decide) rfl rfl ?_
          refine zj_iload_n dX9_kindAt_54 rfl rfl ?_
          refine zj_if_eq (tgt := 66) dX9_kindAt_55 (by decide) (fun _ => ?_) (fun q => absurd (by decide) q)
          refine zj_iload_n dX9_kindAt_66 rfl rfl ?_
          refine zj_if_eq (tgt := 81) dX9_kindAt_67 (by decide) (fun _ => ?_) (fun q => absurd (by decide) q)
          refine zj_iload dX9_kindAt_81 rfl ?_
          refine zj_if_eq (tgt := 98) dX9_kindAt_83 (by decide) (fun _ => ?_) (fun q => absurd (by decide) q)
          refine zj_iconst (x := (-1)) dX9_kindAt_98 rfl ?_
          exact zj_iret dX9_kindAt_99 rfl rfl h
      · replace h := h.2 c
        refine zj_iload_n dX9_kindAt_24 rfl rfl ?_
        refine zj_aload_n dX9_kindAt_25 rfl rfl ?_
        refine zj_getI (ci := 9) (j := 0) dX9_kindAt_26 wf_X9_35 (by decide) (by decide) (zWk0 hL hw) rfl ?_
        refine zj_icmp_ge (tgt := 36) dX9_kindAt_29 (by decide) (fun c => ?_) (fun c => ?_)
        · replace h := h.1 c
          refine zj_iconst (x := 0) dX9_kindAt_36 rfl ?_
          refine zj_istore (ls2 := [.ref w, .int x1, .int x2, .int 0, .int 0, .null]) dX9_kindAt_37 (by decide) rfl rfl ?_
          refine zj_iload_n dX9_kindAt_39 rfl rfl ?_
          refine zj_iload_n dX9_kindAt_40 rfl rfl ?_
          refine zj_iadd dX9_kindAt_41 ?_
          refine zj_iconst (x := 2) dX9_kindAt_42 rfl ?_
          refine zj_irem dX9_kindAt_43 (by decide) ?_
          refine zj_if_ne (tgt := 51) dX9_kindAt_44 (by decide) (fun c => ?_) (fun c => ?_)
          · replace h := h.1 c
            refine zj_iconst (x := 1) dX9_kindAt_51 rfl ?_
            refine zj_istore (ls2 := [.ref w, .int x1, .int x2, .int 0, .int 0, .int 1]) dX9_kindAt_52 (by decide) rfl rfl ?_
            refine zj_iload_n dX9_kindAt_54 rfl rfl ?_
            refine zj_if_eq (tgt := 66) dX9_kindAt_55 (by decide) (fun _ => ?_) (fun q => absurd (by decide) q)
            refine zj_iload_n dX9_kindAt_66 rfl rfl ?_
            refine zj_if_eq (tgt := 81) dX9_kindAt_67 (by decide) (fun _ => ?_) (fun q => absurd (by decide) q)
            refine zj_iload dX9_kindAt_81 rfl ?_
            refine zj_if_eq (tgt := 98) dX9_kindAt_83 (by decide) (fun _ => ?_) (fun q => absurd (by decide) q)
            refine zj_iconst (x := (-1)) dX9_kindAt_98 rfl ?_
            exact zj_iret dX9_kindAt_99 rfl rfl h
          · replace h := h.2 c
            refine zj_iconst (x := 0) dX9_kindAt_47 rfl ?_
            refine zj_goto (tgt := 52) dX9_kindAt_48 (by decide) ?_
            refine zj_istore (ls2 := [.ref w, .int x1, .int x2, .int 0, .int 0, .int 0]) dX9_kindAt_52 (by decide) rfl rfl ?_
            refine zj_iload_n dX9_kindAt_54 rfl rfl ?_
            refine zj_if_eq (tgt := 66) dX9_kindAt_55 (by decide) (fun _ => ?_) (fun q => absurd (by decide) q)
            refine zj_iload_n dX9_kindAt_66 rfl rfl ?_
            refine zj_if_eq (tgt := 81) dX9_kindAt_67 (by decide) (fun _ => ?_) (fun q => absurd (by decide) q)
            refine zj_iload dX9_kindAt_81 rfl ?_
            refine zj_if_eq (tgt := 98) dX9_kindAt_83 (by decide) (fun _ => ?_) (fun q => absurd (by decide) q)
            refine zj_iconst (x := (-1)) dX9_kindAt_98 rfl ?_
            exact zj_iret dX9_kindAt_99 rfl rfl h
        · replace h := h.2 c
          refine zj_iconst (x := 1) dX9_kindAt_32 rfl ?_
          refine zj_goto (tgt := 37) dX9_kindAt_33 (by decide) ?_
          refine zj_istore (ls2 := [.ref w, .int x1, .int x2, .int 0, .int 1, .null]) dX9_kindAt_37 (by decide) rfl rfl ?_
          refine zj_iload_n dX9_kindAt_39 rfl rfl ?_
          refine zj_iload_n dX9_kindAt_40 rfl rfl ?_
          refine zj_iadd dX9_kindAt_41 ?_
          refine zj_iconst (x := 2) dX9_kindAt_42 rfl ?_
          refine zj_irem dX9_kindAt_43 (by decide) ?_
          refine zj_if_ne (tgt := 51) dX9_kindAt_44 (by decide) (fun c => ?_) (fun c => ?_)
          · replace h := h.1 c
            refine zj_iconst (x := 1) dX9_kindAt_51 rfl ?_
            refine zj_istore (ls2 := [.ref w, .int x1, .int x2, .int 0, .int 1, .int 1]) dX9_kindAt_52 (by decide) rfl rfl ?_
            refine zj_iload_n dX9_kindAt_54 rfl rfl ?_
            refine zj_if_eq (tgt := 66) dX9_kindAt_55 (by decide) (fun _ => ?_) (fun q => absurd (by decide) q)
            refine zj_iload_n dX9_kindAt_66 rfl rfl ?_
            refine zj_if_eq (tgt := 81) dX9_kindAt_67 (by decide) (fun _ => ?_) (fun q => absurd (by decide) q)
            refine zj_iload dX9_kindAt_81 rfl ?_
            refine zj_if_eq (tgt := 98) dX9_kindAt_83 (by decide) (fun q => absurd q (by decide)) (fun _ => ?_)
            refine zj_iload dX9_kindAt_86 rfl ?_
            refine zj_iconst (x := 1) dX9_kindAt_88 rfl ?_
            refine zj_icmp_ne (tgt := 96) dX9_kindAt_89 (by decide) (fun q => absurd q (by decide)) (fun _ => ?_)
            refine zj_iconst (x := 1) dX9_kindAt_92 rfl ?_
            refine zj_goto (tgt := 97) dX9_kindAt_93 (by decide) ?_
            exact zj_iret dX9_kindAt_97 rfl rfl h
          · replace h := h.2 c
            refine zj_iconst (x := 0) dX9_kindAt_47 rfl ?_
            refine zj_goto (tgt := 52) dX9_kindAt_48 (by decide) ?_
            refine zj_istore (ls2 := [.ref w, .int x1, .int x2, .int 0, .int 1, .int 0]) dX9_kindAt_52 (by decide) rfl rfl ?_
            refine zj_iload_n dX9_kindAt_54 rfl rfl ?_
            refine zj_if_eq (tgt := 66) dX9_kindAt_55 (by decide) (fun _ => ?_) (fun q => absurd (by decide) q)
            refine zj_iload_n dX9_kindAt_66 rfl rfl ?_
            refine zj_if_eq (tgt := 81) dX9_kindAt_67 (by decide) (fun _ => ?_) (fun q => absurd (by decide) q)
            refine zj_iload dX9_kindAt_81 rfl ?_
            refine zj_if_eq (tgt := 98) dX9_kindAt_83 (by decide) (fun q => absurd q (by decide)) (fun _ => ?_)
            refine zj_iload dX9_kindAt_86 rfl ?_
            refine zj_iconst (x := 1) dX9_kindAt_88 rfl ?_
            refine zj_icmp_ne (tgt := 96) dX9_kindAt_89 (by decide) (fun _ => ?_) (fun q => absurd (by decide) q)
            refine zj_iconst (x := (-1)) dX9_kindAt_96 rfl ?_
            exact zj_iret dX9_kindAt_97 rfl rfl h
    · replace h := h.2 c
      refine zj_iconst (x := 1) dX9_kindAt_13 rfl ?_
      refine zj_goto (tgt := 18) dX9_kindAt_14 (by decide) ?_
      refine zj_istore_n (ls2 := [.ref w, .int x1, .int x2, .int 1, .null, .null]) dX9_kindAt_18 rfl (by decide) rfl rfl ?_
      refine zj_iload_n dX9_kindAt_19 rfl rfl ?_
      refine zj_iconst (x := 1) dX9_kindAt_20 rfl ?_
      refine zj_icmp_lt (tgt := 36) dX9_kindAt_21 (by decide) (fun c => ?_) (fun c => ?_)
      · replace h := h.1 c
        refine zj_iconst (x := 0) dX9_kindAt_36 rfl ?_
        refine zj_istore (ls2 := [.ref w, .int x1, .int x2, .int 1, .int 0, .null]) dX9_kindAt_37 (by decide) rfl rfl ?_
        refine zj_iload_n dX9_kindAt_39 rfl rfl ?_
        refine zj_iload_n dX9_kindAt_40 rfl rfl ?_
        refine zj_iadd dX9_kindAt_41 ?_
        refine zj_iconst (x := 2) dX9_kindAt_42 rfl ?_
        refine zj_irem dX9_kindAt_43 (by decide) ?_
        refine zj_if_ne (tgt := 51) dX9_kindAt_44 (by decide) (fun c => ?_) (fun c => ?_)
        · replace h := h.1 c
          refine zj_iconst (x := 1) dX9_kindAt_51 rfl ?_
          refine zj_istore (ls2 := [.ref w, .int x1, .int x2, .int 1, .int 0, .int 1]) dX9_kindAt_52 (by decide) rfl rfl ?_
          refine zj_iload_n dX9_kindAt_54 rfl rfl ?_
          refine zj_if_eq (tgt := 66) dX9_kindAt_55 (by decide) (fun q => absurd q (by decide)) (fun _ => ?_)
          refine zj_iload dX9_kindAt_58 rfl ?_
          refine zj_if_eq (tgt := 66) dX9_kindAt_60 (by decide) (fun _ => ?_) (fun q => absurd (by decide) q)
          refine zj_iload_n dX9_kindAt_66 rfl rfl ?_
          refine zj_if_eq (tgt := 81) dX9_kindAt_67 (by decide) (fun q => absurd q (by decide)) (fun _ => ?_)
          refine zj_iload dX9_kindAt_70 rfl ?_
          refine zj_if_ne (tgt := 79) dX9_kindAt_72 (by decide) (fun _ => ?_) (fun q => absurd (by decide) q)
          refine zj_iconst (x := (-1)) dX9_kindAt_79 rfl ?_
          exact zj_iret dX9_kindAt_80 rfl rfl h
        · replace h := h.2 c
          refine zj_iconst (x := 0) dX9_kindAt_47 rfl ?_
          refine zj_goto (tgt := 52) dX9_kindAt_48 (by decide) ?_
          refine zj_istore (ls2 := [.ref w, .int x1, .int x2, .int 1, .int 0, .int 0]) dX9_kindAt_52 (by decide) rfl rfl ?_
          refine zj_iload_n dX9_kindAt_54 rfl rfl ?_
          refine zj_if_eq (tgt := 66) dX9_kindAt_55 (by decide) (fun q => absurd q (by decide)) (fun _ => ?_)
          refine zj_iload dX9_kindAt_58 rfl ?_
          refine zj_if_eq (tgt := 66) dX9_kindAt_60 (by decide) (fun _ => ?_) (fun q => absurd (by decide) q)
          refine zj_iload_n dX9_kindAt_66 rfl rfl ?_
          refine zj_if_eq (tgt := 81) dX9_kindAt_67 (by decide) (fun q => absurd q (by decide)) (fun _ => ?_)
          refine zj_iload dX9_kindAt_70 rfl ?_
          refine zj_if_ne (tgt := 79) dX9_kindAt_72 (by decide) (fun q => absurd q (by decide)) (fun _ => ?_)
          refine zj_iconst (x := 0) dX9_kindAt_75 rfl ?_
          refine zj_goto (tgt := 80) dX9_kindAt_76 (by decide) ?_
          exact zj_iret dX9_kindAt_80 rfl rfl h
      · replace h := h.2 c
        refine zj_iload_n dX9_kindAt_24 rfl rfl ?_
        refine zj_aload_n dX9_kindAt_25 rfl rfl ?_
        refine zj_getI (ci := 9) (j := 0) dX9_kindAt_26 wf_X9_35 (by decide) (by decide) (zWk0 hL hw) rfl ?_
        refine zj_icmp_ge (tgt := 36) dX9_kindAt_29 (by decide) (fun c => ?_) (fun c => ?_)
        · replace h := h.1 c
          refine zj_iconst (x := 0) dX9_kindAt_36 rfl ?_
          refine zj_istore (ls2 := [.ref w, .int x1, .int x2, .int 1, .int 0, .null]) dX9_kindAt_37 (by decide) rfl rfl ?_
          refine zj_iload_n dX9_kindAt_39 rfl rfl ?_
          refine zj_iload_n dX9_kindAt_40 rfl rfl ?_
          refine zj_iadd dX9_kindAt_41 ?_
          refine zj_iconst (x := 2) dX9_kindAt_42 rfl ?_
          refine zj_irem dX9_kindAt_43 (by decide) ?_
          refine zj_if_ne (tgt := 51) dX9_kindAt_44 (by decide) (fun c => ?_) (fun c => ?_)
          · replace h := h.1 c
            refine zj_iconst (x := 1) dX9_kindAt_51 rfl ?_
            refine zj_istore (ls2 := [.ref w, .int x1, .int x2, .int 1, .int 0, .int 1]) dX9_kindAt_52 (by decide) rfl rfl ?_
            refine zj_iload_n dX9_kindAt_54 rfl rfl ?_
            refine zj_if_eq (tgt := 66) dX9_kindAt_55 (by decide) (fun q => absurd q (by decide)) (fun _ => ?_)
            refine zj_iload dX9_kindAt_58 rfl ?_
            refine zj_if_eq (tgt := 66) dX9_kindAt_60 (by decide) (fun _ => ?_) (fun q => absurd (by decide) q)
            refine zj_iload_n dX9_kindAt_66 rfl rfl ?_
            refine zj_if_eq (tgt := 81) dX9_kindAt_67 (by decide) (fun q => absurd q (by decide)) (fun _ => ?_)
            refine zj_iload dX9_kindAt_70 rfl ?_
            refine zj_if_ne (tgt := 79) dX9_kindAt_72 (by decide) (fun _ => ?_) (fun q => absurd (by decide) q)
            refine zj_iconst (x := (-1)) dX9_kindAt_79 rfl ?_
            exact zj_iret dX9_kindAt_80 rfl rfl h
          · replace h := h.2 c
            refine zj_iconst (x := 0) dX9_kindAt_47 rfl ?_
            refine zj_goto (tgt := 52) dX9_kindAt_48 (by decide) ?_
            refine zj_istore (ls2 := [.ref w, .int x1, .int x2, .int 1, .int 0, .int 0]) dX9_kindAt_52 (by decide) rfl rfl ?_
            refine zj_iload_n dX9_kindAt_54 rfl rfl ?_
            refine zj_if_eq (tgt := 66) dX9_kindAt_55 (by decide) (fun q => absurd q (by decide)) (fun _ => ?_)
            refine zj_iload dX9_kindAt_58 rfl ?_
            refine zj_if_eq (tgt := 66) dX9_kindAt_60 (by decide) (fun _ => ?_) (fun q => absurd (by decide) q)
            refine zj_iload_n dX9_kindAt_66 rfl rfl ?_
            refine zj_if_eq (tgt := 81) dX9_kindAt_67 (by decide) (fun q => absurd q (by decide)) (fun _ => ?_)
            refine zj_iload dX9_kindAt_70 rfl ?_
            refine zj_if_ne (tgt := 79) dX9_kindAt_72 (by decide) (fun q => absurd q (by decide)) (fun _ => ?_)
            refine zj_iconst (x := 0) dX9_kindAt_75 rfl ?_
            refine zj_goto (tgt := 80) dX9_kindAt_76 (by decide) ?_
            exact zj_iret dX9_kindAt_80 rfl rfl h
        · replace h := h.2 c
          refine zj_iconst (x := 1) dX9_kindAt_32 rfl ?_
          refine zj_goto (tgt := 37) dX9_kindAt_33 (by decide) ?_
          refine zj_istore (ls2 := [.ref w, .int x1, .int x2, .int 1, .int 1, .null]) dX9_kindAt_37 (by decide) rfl rfl ?_
          refine zj_iload_n dX9_kindAt_39 rfl rfl ?_
          refine zj_iload_n dX9_kindAt_40 rfl rfl ?_
          refine zj_iadd dX9_kindAt_41 ?_
          refine zj_iconst (x := 2) dX9_kindAt_42 rfl ?_
          refine zj_irem dX9_kindAt_43 (by decide) ?_
          refine zj_if_ne (tgt := 51) dX9_kindAt_44 (by decide) (fun c => ?_) (fun c => ?_)
          · replace h := h.1 c
            refine zj_iconst (x := 1) dX9_kindAt_51 rfl ?_
            refine zj_istore (ls2 := [.ref w, .int x1, .int x2, .int 1, .int 1, .int 1]) dX9_kindAt_52 (by decide) rfl rfl ?_
            refine zj_iload_n dX9_kindAt_54 rfl rfl ?_
            refine zj_if_eq (tgt := 66) dX9_kindAt_55 (by decide) (fun q => absurd q (by decide)) (fun _ => ?_)
            refine zj_iload dX9_kindAt_58 rfl ?_
            refine zj_if_eq (tgt := 66) dX9_kindAt_60 (by decide) (fun q => absurd q (by decide)) (fun _ => ?_)
            refine zj_iload dX9_kindAt_63 rfl ?_
            exact zj_iret dX9_kindAt_65 rfl rfl h
          · replace h := h.2 c
            refine zj_iconst (x := 0) dX9_kindAt_47 rfl ?_
            refine zj_goto (tgt := 52) dX9_kindAt_48 (by decide) ?_
            refine zj_istore (ls2 := [.ref w, .int x1, .int x2, .int 1, .int 1, .int 0]) dX9_kindAt_52 (by decide) rfl rfl ?_
            refine zj_iload_n dX9_kindAt_54 rfl rfl ?_
            refine zj_if_eq (tgt := 66) dX9_kindAt_55 (by decide) (fun q => absurd q (by decide)) (fun _ => ?_)
            refine zj_iload dX9_kindAt_58 rfl ?_
            refine zj_if_eq (tgt := 66) dX9_kindAt_60 (by decide) (fun q => absurd q (by decide)) (fun _ => ?_)
            refine zj_iload dX9_kindAt_63 rfl ?_
            exact zj_iret dX9_kindAt_65 rfl rfl h
theorem sg_X9_layBorders_0 {G : z_G} {d : Nat} {S : z_Shp} {v : z_Dat} {Q : Option Value → z_Shp → z_Dat → Prop} {w : Nat} (hL : z_L S) (hw : z_isW w)
    (h : z_J G d mX9_layBorders (2, [.ref w, .int 0], [], S, v) Q) :
    z_J G d mX9_layBorders (0, [.ref w, .null], [], S, v) Q := by
  refine zj_iconst (x := 0) dX9_layBorders_0 rfl ?_
  refine zj_istore_n (ls2 := [.ref w, .int 0]) dX9_layBorders_1 rfl (by decide) rfl rfl ?_
  exact h
theorem sg_X9_layBorders_2 {G : z_G} {d : Nat} {S : z_Shp} {v : z_Dat} {Q : Option Value → z_Shp → z_Dat → Prop} {x1 : Int32} {w : Nat} (hL : z_L S) (hw : z_isW w)
    (h : ((v w 0) ≤ x1 → (∀ v1, v1 = z_u v (w + 17) 0 (v (w + 16) 1) → (∀ v2, v2 = z_u v1 (w + 17) 1 (v1 (w + 16) 0) → (Q none S v2)))) ∧ (¬ (v w 0) ≤ x1 → (∀ v3, v3 = z_u v (w + 16) 0 ((v (w + 16) 0) ||| ((1 : Int32) <<< (x1 &&& 31))) → (∀ v4, v4 = z_u v3 (w + 16) 1 ((v3 (w + 16) 1) ||| ((1 : Int32) <<< ((x1 * (v3 w 0)) &&& 31))) → (z_J G d mX9_layBorders (2, [.ref w, .int (x1 + 1)], [], S, v4) Q))))) :
    z_J G d mX9_layBorders (2, [.ref w, .int x1], [], S, v) Q := by
  refine zj_iload_n dX9_layBorders_2 rfl rfl ?_
  refine zj_aload_n dX9_layBorders_3 rfl rfl ?_
  refine zj_getI (ci := 9) (j := 0) dX9_layBorders_4 wf_X9_35 (by decide) (by decide) (zWk0 hL hw) rfl ?_
  refine zj_icmp_ge (tgt := 45) dX9_layBorders_7 (by decide) (fun c => ?_) (fun c => ?_)
  · replace h := h.1 c
    refine zj_aload_n dX9_layBorders_45 rfl rfl ?_
    refine zj_getR (ci := 9) (j := 9) dX9_layBorders_46 wf_X9_32 (by decide) (by decide) (zWk0 hL hw) rfl (zWr0_9 hL hw) ?_
    refine zj_iconst (x := 0) dX9_layBorders_49 rfl ?_
    refine zj_aload_n dX9_layBorders_50 rfl rfl ?_
    refine zj_getR (ci := 9) (j := 8) dX9_layBorders_51 wf_X9_28 (by decide) (by decide) (zWk0 hL hw) rfl (zWr0_8 hL hw) ?_
    refine zj_iconst (x := 1) dX9_layBorders_54 rfl ?_
    refine zj_iaload dX9_layBorders_55 (zWk16 hL hw) (by rw [(zWl16 hL hw)]; exact z_vin (by decide)) ?_
    refine zj_iastore dX9_layBorders_56 (zWk17 hL hw) (by rw [(zWl17 hL hw)]; exact z_vin (by decide)) (fun v1 ev1 => ?_)
    replace h := h v1 ev1
    refine zj_aload_n dX9_layBorders_57 rfl rfl ?_
    refine zj_getR (ci := 9) (j := 9) dX9_layBorders_58 wf_X9_32 (by decide) (by decide) (zWk0 hL hw) rfl (zWr0_9 hL hw) ?_
    refine zj_iconst (x := 1) dX9_layBorders_61 rfl ?_
    refine zj_aload_n dX9_layBorders_62 rfl rfl ?_
    refine zj_getR (ci := 9) (j := 8) dX9_layBorders_63 wf_X9_28 (by decide) (by decide) (zWk0 hL hw) rfl (zWr0_8 hL hw) ?_
    refine zj_iconst (x := 0) dX9_layBorders_66 rfl ?_
    refine zj_iaload dX9_layBorders_67 (zWk16 hL hw) (by rw [(zWl16 hL hw)]; exact z_vin (by decide)) ?_
    refine zj_iastore dX9_layBorders_68 (zWk17 hL hw) (by rw [(zWl17 hL hw)]; exact z_vin (by decide)) (fun v2 ev2 => ?_)
    replace h := h v2 ev2
    exact zj_vret dX9_layBorders_69 rfl h
  · replace h := h.2 c
    refine zj_aload_n dX9_layBorders_10 rfl rfl ?_
    refine zj_getR (ci := 9) (j := 8) dX9_layBorders_11 wf_X9_28 (by decide) (by decide) (zWk0 hL hw) rfl (zWr0_8 hL hw) ?_
    refine zj_iconst (x := 0) dX9_layBorders_14 rfl ?_
    refine zj_dup2 dX9_layBorders_15 rfl rfl ?_
    refine zj_iaload dX9_layBorders_16 (zWk16 hL hw) (by rw [(zWl16 hL hw)]; exact z_vin (by decide)) ?_
    refine zj_iconst (x := 1) dX9_layBorders_17 rfl ?_
    refine zj_iload_n dX9_layBorders_18 rfl rfl ?_
    refine zj_ishl dX9_layBorders_19 ?_
    refine zj_ior dX9_layBorders_20 ?_
    refine zj_iastore dX9_layBorders_21 (zWk16 hL hw) (by rw [(zWl16 hL hw)]; exact z_vin (by decide)) (fun v3 ev3 => ?_)
    replace h := h v3 ev3
    refine zj_aload_n dX9_layBorders_22 rfl rfl ?_
    refine zj_getR (ci := 9) (j := 8) dX9_layBorders_23 wf_X9_28 (by decide) (by decide) (zWk0 hL hw) rfl (zWr0_8 hL hw) ?_
    refine zj_iconst (x := 1) dX9_layBorders_26 rfl ?_
    refine zj_dup2 dX9_layBorders_27 rfl rfl ?_
    refine zj_iaload dX9_layBorders_28 (zWk16 hL hw) (by rw [(zWl16 hL hw)]; exact z_vin (by decide)) ?_
    refine zj_iconst (x := 1) dX9_layBorders_29 rfl ?_
    refine zj_iload_n dX9_layBorders_30 rfl rfl ?_
    refine zj_aload_n dX9_layBorders_31 rfl rfl ?_
    refine zj_getI (ci := 9) (j := 0) dX9_layBorders_32 wf_X9_35 (by decide) (by decide) (zWk0 hL hw) rfl ?_
    refine zj_imul dX9_layBorders_35 ?_
    refine zj_ishl dX9_layBorders_36 ?_
    refine zj_ior dX9_layBorders_37 ?_
    refine zj_iastore dX9_layBorders_38 (zWk16 hL hw) (by rw [(zWl16 hL hw)]; exact z_vin (by decide)) (fun v4 ev4 => ?_)
    replace h := h v4 ev4
    refine zj_iinc (y := x1 + 1) (ls2 := [.ref w, .int (x1 + 1)]) dX9_layBorders_39 rfl rfl (by decide) rfl rfl ?_
    refine zj_goto (tgt := 2) dX9_layBorders_42 (by decide) ?_
    exact h
theorem sg_X9_layFaces_0 {G : z_G} {d : Nat} {S : z_Shp} {v : z_Dat} {Q : Option Value → z_Shp → z_Dat → Prop} {w : Nat} {x1 : Int32} (hL : z_L S) (hw : z_isW w)
    (h : z_J G d mX9_layFaces (4, [.ref w, .int x1, .int 0, .int 0, .null], [], S, v) Q) :
    z_J G d mX9_layFaces (0, [.ref w, .int x1, .null, .null, .null], [], S, v) Q := by
  refine zj_iconst (x := 0) dX9_layFaces_0 rfl ?_
  refine zj_istore_n (ls2 := [.ref w, .int x1, .int 0, .null, .null]) dX9_layFaces_1 rfl (by decide) rfl rfl ?_
  refine zj_iconst (x := 0) dX9_layFaces_2 rfl ?_
  refine zj_istore_n (ls2 := [.ref w, .int x1, .int 0, .int 0, .null]) dX9_layFaces_3 rfl (by decide) rfl rfl ?_
  exact h
theorem sg_X9_layFaces_4 {G : z_G} {d : Nat} {S : z_Shp} {v : z_Dat} {Q : Option Value → z_Shp → z_Dat → Prop} {x1 : Int32} {x2 : Int32} {x3 : Int32} {w : Nat} (hL : z_L S) (hw : z_isW w)
    (h : ((v w 0) < x3 → (Q none S v)) ∧ (¬ (v w 0) < x3 → (z_J G d mX9_layFaces (15, [.ref w, .int x1, .int x2, .int x3, .int 0], [], S, v) Q))) :
    z_J G d mX9_layFaces (4, [.ref w, .int x1, .int x2, .int x3, .null], [], S, v) Q := by
  refine zj_iload_n dX9_layFaces_4 rfl rfl ?_
  refine zj_aload_n dX9_layFaces_5 rfl rfl ?_
  refine zj_getI (ci := 9) (j := 0) dX9_layFaces_6 wf_X9_35 (by decide) (by decide) (zWk0 hL hw) rfl ?_
  refine zj_icmp_gt (tgt := 92) dX9_layFaces_9 (by decide) (fun c => ?_) (fun c => ?_)
  · replace h := h.1 c
    exact zj_vret dX9_layFaces_92 rfl h
  · replace h := h.2 c
    refine zj_iconst (x := 0) dX9_layFaces_12 rfl ?_
    refine zj_istore (ls2 := [.ref w, .int x1, .int x2, .int x3, .int 0]) dX9_layFaces_13 (by decide) rfl rfl ?_
    exact h
theorem sg_X9_layFaces_15 {G : z_G} {d : Nat} {S : z_Shp} {v : z_Dat} {Q : Option Value → z_Shp → z_Dat → Prop} {x1 : Int32} {x2 : Int32} {x3 : Int32} {x4 : Int32} {w : Nat} (hL : z_L S) (hw : z_isW w)
    (h : ((v w 0) < x4 → (z_J G (d + 1) mX9_layFaces (4, [.ref w, .int x1, .int x2, .int (x3 + 1), .null], [], S, v) Q)) ∧ (¬ (v w 0) < x4 → (z_J G d mX9_kindAt (0, [.ref w, .int x3, .int x4, .null, .null, .null], [], S, v) (fun r S1 v1 => ∃ y1 : Int32, r = some (.int y1) ∧ S1 = S ∧ ((¬ y1 = x1 → (z_J G (d + 1) mX9_layFaces (15, [.ref w, .int x1, .int x2, .int x3, .int (x4 + 1)], [], S, v1) Q)) ∧ (¬ ¬ y1 = x1 → (((v1 w 2) ≤ x2 → (z_J G (d + 1) mX9_layFaces (15, [.ref w, .int x1, .int x2, .int x3, .int (x4 + 1)], [], S, v1) Q)) ∧ (¬ (v1 w 2) ≤ x2 → ((vp_in x1 2) ∧ (vp_in x2 12 ∧ (∀ v2, v2 = z_u v1 (w + 2 + x1.toNatClampNeg) x2.toNatClampNeg x3 → ((vp_in x1 2) ∧ (vp_in x2 12 ∧ (∀ v3, v3 = z_u v2 (w + 5 + x1.toNatClampNeg) x2.toNatClampNeg x4 → ((vp_in x1 2) ∧ (z_J G d mX9_bitsAt (0, [.ref w, .int x3, .int x4, .null, .null, .null], [], S, v3) (fun r S1 v4 => ∃ y2 : Int32, r = some (.int y2) ∧ S1 = S ∧ (vp_in x2 12 ∧ (∀ v5, v5 = z_u v4 (w + 8 + x1.toNatClampNeg) x2.toNatClampNeg y2 → (z_J G (d + 1) mX9_layFaces (15, [.ref w, .int x1, .int (x2 + 1), .int x3, .int (x4 + 1)], [], S, v5) Q)))))))))))))))))))) :
    z_J G (d + 1) mX9_layFaces (15, [.ref w, .int x1, .int x2, .int x3, .int x4], [], S, v) Q := by
  refine zj_iload dX9_layFaces_15 rfl ?_
  refine zj_aload_n dX9_layFaces_17 rfl rfl ?_
  refine zj_getI (ci := 9) (j := 0) dX9_layFaces_18 wf_X9_35 (by decide) (by decide) (zWk0 hL hw) rfl ?_
  refine zj_icmp_gt (tgt := 86) dX9_layFaces_21 (by decide) (fun c => ?_) (fun c => ?_)
  · replace h := h.1 c
    refine zj_iinc (y := x3 + 1) (ls2 := [.ref w, .int x1, .int x2, .int (x3 + 1), .int x4]) dX9_layFaces_86 rfl rfl (by decide) rfl rfl ?_
    refine zj_goto (tgt := 4) dX9_layFaces_89 (by decide) ?_
    refine zj_forget (ls2 := [.ref w, .int x1, .int x2, .int (x3 + 1), .null]) ⟨Or.inr rfl, Or.inr rfl, Or.inr rfl, Or.inr rfl, Or.inl rfl, trivial⟩ ?_
    exact h
  · replace h := h.2 c
    refine zj_aload_n dX9_layFaces_24 rfl rfl ?_
    refine zj_iload_n dX9_layFaces_25 rfl rfl ?_
    refine zj_iload dX9_layFaces_26 rfl ?_
    refine zj_callV (M' := mX9_kindAt) (avs := [.int x3, .int x4]) (st := []) (ci := 9) dX9_layFaces_28 wm_X9_kindAt wl_X9_55 wi_X9_kindAt ws_X9_kindAt (by decide) (zWk0 hL hw) rfl rfl (by decide) rfl (Nat.le_of_ble_eq_true rfl) (Nat.le_of_ble_eq_true rfl) ⟨Or.inl (z_k0 (zWk0 hL hw)), trivial⟩ trivial (z_J.mono h (fun r S1 v1 hq => ?_))
    obtain ⟨y1, rfl, rfl, h⟩ := hq
    refine zj_iload_n dX9_layFaces_31 rfl rfl ?_
    refine zj_icmp_ne (tgt := 80) dX9_layFaces_32 (by decide) (fun c => ?_) (fun c => ?_)
    · replace h := h.1 c
      refine zj_iinc (y := x4 + 1) (ls2 := [.ref w, .int x1, .int x2, .int x3, .int (x4 + 1)]) dX9_layFaces_80 rfl rfl (by decide) rfl rfl ?_
      refine zj_goto (tgt := 15) dX9_layFaces_83 (by decide) ?_
      exact h
    · replace h := h.2 c
      refine zj_iload_n dX9_layFaces_35 rfl rfl ?_
      refine zj_aload_n dX9_layFaces_36 rfl rfl ?_
      refine zj_getI (ci := 9) (j := 2) dX9_layFaces_37 wf_X9_42 (by decide) (by decide) (zWk0 hL hw) rfl ?_
      refine zj_icmp_ge (tgt := 80) dX9_layFaces_40 (by decide) (fun c => ?_) (fun c => ?_)
      · replace h := h.1 c
        refine zj_iinc (y := x4 + 1) (ls2 := [.ref w, .int x1, .int x2, .int x3, .int (x4 + 1)]) dX9_layFaces_80 rfl rfl (by decide) rfl rfl ?_
        refine zj_goto (tgt := 15) dX9_layFaces_83 (by decide) ?_
        exact h
      · replace h := h.2 c
        refine zj_aload_n dX9_layFaces_43 rfl rfl ?_
        refine zj_getR (ci := 9) (j := 3) dX9_layFaces_44 wf_X9_11 (by decide) (by decide) (zWk0 hL hw) rfl (zWr0_3 hL hw) ?_
        refine zj_iload_n dX9_layFaces_47 rfl rfl ?_
        obtain ⟨hi1, h⟩ := h
        refine zj_aaload0 dX9_layFaces_48 (zWk1 hL hw) (by rw [(zWl1 hL hw)]; exact hi1) (zWg1r hL hw hi1) ?_
        refine zj_iload_n dX9_layFaces_49 rfl rfl ?_
        refine zj_iload_n dX9_layFaces_50 rfl rfl ?_
        refine zj_iastore dX9_layFaces_51 (zWg1k hL hw hi1) (by rw [(zWg1l hL hw hi1)]; exact h.1) (fun v2 ev2 => ?_)
        replace h := h.2 v2 ev2
        refine zj_aload_n dX9_layFaces_52 rfl rfl ?_
        refine zj_getR (ci := 9) (j := 4) dX9_layFaces_53 wf_X9_16 (by decide) (by decide) (zWk0 hL hw) rfl (zWr0_4 hL hw) ?_
        refine zj_iload_n dX9_layFaces_56 rfl rfl ?_
        obtain ⟨hi2, h⟩ := h
        refine zj_aaload0 dX9_layFaces_57 (zWk4 hL hw) (by rw [(zWl4 hL hw)]; exact hi2) (zWg4r hL hw hi2) ?_
        refine zj_iload_n dX9_layFaces_58 rfl rfl ?_
        refine zj_iload dX9_layFaces_59 rfl ?_
        refine zj_iastore dX9_layFaces_61 (zWg4k hL hw hi2) (by rw [(zWg4l hL hw hi2)]; exact h.1) (fun v3 ev3 => ?_)
        replace h := h.2 v3 ev3
        refine zj_aload_n dX9_layFaces_62 rfl rfl ?_
        refine zj_getR (ci := 9) (j := 5) dX9_layFaces_63 wf_X9_19 (by decide) (by decide) (zWk0 hL hw) rfl (zWr0_5 hL hw) ?_
        refine zj_iload_n dX9_layFaces_66 rfl rfl ?_
        obtain ⟨hi3, h⟩ := h
        refine zj_aaload0 dX9_layFaces_67 (zWk7 hL hw) (by rw [(zWl7 hL hw)]; exact hi3) (zWg7r hL hw hi3) ?_
        refine zj_iload_n dX9_layFaces_68 rfl rfl ?_
        refine zj_aload_n dX9_layFaces_69 rfl rfl ?_
        refine zj_iload_n dX9_layFaces_70 rfl rfl ?_
        refine zj_iload dX9_layFaces_71 rfl ?_
        refine zj_callV (M' := mX9_bitsAt) (avs := [.int x3, .int x4]) (st := [.int x2, .ref (w + 8 + x1.toNatClampNeg)]) (ci := 9) dX9_layFaces_73 wm_X9_bitsAt wl_X9_59 wi_X9_bitsAt ws_X9_bitsAt (by decide) (zWk0 hL hw) rfl rfl (by decide) rfl (Nat.le_of_ble_eq_true rfl) (Nat.le_of_ble_eq_true rfl) ⟨Or.inl (z_k0 (zWk0 hL hw)), trivial⟩ ⟨Or.inl (z_k0 (zWg7k hL hw hi3)), trivial⟩ (z_J.mono h (fun r S1 v4 hq => ?_))
        obtain ⟨y2, rfl, rfl, h⟩ := hq
        refine zj_iastore dX9_layFaces_76 (zWg7k hL hw hi3) (by rw [(zWg7l hL hw hi3)]; exact h.1) (fun v5 ev5 => ?_)
        replace h := h.2 v5 ev5
        refine zj_iinc (y := x2 + 1) (ls2 := [.ref w, .int x1, .int (x2 + 1), .int x3, .int x4]) dX9_layFaces_77 rfl rfl (by decide) rfl rfl ?_
        refine zj_iinc (y := x4 + 1) (ls2 := [.ref w, .int x1, .int (x2 + 1), .int x3, .int (x4 + 1)]) dX9_layFaces_80 rfl rfl (by decide) rfl rfl ?_
        refine zj_goto (tgt := 15) dX9_layFaces_83 (by decide) ?_
        exact h
theorem sg_X9_layQubits_0 {G : z_G} {d : Nat} {S : z_Shp} {v : z_Dat} {Q : Option Value → z_Shp → z_Dat → Prop} {w : Nat} {x1 : Int32} (hL : z_L S) (hw : z_isW w)
    (h : z_J G d mX9_layQubits (2, [.ref w, .int x1, .int 0, .null, .null], [], S, v) Q) :
    z_J G d mX9_layQubits (0, [.ref w, .int x1, .null, .null, .null], [], S, v) Q := by
  refine zj_iconst (x := 0) dX9_layQubits_0 rfl ?_
  refine zj_istore_n (ls2 := [.ref w, .int x1, .int 0, .null, .null]) dX9_layQubits_1 rfl (by decide) rfl rfl ?_
  exact h
theorem sg_X9_layQubits_2 {G : z_G} {d : Nat} {S : z_Shp} {v : z_Dat} {Q : Option Value → z_Shp → z_Dat → Prop} {x1 : Int32} {x2 : Int32} {w : Nat} (hL : z_L S) (hw : z_isW w)
    (h : ((v w 1) ≤ x2 → (Q none S v)) ∧ (¬ (v w 1) ≤ x2 → (z_J G d mX9_checksOn (0, [.ref w, .int x1, .int x2, .null, .null], [], S, v) (fun r S1 v1 => ∃ y1 : Int32, r = some (.int y1) ∧ S1 = S ∧ ((vp_in x1 2) ∧ (z_J G d mJ6_numberOfTrailingZeros_0f7a4 (0, [.int y1, .null], [], S, v1) (fun r S1 v2 => ∃ y2 : Int32, r = some (.int y2) ∧ S1 = S ∧ (vp_in x2 25 ∧ (∀ v3, v3 = z_u v2 (w + 11 + x1.toNatClampNeg) x2.toNatClampNeg y2 → ((vp_in x1 2) ∧ ((¬ (y1 &&& (y1 - 1)) = 0 → (z_J G d mJ6_numberOfTrailingZeros_0f7a4 (0, [.int (y1 &&& (y1 - 1)), .null], [], S, v3) (fun r S1 v4 => ∃ y3 : Int32, r = some (.int y3) ∧ S1 = S ∧ (vp_in x2 25 ∧ (∀ v5, v5 = z_u v4 (w + 14 + x1.toNatClampNeg) x2.toNatClampNeg y3 → (z_J G (d + 1) mX9_layQubits (2, [.ref w, .int x1, .int (x2 + 1), .null, .null], [], S, v5) Q)))))) ∧ (¬ ¬ (y1 &&& (y1 - 1)) = 0 → (vp_in x2 25 ∧ (∀ v6, v6 = z_u v3 (w + 14 + x1.toNatClampNeg) x2.toNatClampNeg (-1) → (z_J G (d + 1) mX9_layQubits (2, [.ref w, .int x1, .int (x2 + 1), .null, .null], [], S, v6) Q))))))))))))))) :
    z_J G (d + 1) mX9_layQubits (2, [.ref w, .int x1, .int x2, .null, .null], [], S, v) Q := by
  refine zj_iload_n dX9_layQubits_2 rfl rfl ?_
  refine zj_aload_n dX9_layQubits_3 rfl rfl ?_
  refine zj_getI (ci := 9) (j := 1) dX9_layQubits_4 wf_X9_39 (by decide) (by decide) (zWk0 hL hw) rfl ?_
  refine zj_icmp_ge (tgt := 64) dX9_layQubits_7 (by decide) (fun c => ?_) (fun c => ?_)
  · replace h := h.1 c
    exact zj_vret dX9_layQubits_64 rfl h
  · replace h := h.2 c
    refine zj_aload_n dX9_layQubits_10 rfl rfl ?_
    refine zj_iload_n dX9_layQubits_11 rfl rfl ?_
    refine zj_iload_n dX9_layQubits_12 rfl rfl ?_
    refine zj_callV (M' := mX9_checksOn) (avs := [.int x1, .int x2]) (st := []) (ci := 9) dX9_layQubits_13 wm_X9_checksOn wl_X9_62 wi_X9_checksOn ws_X9_checksOn (by decide) (zWk0 hL hw) rfl rfl (by decide) rfl (Nat.le_of_ble_eq_true rfl) (Nat.le_of_ble_eq_true rfl) ⟨Or.inl (z_k0 (zWk0 hL hw)), trivial⟩ trivial (z_J.mono h (fun r S1 v1 hq => ?_))
    obtain ⟨y1, rfl, rfl, h⟩ := hq
    refine zj_istore_n (ls2 := [.ref w, .int x1, .int x2, .int y1, .null]) dX9_layQubits_16 rfl (by decide) rfl rfl ?_
    refine zj_iload_n dX9_layQubits_17 rfl rfl ?_
    refine zj_iload_n dX9_layQubits_18 rfl rfl ?_
    refine zj_iconst (x := 1) dX9_layQubits_19 rfl ?_
    refine zj_isub dX9_layQubits_20 ?_
    refine zj_iand dX9_layQubits_21 ?_
    refine zj_istore (ls2 := [.ref w, .int x1, .int x2, .int y1, .int (y1 &&& (y1 - 1))]) dX9_layQubits_22 (by decide) rfl rfl ?_
    refine zj_aload_n dX9_layQubits_24 rfl rfl ?_
    refine zj_getR (ci := 9) (j := 6) dX9_layQubits_25 wf_X9_22 (by decide) (by decide) (zWk0 hL hw) rfl (zWr0_6 hL hw) ?_
    refine zj_iload_n dX9_layQubits_28 rfl rfl ?_
    obtain ⟨hi1, h⟩ := h
    refine zj_aaload0 dX9_layQubits_29 (zWk10 hL hw) (by rw [(zWl10 hL hw)]; exact hi1) (zWg10r hL hw hi1) ?_
    refine zj_iload_n dX9_layQubits_30 rfl rfl ?_
    refine zj_iload_n dX9_layQubits_31 rfl rfl ?_
    refine zj_callS (M' := mJ6_numberOfTrailingZeros_0f7a4) (avs := [.int y1]) (st := [.int x2, .ref (w + 11 + x1.toNatClampNeg)]) dX9_layQubits_32 wm_J6_numberOfTrailingZeros_0f7a4 wl_X9_65 wt_J6_numberOfTrailingZeros_0f7a4 rfl (by decide) rfl (Nat.le_of_ble_eq_true rfl) (Nat.le_of_ble_eq_true rfl) ⟨Or.inl (z_k0 (zWk0 hL hw)), trivial⟩ ⟨Or.inl (z_k0 (zWg10k hL hw hi1)), trivial⟩ (z_J.mono h (fun r S1 v2 hq => ?_))
    obtain ⟨y2, rfl, rfl, h⟩ := hq
    refine zj_iastore dX9_layQubits_35 (zWg10k hL hw hi1) (by rw [(zWg10l hL hw hi1)]; exact h.1) (fun v3 ev3 => ?_)
    replace h := h.2 v3 ev3
    refine zj_aload_n dX9_layQubits_36 rfl rfl ?_
    refine zj_getR (ci := 9) (j := 7) dX9_layQubits_37 wf_X9_25 (by decide) (by decide) (zWk0 hL hw) rfl (zWr0_7 hL hw) ?_
    refine zj_iload_n dX9_layQubits_40 rfl rfl ?_
    obtain ⟨hi2, h⟩ := h
    refine zj_aaload0 dX9_layQubits_41 (zWk13 hL hw) (by rw [(zWl13 hL hw)]; exact hi2) (zWg13r hL hw hi2) ?_
    refine zj_iload_n dX9_layQubits_42 rfl rfl ?_
    refine zj_iload dX9_layQubits_43 rfl ?_
    refine zj_if_ne (tgt := 52) dX9_layQubits_45 (by decide) (fun c => ?_) (fun c => ?_)
    · replace h := h.1 c
      refine zj_iload dX9_layQubits_52 rfl ?_
      refine zj_callS (M' := mJ6_numberOfTrailingZeros_0f7a4) (avs := [.int (y1 &&& (y1 - 1))]) (st := [.int x2, .ref (w + 14 + x1.toNatClampNeg)]) dX9_layQubits_54 wm_J6_numberOfTrailingZeros_0f7a4 wl_X9_65 wt_J6_numberOfTrailingZeros_0f7a4 rfl (by decide) rfl (Nat.le_of_ble_eq_true rfl) (Nat.le_of_ble_eq_true rfl) ⟨Or.inl (z_k0 (zWk0 hL hw)), trivial⟩ ⟨Or.inl (z_k0 (zWg13k hL hw hi2)), trivial⟩ (z_J.mono h (fun r S1 v4 hq => ?_))
      obtain ⟨y3, rfl, rfl, h⟩ := hq
      refine zj_iastore dX9_layQubits_57 (zWg13k hL hw hi2) (by rw [(zWg13l hL hw hi2)]; exact h.1) (fun v5 ev5 => ?_)
      replace h := h.2 v5 ev5
      refine zj_iinc (y := x2 + 1) (ls2 := [.ref w, .int x1, .int (x2 + 1), .int y1, .int (y1 &&& (y1 - 1))]) dX9_layQubits_58 rfl rfl (by decide) rfl rfl ?_
      refine zj_goto (tgt := 2) dX9_layQubits_61 (by decide) ?_
      refine zj_forget (ls2 := [.ref w, .int x1, .int (x2 + 1), .null, .null]) ⟨Or.inr rfl, Or.inr rfl, Or.inr rfl, Or.inl rfl, Or.inl rfl, trivial⟩ ?_
      exact h
    · replace h := h.2 c
      refine zj_iconst (x := (-1)) dX9_layQubits_48 rfl ?_
      refine zj_goto (tgt := 57) dX9_layQubits_49 (by decide) ?_
      refine zj_iastore dX9_layQubits_57 (zWg13k hL hw hi2) (by rw [(zWg13l hL hw hi2)]; exact h.1) (fun v6 ev6 => ?_)
      replace h := h.2 v6 ev6
      refine zj_iinc (y := x2 + 1) (ls2 := [.ref w, .int x1, .int (x2 + 1), .int y1, .int (y1 &&& (y1 - 1))]) dX9_layQubits_58 rfl rfl (by decide) rfl rfl ?_
      refine zj_goto (tgt := 2) dX9_layQubits_61 (by decide) ?_
      refine zj_forget (ls2 := [.ref w, .int x1, .int (x2 + 1), .null, .null]) ⟨Or.inr rfl, Or.inr rfl, Or.inr rfl, Or.inl rfl, Or.inl rfl, trivial⟩ ?_
      exact h
theorem sg_X9_logicalOf_0 {G : z_G} {d : Nat} {S : z_Shp} {v : z_Dat} {Q : Option Value → z_Shp → z_Dat → Prop} {w : Nat} {x1 : Int32} {x2 : Int32} (hL : z_L S) (hw : z_isW w)
    (h : (vp_in x1 2) ∧ (z_J G d mJ6_bitCount_0f7a4 (0, [.int (x2 &&& (v (w + 16) x1.toNatClampNeg))], [], S, v) (fun r S1 v1 => ∃ y1 : Int32, r = some (.int y1) ∧ S1 = S ∧ (Q (some (.int (y1 &&& 1))) S v1)))) :
    z_J G (d + 1) mX9_logicalOf (0, [.ref w, .int x1, .int x2], [], S, v) Q := by
  refine zj_iload_n dX9_logicalOf_0 rfl rfl ?_
  refine zj_aload_n dX9_logicalOf_1 rfl rfl ?_
  refine zj_getR (ci := 9) (j := 8) dX9_logicalOf_2 wf_X9_28 (by decide) (by decide) (zWk0 hL hw) rfl (zWr0_8 hL hw) ?_
  refine zj_iload_n dX9_logicalOf_5 rfl rfl ?_
  refine zj_iaload dX9_logicalOf_6 (zWk16 hL hw) (by rw [(zWl16 hL hw)]; exact h.1) ?_
  replace h := h.2
  refine zj_iand dX9_logicalOf_7 ?_
  refine zj_callS (M' := mJ6_bitCount_0f7a4) (avs := [.int (x2 &&& (v (w + 16) x1.toNatClampNeg))]) (st := []) dX9_logicalOf_8 wm_J6_bitCount_0f7a4 wl_X9_71 wt_J6_bitCount_0f7a4 rfl (by decide) rfl (Nat.le_of_ble_eq_true rfl) (Nat.le_of_ble_eq_true rfl) ⟨Or.inl (z_k0 (zWk0 hL hw)), trivial⟩ trivial (z_J.mono h (fun r S1 v1 hq => ?_))
  obtain ⟨y1, rfl, rfl, h⟩ := hq
  refine zj_iconst (x := 1) dX9_logicalOf_11 rfl ?_
  refine zj_iand dX9_logicalOf_12 ?_
  exact zj_iret dX9_logicalOf_13 rfl rfl h
