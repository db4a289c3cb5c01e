theorem sg_J6_bitCount_0f7a4_0 {G : z_G} {d : Nat} {S : z_Shp} {v : z_Dat} {Q : Option Value → z_Shp → z_Dat → Prop} {x0 : Int32}
    (h : Q (some (.int ((((((((x0 - ((z_us x0 1) &&& 1431655765)) &&& 858993459) + ((z_us (x0 - ((z_us x0 1) &&& 1431655765)) 2) &&& 858993459)) + (z_us (((x0 - ((z_us x0 1) &&& 1431655765)) &&& 858993459) + ((z_us (x0 - ((z_us x0 1) &&& 1431655765)) 2) &&& 858993459)) 4)) &&& 252645135) + (z_us (((((x0 - ((z_us x0 1) &&& 1431655765)) &&& 858993459) + ((z_us (x0 - ((z_us x0 1) &&& 1431655765)) 2) &&& 858993459)) + (z_us (((x0 - ((z_us x0 1) &&& 1431655765)) &&& 858993459) + ((z_us (x0 - ((z_us x0 1) &&& 1431655765)) 2) &&& 858993459)) 4)) &&& 252645135) 8)) + (z_us ((((((x0 - ((z_us x0 1) &&& 1431655765)) &&& 858993459) + ((z_us (x0 - ((z_us x0 1) &&& 1431655765)) 2) &&& 858993459)) + (z_us (((x0 - ((z_us x0 1) &&& 1431655765)) &&& 858993459) + ((z_us (x0 - ((z_us x0 1) &&& 1431655765)) 2) &&& 858993459)) 4)) &&& 252645135) + (z_us (((((x0 - ((z_us x0 1) &&& 1431655765)) &&& 858993459) + ((z_us (x0 - ((z_us x0 1) &&& 1431655765)) 2) &&& 858993459)) + (z_us (((x0 - ((z_us x0 1) &&& 1431655765)) &&& 858993459) + ((z_us (x0 - ((z_us x0 1) &&& 1431655765)) 2) &&& 858993459)) 4)) &&& 252645135) 8)) 16)) &&& 63))) S v) :
    z_J G d mJ6_bitCount_0f7a4 (0, [.int x0], [], S, v) Q := by
  refine zj_iload_n dJ6_bitCount_0f7a4_0 rfl rfl ?_
  refine zj_iload_n dJ6_bitCount_0f7a4_1 rfl rfl ?_
  refine zj_iconst (x := 1) dJ6_bitCount_0f7a4_2 rfl ?_
  refine zj_iushr dJ6_bitCount_0f7a4_3 ?_
  refine zj_ldcw (x := 1431655765) dJ6_bitCount_0f7a4_4 wc_J6_265 ?_
  refine zj_iand dJ6_bitCount_0f7a4_7 ?_
  refine zj_isub dJ6_bitCount_0f7a4_8 ?_
  refine zj_istore_n (ls2 := [.int (x0 - ((z_us x0 1) &&& 1431655765))]) dJ6_bitCount_0f7a4_9 rfl (by decide) rfl rfl ?_
  refine zj_iload_n dJ6_bitCount_0f7a4_10 rfl rfl ?_
  refine zj_ldcw (x := 858993459) dJ6_bitCount_0f7a4_11 wc_J6_266 ?_
  refine zj_iand dJ6_bitCount_0f7a4_14 ?_
  refine zj_iload_n dJ6_bitCount_0f7a4_15 rfl rfl ?_
  refine zj_iconst (x := 2) dJ6_bitCount_0f7a4_16 rfl ?_
  refine zj_iushr dJ6_bitCount_0f7a4_17 ?_
  refine zj_ldcw (x := 858993459) dJ6_bitCount_0f7a4_18 wc_J6_266 ?_
  refine zj_iand dJ6_bitCount_0f7a4_21 ?_
  refine zj_iadd dJ6_bitCount_0f7a4_22 ?_
  refine zj_istore_n (ls2 := [.int (((x0 - ((z_us x0 1) &&& 1431655765)) &&& 858993459) + ((z_us (x0 - ((z_us x0 1) &&& 1431655765)) 2) &&& 858993459))]) dJ6_bitCount_0f7a4_23 rfl (by decide) rfl rfl ?_
  refine zj_iload_n dJ6_bitCount_0f7a4_24 rfl rfl ?_
  refine zj_iload_n dJ6_bitCount_0f7a4_25 rfl rfl ?_
  refine zj_iconst (x := 4) dJ6_bitCount_0f7a4_26 rfl ?_
  refine zj_iushr dJ6_bitCount_0f7a4_27 ?_
  refine zj_iadd dJ6_bitCount_0f7a4_28 ?_
  refine zj_ldcw (x := 252645135) dJ6_bitCount_0f7a4_29 wc_J6_267 ?_
  refine zj_iand dJ6_bitCount_0f7a4_32 ?_
  refine zj_istore_n (ls2 := [.int (((((x0 - ((z_us x0 1) &&& 1431655765)) &&& 858993459) + ((z_us (x0 - ((z_us x0 1) &&& 1431655765)) 2) &&& 858993459)) + (z_us (((x0 - ((z_us x0 1) &&& 1431655765)) &&& 858993459) + ((z_us (x0 - ((z_us x0 1) &&& 1431655765)) 2) &&& 858993459)) 4)) &&& 252645135)]) dJ6_bitCount_0f7a4_33 rfl (by decide) rfl rfl ?_
  refine zj_iload_n dJ6_bitCount_0f7a4_34 rfl rfl ?_
  refine zj_iload_n dJ6_bitCount_0f7a4_35 rfl rfl ?_
  refine zj_bipush (x := 8) dJ6_bitCount_0f7a4_36 rfl ?_
  refine zj_iushr dJ6_bitCount_0f7a4_38 ?_
  refine zj_iadd dJ6_bitCount_0f7a4_39 ?_
  refine zj_istore_n (ls2 := [.int ((((((x0 - ((z_us x0 1) &&& 1431655765)) &&& 858993459) + ((z_us (x0 - ((z_us x0 1) &&& 1431655765)) 2) &&& 858993459)) + (z_us (((x0 - ((z_us x0 1) &&& 1431655765)) &&& 858993459) + ((z_us (x0 - ((z_us x0 1) &&& 1431655765)) 2) &&& 858993459)) 4)) &&& 252645135) + (z_us (((((x0 - ((z_us x0 1) &&& 1431655765)) &&& 858993459) + ((z_us (x0 - ((z_us x0 1) &&& 1431655765)) 2) &&& 858993459)) + (z_us (((x0 - ((z_us x0 1) &&& 1431655765)) &&& 858993459) + ((z_us (x0 - ((z_us x0 1) &&& 1431655765)) 2) &&& 858993459)) 4)) &&& 252645135) 8))]) dJ6_bitCount_0f7a4_40 rfl (by decide) rfl rfl ?_
  refine zj_iload_n dJ6_bitCount_0f7a4_41 rfl rfl ?_
  refine zj_iload_n dJ6_bitCount_0f7a4_42 rfl rfl ?_
  refine zj_bipush (x := 16) dJ6_bitCount_0f7a4_43 rfl ?_
  refine zj_iushr dJ6_bitCount_0f7a4_45 ?_
  refine zj_iadd dJ6_bitCount_0f7a4_46 ?_
  refine zj_istore_n (ls2 := [.int (((((((x0 - ((z_us x0 1) &&& 1431655765)) &&& 858993459) + ((z_us (x0 - ((z_us x0 1) &&& 1431655765)) 2) &&& 858993459)) + (z_us (((x0 - ((z_us x0 1) &&& 1431655765)) &&& 858993459) + ((z_us (x0 - ((z_us x0 1) &&& 1431655765)) 2) &&& 858993459)) 4)) &&& 252645135) + (z_us (((((x0 - ((z_us x0 1) &&& 1431655765)) &&& 858993459) + ((z_us (x0 - ((z_us x0 1) &&& 1431655765)) 2) &&& 858993459)) + (z_us (((x0 - ((z_us x0 1) &&& 1431655765)) &&& 858993459) + ((z_us (x0 - ((z_us x0 1) &&& 1431655765)) 2) &&& 858993459)) 4)) &&& 252645135) 8)) + (z_us ((((((x0 - ((z_us x0 1) &&& 1431655765)) &&& 858993459) + ((z_us (x0 - ((z_us x0 1) &&& 1431655765)) 2) &&& 858993459)) + (z_us (((x0 - ((z_us x0 1) &&& 1431655765)) &&& 858993459) + ((z_us (x0 - ((z_us x0 1) &&& 1431655765)) 2) &&& 858993459)) 4)) &&& 252645135) + (z_us (((((x0 - ((z_us x0 1) &&& 1431655765)) &&& 858993459) + ((z_us (x0 - ((z_us x0 1) &&& 1431655765)) 2) &&& 858993459)) + (z_us (((x0 - ((z_us x0 1) &&& 1431655765)) &&& 858993459) + ((z_us (x0 - ((z_us x0 1) &&& 1431655765)) 2) &&& 858993459)) 4)) &&& 252645135) 8)) 16))]) dJ6_bitCount_0f7a4_47 rfl (by decide) rfl rfl ?_
  refine zj_iload_n dJ6_bitCount_0f7a4_48 rfl rfl ?_
  refine zj_bipush (x := 63) dJ6_bitCount_0f7a4_49 rfl ?_
  refine zj_iand dJ6_bitCount_0f7a4_51 ?_
  exact zj_iret dJ6_bitCount_0f7a4_52 rfl rfl h
theorem sg_J6_numberOfTrailingZeros_0f7a4_0 {G : z_G} {d : Nat} {S : z_Shp} {v : z_Dat} {Q : Option Value → z_Shp → z_Dat → Prop} {x0 : Int32}
    (h : (0 < ((x0 ^^^ (-1)) &&& (x0 - 1)) → ((((x0 ^^^ (-1)) &&& (x0 - 1)) ≤ 65536 → (z_J G d mJ6_numberOfTrailingZeros_0f7a4 (34, [.int ((x0 ^^^ (-1)) &&& (x0 - 1)), .int 1], [], S, v) Q)) ∧ (¬ ((x0 ^^^ (-1)) &&& (x0 - 1)) ≤ 65536 → (z_J G d mJ6_numberOfTrailingZeros_0f7a4 (34, [.int (z_us ((x0 ^^^ (-1)) &&& (x0 - 1)) 16), .int (1 + 16)], [], S, v) Q)))) ∧ (¬ 0 < ((x0 ^^^ (-1)) &&& (x0 - 1)) → (Q (some (.int (((x0 ^^^ (-1)) &&& (x0 - 1)) &&& 32))) S v))) :
    z_J G d mJ6_numberOfTrailingZeros_0f7a4 (0, [.int x0, .null], [], S, v) Q := by
  refine zj_iload_n dJ6_numberOfTrailingZeros_0f7a4_0 rfl rfl ?_
  refine zj_iconst (x := (-1)) dJ6_numberOfTrailingZeros_0f7a4_1 rfl ?_
  refine zj_ixor dJ6_numberOfTrailingZeros_0f7a4_2 ?_
  refine zj_iload_n dJ6_numberOfTrailingZeros_0f7a4_3 rfl rfl ?_
  refine zj_iconst (x := 1) dJ6_numberOfTrailingZeros_0f7a4_4 rfl ?_
  refine zj_isub dJ6_numberOfTrailingZeros_0f7a4_5 ?_
  refine zj_iand dJ6_numberOfTrailingZeros_0f7a4_6 ?_
  refine zj_istore_n (ls2 := [.int ((x0 ^^^ (-1)) &&& (x0 - 1)), .null]) dJ6_numberOfTrailingZeros_0f7a4_7 rfl (by decide) rfl rfl ?_
  refine zj_iload_n dJ6_numberOfTrailingZeros_0f7a4_8 rfl rfl ?_
  refine zj_if_gt (tgt := 17) dJ6_numberOfTrailingZeros_0f7a4_9 (by decide) (fun c => ?_) (fun c => ?_)
  · replace h := h.1 c
    refine zj_iconst (x := 1) dJ6_numberOfTrailingZeros_0f7a4_17 rfl ?_
    refine zj_istore_n (ls2 := [.int ((x0 ^^^ (-1)) &&& (x0 - 1)), .int 1]) dJ6_numberOfTrailingZeros_0f7a4_18 rfl (by decide) rfl rfl ?_
    refine zj_iload_n dJ6_numberOfTrailingZeros_0f7a4_19 rfl rfl ?_
    refine zj_ldcw (x := 65536) dJ6_numberOfTrailingZeros_0f7a4_20 wc_J6_264 ?_
    refine zj_icmp_le (tgt := 34) dJ6_numberOfTrailingZeros_0f7a4_23 (by decide) (fun c => ?_) (fun c => ?_)
    · replace h := h.1 c
      exact h
    · replace h := h.2 c
      refine zj_iinc (y := 1 + 16) (ls2 := [.int ((x0 ^^^ (-1)) &&& (x0 - 1)), .int (1 + 16)]) dJ6_numberOfTrailingZeros_0f7a4_26 rfl rfl (by decide) rfl rfl ?_
      refine zj_iload_n dJ6_numberOfTrailingZeros_0f7a4_29 rfl rfl ?_
      refine zj_bipush (x := 16) dJ6_numberOfTrailingZeros_0f7a4_30 rfl ?_
      refine zj_iushr dJ6_numberOfTrailingZeros_0f7a4_32 ?_
      refine zj_istore_n (ls2 := [.int (z_us ((x0 ^^^ (-1)) &&& (x0 - 1)) 16), .int (1 + 16)]) dJ6_numberOfTrailingZeros_0f7a4_33 rfl (by decide) rfl rfl ?_
      exact h
  · replace h := h.2 c
    refine zj_iload_n dJ6_numberOfTrailingZeros_0f7a4_12 rfl rfl ?_
    refine zj_bipush (x := 32) dJ6_numberOfTrailingZeros_0f7a4_13 rfl ?_
    refine zj_iand dJ6_numberOfTrailingZeros_0f7a4_15 ?_
    exact zj_iret dJ6_numberOfTrailingZeros_0f7a4_16 rfl rfl h
theorem sg_J6_numberOfTrailingZeros_0f7a4_34 {G : z_G} {d : Nat} {S : z_Shp} {v : z_Dat} {Q : Option Value → z_Shp → z_Dat → Prop} {x0 : Int32} {x1 : Int32}
    (h : (x0 ≤ 256 → (z_J G d mJ6_numberOfTrailingZeros_0f7a4 (49, [.int x0, .int x1], [], S, v) Q)) ∧ (¬ x0 ≤ 256 → (z_J G d mJ6_numberOfTrailingZeros_0f7a4 (49, [.int (z_us x0 8), .int (x1 + 8)], [], S, v) Q))) :
    z_J G d mJ6_numberOfTrailingZeros_0f7a4 (34, [.int x0, .int x1], [], S, v) Q := by
  refine zj_iload_n dJ6_numberOfTrailingZeros_0f7a4_34 rfl rfl ?_
  refine zj_sipush (x := 256) dJ6_numberOfTrailingZeros_0f7a4_35 rfl ?_
  refine zj_icmp_le (tgt := 49) dJ6_numberOfTrailingZeros_0f7a4_38 (by decide) (fun c => ?_) (fun c => ?_)
  · replace h := h.1 c
    exact h
  · replace h := h.2 c
    refine zj_iinc (y := x1 + 8) (ls2 := [.int x0, .int (x1 + 8)]) dJ6_numberOfTrailingZeros_0f7a4_41 rfl rfl (by decide) rfl rfl ?_
    refine zj_iload_n dJ6_numberOfTrailingZeros_0f7a4_44 rfl rfl ?_
    refine zj_bipush (x := 8) dJ6_numberOfTrailingZeros_0f7a4_45 rfl ?_
    refine zj_iushr dJ6_numberOfTrailingZeros_0f7a4_47 ?_
    refine zj_istore_n (ls2 := [.int (z_us x0 8), .int (x1 + 8)]) dJ6_numberOfTrailingZeros_0f7a4_48 rfl (by decide) rfl rfl ?_
    exact h
theorem sg_J6_numberOfTrailingZeros_0f7a4_49 {G : z_G} {d : Nat} {S : z_Shp} {v : z_Dat} {Q : Option Value → z_Shp → z_Dat → Prop} {x0 : Int32} {x1 : Int32}
    (h : (x0 ≤ 16 → (z_J G d mJ6_numberOfTrailingZeros_0f7a4 (62, [.int x0, .int x1], [], S, v) Q)) ∧ (¬ x0 ≤ 16 → (z_J G d mJ6_numberOfTrailingZeros_0f7a4 (62, [.int (z_us x0 4), .int (x1 + 4)], [], S, v) Q))) :
    z_J G d mJ6_numberOfTrailingZeros_0f7a4 (49, [.int x0, .int x1], [], S, v) Q := by
  refine zj_iload_n dJ6_numberOfTrailingZeros_0f7a4_49 rfl rfl ?_
  refine zj_bipush (x := 16) dJ6_numberOfTrailingZeros_0f7a4_50 rfl ?_
  refine zj_icmp_le (tgt := 62) dJ6_numberOfTrailingZeros_0f7a4_52 (by decide) (fun c => ?_) (fun c => ?_)
  · replace h := h.1 c
    exact h
  · replace h := h.2 c
    refine zj_iinc (y := x1 + 4) (ls2 := [.int x0, .int (x1 + 4)]) dJ6_numberOfTrailingZeros_0f7a4_55 rfl rfl (by decide) rfl rfl ?_
    refine zj_iload_n dJ6_numberOfTrailingZeros_0f7a4_58 rfl rfl ?_
    refine zj_iconst (x := 4) dJ6_numberOfTrailingZeros_0f7a4_59 rfl ?_
    refine zj_iushr dJ6_numberOfTrailingZeros_0f7a4_60 ?_
    refine zj_istore_n (ls2 := [.int (z_us x0 4), .int (x1 + 4)]) dJ6_numberOfTrailingZeros_0f7a4_61 rfl (by decide) rfl rfl ?_
    exact h
theorem sg_J6_numberOfTrailingZeros_0f7a4_62 {G : z_G} {d : Nat} {S : z_Shp} {v : z_Dat} {Q : Option Value → z_Shp → z_Dat → Prop} {x0 : Int32} {x1 : Int32}
    (h : (x0 ≤ 4 → (z_J G d mJ6_numberOfTrailingZeros_0f7a4 (74, [.int x0, .int x1], [], S, v) Q)) ∧ (¬ x0 ≤ 4 → (z_J G d mJ6_numberOfTrailingZeros_0f7a4 (74, [.int (z_us x0 2), .int (x1 + 2)], [], S, v) Q))) :
    z_J G d mJ6_numberOfTrailingZeros_0f7a4 (62, [.int x0, .int x1], [], S, v) Q := by
  refine zj_iload_n dJ6_numberOfTrailingZeros_0f7a4_62 rfl rfl ?_
  refine zj_iconst (x := 4) dJ6_numberOfTrailingZeros_0f7a4_63 rfl ?_
  refine zj_icmp_le (tgt := 74) dJ6_numberOfTrailingZeros_0f7a4_64 (by decide) (fun c => ?_) (fun c => ?_)
  · replace h := h.1 c
    exact h
  · replace h := h.2 c
    refine zj_iinc (y := x1 + 2) (ls2 := [.int x0, .int (x1 + 2)]) dJ6_numberOfTrailingZeros_0f7a4_67 rfl rfl (by decide) rfl rfl ?_
    refine zj_iload_n dJ6_numberOfTrailingZeros_0f7a4_70 rfl rfl ?_
    refine zj_iconst (x := 2) dJ6_numberOfTrailingZeros_0f7a4_71 rfl ?_
    refine zj_iushr dJ6_numberOfTrailingZeros_0f7a4_72 ?_
    refine zj_istore_n (ls2 := [.int (z_us x0 2), .int (x1 + 2)]) dJ6_numberOfTrailingZeros_0f7a4_73 rfl (by decide) rfl rfl ?_
    exact h
theorem sg_J6_numberOfTrailingZeros_0f7a4_74 {G : z_G} {d : Nat} {S : z_Shp} {v : z_Dat} {Q : Option Value → z_Shp → z_Dat → Prop} {x0 : Int32} {x1 : Int32}
    (h : Q (some (.int (x1 + (z_us x0 1)))) S v) :
    z_J G d mJ6_numberOfTrailingZeros_0f7a4 (74, [.int x0, .int x1], [], S, v) Q := by
  refine zj_iload_n dJ6_numberOfTrailingZeros_0f7a4_74 rfl rfl ?_
  refine zj_iload_n dJ6_numberOfTrailingZeros_0f7a4_75 rfl rfl ?_
  refine zj_iconst (x := 1) dJ6_numberOfTrailingZeros_0f7a4_76 rfl ?_
  refine zj_iushr dJ6_numberOfTrailingZeros_0f7a4_77 ?_
  refine zj_iadd dJ6_numberOfTrailingZeros_0f7a4_78 ?_
  exact zj_iret dJ6_numberOfTrailingZeros_0f7a4_79 rfl rfl h
theorem sg_X0_drawBehind_0 {G : z_G} {d : Nat} {S : z_Shp} {v : z_Dat} {Q : Option Value → z_Shp → z_Dat → Prop} {x0 : Int32}
    (h : Q (some (.int ((x0 * 1103515245) + 12345))) S v) :
    z_J G d mX0_drawBehind (0, [.int x0], [], S, v) Q := by
  refine zj_iload_n dX0_drawBehind_0 rfl rfl ?_
  refine zj_ldc (x := 1103515245) dX0_drawBehind_1 wc_X0_87 ?_
  refine zj_imul dX0_drawBehind_3 ?_
  refine zj_sipush (x := 12345) dX0_drawBehind_4 rfl ?_
  refine zj_iadd dX0_drawBehind_7 ?_
  exact zj_iret dX0_drawBehind_8 rfl rfl h
theorem sg_X0_drawOf_0 {G : z_G} {d : Nat} {S : z_Shp} {v : z_Dat} {Q : Option Value → z_Shp → z_Dat → Prop} {x0 : Int32}
    (h : Q (some (.int ((z_us x0 8) - (z_us x0 8) / 64 * 64))) S v) :
    z_J G d mX0_drawOf (0, [.int x0], [], S, v) Q := by
  refine zj_iload_n dX0_drawOf_0 rfl rfl ?_
  refine zj_bipush (x := 8) dX0_drawOf_1 rfl ?_
  refine zj_iushr dX0_drawOf_3 ?_
  refine zj_bipush (x := 64) dX0_drawOf_4 rfl ?_
  refine zj_irem dX0_drawOf_6 (by decide) ?_
  exact zj_iret dX0_drawOf_7 rfl rfl h
theorem sg_X10_isFactor_0 {G : z_G} {d : Nat} {S : z_Shp} {v : z_Dat} {Q : Option Value → z_Shp → z_Dat → Prop} {x0 : Int32}
    (h : (x0 < 0 → (Q (some (.int 0)) S v)) ∧ (¬ x0 < 0 → ((99 < x0 → (Q (some (.int 0)) S v)) ∧ (¬ 99 < x0 → (Q (some (.int 1)) S v))))) :
    z_J G d mX10_isFactor (0, [.int x0], [], S, v) Q := by
  refine zj_iload_n dX10_isFactor_0 rfl rfl ?_
  refine zj_if_lt (tgt := 14) dX10_isFactor_1 (by decide) (fun c => ?_) (fun c => ?_)
  · replace h := h.1 c
    refine zj_iconst (x := 0) dX10_isFactor_14 rfl ?_
    exact zj_iret dX10_isFactor_15 rfl (by decide) h
  · replace h := h.2 c
    refine zj_iload_n dX10_isFactor_4 rfl rfl ?_
    refine zj_bipush (x := 99) dX10_isFactor_5 rfl ?_
    refine zj_icmp_gt (tgt := 14) dX10_isFactor_7 (by decide) (fun c => ?_) (fun c => ?_)
    · replace h := h.1 c
      refine zj_iconst (x := 0) dX10_isFactor_14 rfl ?_
      exact zj_iret dX10_isFactor_15 rfl (by decide) h
    · replace h := h.2 c
      refine zj_iconst (x := 1) dX10_isFactor_10 rfl ?_
      refine zj_goto (tgt := 15) dX10_isFactor_11 (by decide) ?_
      exact zj_iret dX10_isFactor_15 rfl (by decide) h
theorem sg_X10_isKind_0 {G : z_G} {d : Nat} {S : z_Shp} {v : z_Dat} {Q : Option Value → z_Shp → z_Dat → Prop} {x0 : Int32}
    (h : (x0 = 0 → (Q (some (.int 1)) S v)) ∧ (¬ x0 = 0 → ((¬ x0 = 1 → (Q (some (.int 0)) S v)) ∧ (x0 = 1 → (Q (some (.int 1)) S v))))) :
    z_J G d mX10_isKind (0, [.int x0], [], S, v) Q := by
  refine zj_iload_n dX10_isKind_0 rfl rfl ?_
  refine zj_if_eq (tgt := 9) dX10_isKind_1 (by decide) (fun c => ?_) (fun c => ?_)
  · replace h := h.1 c
    refine zj_iconst (x := 1) dX10_isKind_9 rfl ?_
    refine zj_goto (tgt := 14) dX10_isKind_10 (by decide) ?_
    exact zj_iret dX10_isKind_14 rfl (by decide) h
  · replace h := h.2 c
    refine zj_iload_n dX10_isKind_4 rfl rfl ?_
    refine zj_iconst (x := 1) dX10_isKind_5 rfl ?_
    refine zj_icmp_ne (tgt := 13) dX10_isKind_6 (by decide) (fun c => ?_) (fun c => ?_)
    · replace h := h.1 c
      refine zj_iconst (x := 0) dX10_isKind_13 rfl ?_
      exact zj_iret dX10_isKind_14 rfl (by decide) h
    · replace h := h.2 c
      refine zj_iconst (x := 1) dX10_isKind_9 rfl ?_
      refine zj_goto (tgt := 14) dX10_isKind_10 (by decide) ?_
      exact zj_iret dX10_isKind_14 rfl (by decide) h
theorem sg_X10_isLogical_0 {G : z_G} {d : Nat} {S : z_Shp} {v : z_Dat} {Q : Option Value → z_Shp → z_Dat → Prop} {x0 : Int32}
    (h : (x0 = 0 → (Q (some (.int 1)) S v)) ∧ (¬ x0 = 0 → ((¬ x0 = 1 → (Q (some (.int 0)) S v)) ∧ (x0 = 1 → (Q (some (.int 1)) S v))))) :
    z_J G d mX10_isLogical (0, [.int x0], [], S, v) Q := by
  refine zj_iload_n dX10_isLogical_0 rfl rfl ?_
  refine zj_if_eq (tgt := 9) dX10_isLogical_1 (by decide) (fun c => ?_) (fun c => ?_)
  · replace h := h.1 c
    refine zj_iconst (x := 1) dX10_isLogical_9 rfl ?_
    refine zj_goto (tgt := 14) dX10_isLogical_10 (by decide) ?_
    exact zj_iret dX10_isLogical_14 rfl (by decide) h
  · replace h := h.2 c
    refine zj_iload_n dX10_isLogical_4 rfl rfl ?_
    refine zj_iconst (x := 1) dX10_isLogical_5 rfl ?_
    refine zj_icmp_ne (tgt := 13) dX10_isLogical_6 (by decide) (fun c => ?_) (fun c => ?_)
    · replace h := h.1 c
      refine zj_iconst (x := 0) dX10_isLogical_13 rfl ?_
      exact zj_iret dX10_isLogical_14 rfl (by decide) h
    · replace h := h.2 c
      refine zj_iconst (x := 1) dX10_isLogical_9 rfl ?_
      refine zj_goto (tgt := 14) dX10_isLogical_10 (by decide) ?_
      exact zj_iret dX10_isLogical_14 rfl (by decide) h
theorem sg_X11_bitOf_0 {G : z_G} {d : Nat} {S : z_Shp} {v : z_Dat} {Q : Option Value → z_Shp → z_Dat → Prop} {x0 : Int32} {x1 : Int32}
    (h : (¬ ((x0 >>> (x1 &&& 31)) &&& 1) = 1 → (Q (some (.int 0)) S v)) ∧ (((x0 >>> (x1 &&& 31)) &&& 1) = 1 → (Q (some (.int 1)) S v))) :
    z_J G d mX11_bitOf (0, [.int x0, .int x1], [], S, v) Q := by
  refine zj_iload_n dX11_bitOf_0 rfl rfl ?_
  refine zj_iload_n dX11_bitOf_1 rfl rfl ?_
  refine zj_ishr dX11_bitOf_2 ?_
  refine zj_iconst (x := 1) dX11_bitOf_3 rfl ?_
  refine zj_iand dX11_bitOf_4 ?_
  refine zj_iconst (x := 1) dX11_bitOf_5 rfl ?_
  refine zj_icmp_ne (tgt := 13) dX11_bitOf_6 (by decide) (fun c => ?_) (fun c => ?_)
  · replace h := h.1 c
    refine zj_iconst (x := 0) dX11_bitOf_13 rfl ?_
    exact zj_iret dX11_bitOf_14 rfl (by decide) h
  · replace h := h.2 c
    refine zj_iconst (x := 1) dX11_bitOf_9 rfl ?_
    refine zj_goto (tgt := 14) dX11_bitOf_10 (by decide) ?_
    exact zj_iret dX11_bitOf_14 rfl (by decide) h
theorem sg_X11_bits_0 {G : z_G} {d : Nat} {S : z_Shp} {v : z_Dat} {Q : Option Value → z_Shp → z_Dat → Prop} {x0 : Int32}
    (h : z_J G d mX11_bits (4, [.int x0, .int 0, .int 0], [], S, v) Q) :
    z_J G d mX11_bits (0, [.int x0, .null, .null], [], S, v) Q := by
  refine zj_iconst (x := 0) dX11_bits_0 rfl ?_
  refine zj_istore_n (ls2 := [.int x0, .int 0, .null]) dX11_bits_1 rfl (by decide) rfl rfl ?_
  refine zj_iconst (x := 0) dX11_bits_2 rfl ?_
  refine zj_istore_n (ls2 := [.int x0, .int 0, .int 0]) dX11_bits_3 rfl (by decide) rfl rfl ?_
  exact h
theorem sg_X11_bits_4 {G : z_G} {d : Nat} {S : z_Shp} {v : z_Dat} {Q : Option Value → z_Shp → z_Dat → Prop} {x0 : Int32} {x1 : Int32} {x2 : Int32}
    (h : (32 ≤ x2 → (Q (some (.int x1)) S v)) ∧ (¬ 32 ≤ x2 → (z_J G d mX11_bits (4, [.int x0, .int (x1 + ((x0 >>> (x2 &&& 31)) &&& 1)), .int (x2 + 1)], [], S, v) Q))) :
    z_J G d mX11_bits (4, [.int x0, .int x1, .int x2], [], S, v) Q := by
  refine zj_iload_n dX11_bits_4 rfl rfl ?_
  refine zj_bipush (x := 32) dX11_bits_5 rfl ?_
  refine zj_icmp_ge (tgt := 24) dX11_bits_7 (by decide) (fun c => ?_) (fun c => ?_)
  · replace h := h.1 c
    refine zj_iload_n dX11_bits_24 rfl rfl ?_
    exact zj_iret dX11_bits_25 rfl rfl h
  · replace h := h.2 c
    refine zj_iload_n dX11_bits_10 rfl rfl ?_
    refine zj_iload_n dX11_bits_11 rfl rfl ?_
    refine zj_iload_n dX11_bits_12 rfl rfl ?_
    refine zj_ishr dX11_bits_13 ?_
    refine zj_iconst (x := 1) dX11_bits_14 rfl ?_
    refine zj_iand dX11_bits_15 ?_
    refine zj_iadd dX11_bits_16 ?_
    refine zj_istore_n (ls2 := [.int x0, .int (x1 + ((x0 >>> (x2 &&& 31)) &&& 1)), .int x2]) dX11_bits_17 rfl (by decide) rfl rfl ?_
    refine zj_iinc (y := x2 + 1) (ls2 := [.int x0, .int (x1 + ((x0 >>> (x2 &&& 31)) &&& 1)), .int (x2 + 1)]) dX11_bits_18 rfl rfl (by decide) rfl rfl ?_
    refine zj_goto (tgt := 4) dX11_bits_21 (by decide) ?_
    exact h
theorem sg_X11_d_0 {G : z_G} {d : Nat} {S : z_Shp} {v : z_Dat} {Q : Option Value → z_Shp → z_Dat → Prop} (hL : z_L S)
    (h : Q (some (.int (v 224 0))) S v) :
    z_J G d mX11_d (0, [.ref 223], [], S, v) Q := by
  refine zj_aload_n dX11_d_0 rfl rfl ?_
  refine zj_getR (ci := 11) (j := 1) dX11_d_1 wf_X11_13 (by decide) (by decide) (zk_223 hL) rfl (zr_223_1 hL) ?_
  refine zj_iconst (x := 0) dX11_d_4 rfl ?_
  refine zj_iaload dX11_d_5 (zk_224 hL) (by rw [(zl_224 hL)]; exact z_vin (by decide)) ?_
  exact zj_iret dX11_d_6 rfl rfl h
theorem sg_X11_isIn_0 {G : z_G} {d : Nat} {S : z_Shp} {v : z_Dat} {Q : Option Value → z_Shp → z_Dat → Prop} {x0 : Int32} {x1 : Int32} {x2 : Int32}
    (h : (x0 < x1 → (Q (some (.int 0)) S v)) ∧ (¬ x0 < x1 → ((x2 < x0 → (Q (some (.int 0)) S v)) ∧ (¬ x2 < x0 → (Q (some (.int 1)) S v))))) :
    z_J G d mX11_isIn (0, [.int x0, .int x1, .int x2], [], S, v) Q := by
  refine zj_iload_n dX11_isIn_0 rfl rfl ?_
  refine zj_iload_n dX11_isIn_1 rfl rfl ?_
  refine zj_icmp_lt (tgt := 14) dX11_isIn_2 (by decide) (fun c => ?_) (fun c => ?_)
  · replace h := h.1 c
    refine zj_iconst (x := 0) dX11_isIn_14 rfl ?_
    exact zj_iret dX11_isIn_15 rfl (by decide) h
  · replace h := h.2 c
    refine zj_iload_n dX11_isIn_5 rfl rfl ?_
    refine zj_iload_n dX11_isIn_6 rfl rfl ?_
    refine zj_icmp_gt (tgt := 14) dX11_isIn_7 (by decide) (fun c => ?_) (fun c => ?_)
    · replace h := h.1 c
      refine zj_iconst (x := 0) dX11_isIn_14 rfl ?_
      exact zj_iret dX11_isIn_15 rfl (by decide) h
    · replace h := h.2 c
      refine zj_iconst (x := 1) dX11_isIn_10 rfl ?_
      refine zj_goto (tgt := 15) dX11_isIn_11 (by decide) ?_
      exact zj_iret dX11_isIn_15 rfl (by decide) h
theorem sg_X11_isKind_0 {G : z_G} {d : Nat} {S : z_Shp} {v : z_Dat} {Q : Option Value → z_Shp → z_Dat → Prop} {x0 : Int32}
    (h : (x0 = 0 → (Q (some (.int 1)) S v)) ∧ (¬ x0 = 0 → ((¬ x0 = 1 → (Q (some (.int 0)) S v)) ∧ (x0 = 1 → (Q (some (.int 1)) S v))))) :
    z_J G d mX11_isKind (0, [.int x0], [], S, v) Q := by
  refine zj_iload_n dX11_isKind_0 rfl rfl ?_
  refine zj_if_eq (tgt := 9) dX11_isKind_1 (by decide) (fun c => ?_) (fun c => ?_)
  · replace h := h.1 c
    refine zj_iconst (x := 1) dX11_isKind_9 rfl ?_
    refine zj_goto (tgt := 14) dX11_isKind_10 (by decide) ?_
    exact zj_iret dX11_isKind_14 rfl (by decide) h
  · replace h := h.2 c
    refine zj_iload_n dX11_isKind_4 rfl rfl ?_
    refine zj_iconst (x := 1) dX11_isKind_5 rfl ?_
    refine zj_icmp_ne (tgt := 13) dX11_isKind_6 (by decide) (fun c => ?_) (fun c => ?_)
    · replace h := h.1 c
      refine zj_iconst (x := 0) dX11_isKind_13 rfl ?_
      exact zj_iret dX11_isKind_14 rfl (by decide) h
    · replace h := h.2 c
      refine zj_iconst (x := 1) dX11_isKind_9 rfl ?_
      refine zj_goto (tgt := 14) dX11_isKind_10 (by decide) ?_
      exact zj_iret dX11_isKind_14 rfl (by decide) h
theorem sg_X11_qubits_0 {G : z_G} {d : Nat} {S : z_Shp} {v : z_Dat} {Q : Option Value → z_Shp → z_Dat → Prop} (hL : z_L S)
    (h : Q (some (.int ((v 224 0) * (v 224 0)))) S v) :
    z_J G d mX11_qubits (0, [.ref 223], [], S, v) Q := by
  refine zj_aload_n dX11_qubits_0 rfl rfl ?_
  refine zj_getR (ci := 11) (j := 1) dX11_qubits_1 wf_X11_13 (by decide) (by decide) (zk_223 hL) rfl (zr_223_1 hL) ?_
  refine zj_iconst (x := 0) dX11_qubits_4 rfl ?_
  refine zj_iaload dX11_qubits_5 (zk_224 hL) (by rw [(zl_224 hL)]; exact z_vin (by decide)) ?_
  refine zj_aload_n dX11_qubits_6 rfl rfl ?_
  refine zj_getR (ci := 11) (j := 1) dX11_qubits_7 wf_X11_13 (by decide) (by decide) (zk_223 hL) rfl (zr_223_1 hL) ?_
  refine zj_iconst (x := 0) dX11_qubits_10 rfl ?_
  refine zj_iaload dX11_qubits_11 (zk_224 hL) (by rw [(zl_224 hL)]; exact z_vin (by decide)) ?_
  refine zj_imul dX11_qubits_12 ?_
  exact zj_iret dX11_qubits_13 rfl rfl h
theorem sg_X4_hasEvent_0 {G : z_G} {d : Nat} {S : z_Shp} {v : z_Dat} {Q : Option Value → z_Shp → z_Dat → Prop} {x1 : Int32} (hL : z_L S)
    (h : (x1 < 0 → (Q (some (.int 0)) S v)) ∧ (¬ x1 < 0 → (((v 149 3) ≤ x1 → (Q (some (.int 0)) S v)) ∧ (¬ (v 149 3) ≤ x1 → (Q (some (.int 1)) S v))))) :
    z_J G d mX4_hasEvent (0, [.ref 149, .int x1], [], S, v) Q := by
  refine zj_iload_n dX4_hasEvent_0 rfl rfl ?_
  refine zj_if_lt (tgt := 16) dX4_hasEvent_1 (by decide) (fun c => ?_) (fun c => ?_)
  · replace h := h.1 c
    refine zj_iconst (x := 0) dX4_hasEvent_16 rfl ?_
    exact zj_iret dX4_hasEvent_17 rfl (by decide) h
  · replace h := h.2 c
    refine zj_iload_n dX4_hasEvent_4 rfl rfl ?_
    refine zj_aload_n dX4_hasEvent_5 rfl rfl ?_
    refine zj_getI (ci := 4) (j := 3) dX4_hasEvent_6 wf_X4_106 (by decide) (by decide) (zk_149 hL) rfl ?_
    refine zj_icmp_ge (tgt := 16) dX4_hasEvent_9 (by decide) (fun c => ?_) (fun c => ?_)
    · replace h := h.1 c
      refine zj_iconst (x := 0) dX4_hasEvent_16 rfl ?_
      exact zj_iret dX4_hasEvent_17 rfl (by decide) h
    · replace h := h.2 c
      refine zj_iconst (x := 1) dX4_hasEvent_12 rfl ?_
      refine zj_goto (tgt := 17) dX4_hasEvent_13 (by decide) ?_
      exact zj_iret dX4_hasEvent_17 rfl (by decide) h
theorem sg_X4_nearAt_0 {G : z_G} {d : Nat} {S : z_Shp} {v : z_Dat} {Q : Option Value → z_Shp → z_Dat → Prop} {x1 : Int32} {x2 : Int32} (hL : z_L S)
    (h : (vp_in ((x1 * 6) + x2) 648) ∧ (Q (some (.int (v 154 ((x1 * 6) + x2).toNatClampNeg))) S v)) :
    z_J G d mX4_nearAt (0, [.ref 149, .int x1, .int x2], [], S, v) Q := by
  refine zj_aload_n dX4_nearAt_0 rfl rfl ?_
  refine zj_getR (ci := 4) (j := 8) dX4_nearAt_1 wf_X4_24 (by decide) (by decide) (zk_149 hL) rfl (zr_149_8 hL) ?_
  refine zj_iload_n dX4_nearAt_4 rfl rfl ?_
  refine zj_bipush (x := 6) dX4_nearAt_5 rfl ?_
  refine zj_imul dX4_nearAt_7 ?_
  refine zj_iload_n dX4_nearAt_8 rfl rfl ?_
  refine zj_iadd dX4_nearAt_9 ?_
  refine zj_iaload dX4_nearAt_10 (zk_154 hL) (by rw [(zl_154 hL)]; exact h.1) ?_
  replace h := h.2
  exact zj_iret dX4_nearAt_11 rfl rfl h
theorem sg_X4_otherEnd_0 {G : z_G} {d : Nat} {S : z_Shp} {v : z_Dat} {Q : Option Value → z_Shp → z_Dat → Prop} {x1 : Int32} {x2 : Int32} (hL : z_L S)
    (h : (vp_in x1 321) ∧ ((¬ (v 150 x1.toNatClampNeg) = x2 → ((vp_in x1 321) ∧ (Q (some (.int (v 150 x1.toNatClampNeg))) S v))) ∧ ((v 150 x1.toNatClampNeg) = x2 → ((vp_in x1 321) ∧ (Q (some (.int (v 151 x1.toNatClampNeg))) S v))))) :
    z_J G d mX4_otherEnd (0, [.ref 149, .int x1, .int x2], [], S, v) Q := by
  refine zj_aload_n dX4_otherEnd_0 rfl rfl ?_
  refine zj_getR (ci := 4) (j := 4) dX4_otherEnd_1 wf_X4_9 (by decide) (by decide) (zk_149 hL) rfl (zr_149_4 hL) ?_
  refine zj_iload_n dX4_otherEnd_4 rfl rfl ?_
  refine zj_iaload dX4_otherEnd_5 (zk_150 hL) (by rw [(zl_150 hL)]; exact h.1) ?_
  replace h := h.2
  refine zj_iload_n dX4_otherEnd_6 rfl rfl ?_
  refine zj_icmp_ne (tgt := 19) dX4_otherEnd_7 (by decide) (fun c => ?_) (fun c => ?_)
  · replace h := h.1 c
    refine zj_aload_n dX4_otherEnd_19 rfl rfl ?_
    refine zj_getR (ci := 4) (j := 4) dX4_otherEnd_20 wf_X4_9 (by decide) (by decide) (zk_149 hL) rfl (zr_149_4 hL) ?_
    refine zj_iload_n dX4_otherEnd_23 rfl rfl ?_
    refine zj_iaload dX4_otherEnd_24 (zk_150 hL) (by rw [(zl_150 hL)]; exact h.1) ?_
    replace h := h.2
    exact zj_iret dX4_otherEnd_25 rfl rfl h
  · replace h := h.2 c
    refine zj_aload_n dX4_otherEnd_10 rfl rfl ?_
    refine zj_getR (ci := 4) (j := 5) dX4_otherEnd_11 wf_X4_15 (by decide) (by decide) (zk_149 hL) rfl (zr_149_5 hL) ?_
    refine zj_iload_n dX4_otherEnd_14 rfl rfl ?_
    refine zj_iaload dX4_otherEnd_15 (zk_151 hL) (by rw [(zl_151 hL)]; exact h.1) ?_
    replace h := h.2
    refine zj_goto (tgt := 25) dX4_otherEnd_16 (by decide) ?_
    exact zj_iret dX4_otherEnd_25 rfl rfl h
