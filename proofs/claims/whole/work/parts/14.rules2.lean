theorem z_mincode : Cond.code Lib.Math.min.name Lib.Math.min.code 2 (some .int) ∈ z_TB := z_TBm (List.mem_of_getElem? (i := 815) (by decide +kernel)) rfl
theorem z_copynat : Cond.native arraycopyName ∈ z_TB := z_TBm (List.mem_of_getElem? (i := 830) (by decide +kernel)) rfl
theorem z_copystat : Cond.static arraycopyName ∈ z_TB := z_TBm (List.mem_of_getElem? (i := 829) (by decide +kernel)) rfl
theorem z_copyini : Cond.initialized "java/lang/System" ∈ z_TB := z_TBm (List.mem_of_getElem? (i := 134) (by decide +kernel)) rfl
/-! MORE RULES: known locals may be forgotten; Math.min; System.arraycopy of whole numbers -/
def z_sub : List Value → List Value → Prop
  | [], _ => True
  | w :: r, ls => match ls with
    | [] => w = .null ∧ z_sub r []
    | u :: q => (w = .null ∨ w = u) ∧ z_sub r q
theorem z_sub_at : ∀ (l2 l1 : List Value), z_sub l2 l1 → ∀ (i : Nat) (w : Value), l2[i]? = some w → w ≠ .null → l1[i]? = some w
  | [], _, _, i, w, h, _ => by simp at h
  | x :: r, [], hs, i, w, h, hn => by
    cases i with
    | zero =>
      have h : some x = some w := h
      cases h
      exact absurd hs.1 hn
    | succ i =>
      have := z_sub_at r [] hs.2 i w h hn
      simp at this
  | x :: r, u :: q, hs, i, w, h, hn => by
    cases i with
    | zero =>
      have h : some x = some w := h
      cases h
      rcases hs.1 with e | e
      · exact absurd e hn
      · rw [e]; rfl
    | succ i => exact z_sub_at r q hs.2 i w h hn
section ZJ2
variable {G : z_G} {d : Nat} {M : z_M} {pc : Nat} {ls st : List Value} {S : z_Shp} {v : z_Dat} {Q : Option Value → z_Shp → z_Dat → Prop}
theorem zj_forget {ls2 : List Value} (hs : z_sub ls2 ls) (hj : z_J G d M (pc, ls2, st, S, v) Q) : z_J G d M (pc, ls, st, S, v) Q := by
  refine z_J.go (z_one ?_) hj
  intro p l e R s m args below meth c D ty A ad c0 s0 Q hcl ok K H locs arr hP hD hS hl
  refine K H locs arr hP hD hS ⟨hl.1, hl.2.1, fun q hq => ?_⟩
  obtain ⟨w, hw, hn, e1⟩ := z_pr_of hq
  obtain ⟨j, y⟩ := q
  subst e1
  exact hl.at (z_sub_at ls2 ls hs j w hw hn) hn
theorem zj_mmin {idx : Nat} {x y : Int32} (hd : decode M.2.1 pc = .ok (.invokestatic idx, 3)) (hw : Cond.methodLink M.1.cls idx yJ9_min_7cf53 ∈ z_TB) (hst : (st.map fun w => w.category).sum ≤ 8) (hj : z_J G (d + 1) M (pc + 3, ls, .int (if y < x then y else x) :: st, S, v) Q) : z_J G (d + 1) M (pc, ls, .int y :: .int x :: st, S, v) Q := by
  obtain ⟨r, k', hq, hR, hre⟩ := hj
  refine ⟨r, k', hq, z_R.tr ?_ hR, hre⟩
  intro hcl
  refine ⟨hcl, Nat.le_refl _, Nat.le_refl _, Nat.le_refl _, ?_⟩
  intro p l e R s m args below meth c D ty A ad c0 s0 Q ok hlt h1 h2 h3 h4 K0 H locs arr hP hD hS hl
  have K := K0 ad z_ag.rf
  obtain ⟨hx, hb, hml, hr, hown, hts, hlocks, hnm, hK, hA, hRm, hX⟩ := ok
  refine va_mmin hx hb (hml.trans hl.1.symm) hown (hts _ hw) (hts _ wt_J9_min_7cf53) (hts _ w0_J9) (hts _ z_mincode) (by omega) ?_ h3 h4 hd (K H locs arr hP hD hS hl)
  have := hRm.2
  have hst2 := hst
  rw [← z_catm ad st] at hst2
  omega
/-- a copy of n numbers from place sp of a row of n0 to place dp of a row of n1 can be -/
def z_cpOk (sp dp n : Int32) (n0 n1 : Nat) : Prop := ¬ sp < 0 ∧ ¬ dp < 0 ∧ ¬ n < 0 ∧ sp.toNatClampNeg + n.toNatClampNeg ≤ n0 ∧ dp.toNatClampNeg + n.toNatClampNeg ≤ n1
theorem zj_copy {idx a b : Nat} {sp dp n : Int32} (hd : decode M.2.1 pc = .ok (.invokestatic idx, 3)) (hw : Cond.methodLink M.1.cls idx arraycopyName ∈ z_TB) (hst : (st.map fun w => w.category).sum ≤ 8) (hb2 : z_k S b = 21) (ha : z_k S a = 21) (hok : z_cpOk sp dp n (z_l S b) (z_l S a))
    (hj : ∀ v2, v2 = z_ua v a (va_cpy (v b) (v a) sp.toNatClampNeg dp.toNatClampNeg n.toNatClampNeg) → z_J G (d + 1) M (pc + 3, ls, st, S, v2) Q) : z_J G (d + 1) M (pc, ls, .int n :: .int dp :: .ref a :: .int sp :: .ref b :: st, S, v) Q := by
  refine z_J.go (z_one ?_) (hj _ rfl)
  intro p l e R s m args below meth c D ty A ad c0 s0 Q hcl ok K H locs arr hP hD hS hl
  obtain ⟨hx, hb, hml, hr, hown, hts, hlocks, hnm, hK, hA, hRm, hX⟩ := ok
  obtain ⟨o1, o2, o3, o4, o5⟩ := hok
  refine va_copyi hx hb (hml.trans hl.1.symm) hown (hts _ hw) (hts _ z_copynat) (hts _ z_copystat) (hts _ z_copyini) hK hP hD hS b a 0 0 (ty := .int) (z_wl_get (z_lt hcl hb2) |>.trans (by rw [z_E_i (t := 0) hb2 (by omega)])) (z_wl_get (z_lt hcl ha) |>.trans (by rw [z_E_i (t := 0) ha (by omega)])) rfl rfl rfl o1 o2 o3 o4 o5 (fun _ _ => rfl) (by omega) ?_ hd (fun H1 locs1 hP1 hD1 hS1 => ?_)
  · have := hRm.2
    have hst2 := hst
    rw [← z_catm ad st] at hst2
    have e1 : nativeFrameWords "java/lang/System" "arraycopy" 5 + 11 ≤ 40 := by decide
    omega
  · rw [z_wl_set (E' := z_E ty ad S (z_ua v a (va_cpy (v b) (v a) sp.toNatClampNeg dp.toNatClampNeg n.toNatClampNeg))) (by rw [z_E_i (t := 0) ha (by omega), z_ua_eq]) (fun b _ hb => z_E_v (z_ua_ne hb))] at hP1 hD1
    exact K H1 locs1 arr hP1 hD1 hS1 hl
end ZJ2
theorem z_out_3_7 {x : Int32} (c3 : ¬ x = 3) (c4 : ¬ x = 4) (c5 : ¬ x = 5) (c6 : ¬ x = 6) (c7 : ¬ x = 7) : x.toInt < 3 ∨ 7 < x.toInt := by
  have e3 := lv_neT c3 (a := 3) (by decide)
  have e4 := lv_neT c4 (a := 4) (by decide)
  have e5 := lv_neT c5 (a := 5) (by decide)
  have e6 := lv_neT c6 (a := 6) (by decide)
  have e7 := lv_neT c7 (a := 7) (by decide)
  omega
theorem z_out_3_6 {x : Int32} (c3 : ¬ x = 3) (c4 : ¬ x = 4) (c5 : ¬ x = 5) (c6 : ¬ x = 6) : x.toInt < 3 ∨ 6 < x.toInt := by
  have e3 := lv_neT c3 (a := 3) (by decide)
  have e4 := lv_neT c4 (a := 4) (by decide)
  have e5 := lv_neT c5 (a := 5) (by decide)
  have e6 := lv_neT c6 (a := 6) (by decide)
  omega
theorem z_out_0_9 {x : Int32} (c0 : ¬ x = 0) (c1 : ¬ x = 1) (c2 : ¬ x = 2) (c3 : ¬ x = 3) (c4 : ¬ x = 4) (c5 : ¬ x = 5) (c6 : ¬ x = 6) (c7 : ¬ x = 7) (c8 : ¬ x = 8) (c9 : ¬ x = 9) : x.toInt < 0 ∨ 9 < x.toInt := by
  have e0 := lv_neT c0 (a := 0) (by decide)
  have e1 := lv_neT c1 (a := 1) (by decide)
  have e2 := lv_neT c2 (a := 2) (by decide)
  have e3 := lv_neT c3 (a := 3) (by decide)
  have e4 := lv_neT c4 (a := 4) (by decide)
  have e5 := lv_neT c5 (a := 5) (by decide)
  have e6 := lv_neT c6 (a := 6) (by decide)
  have e7 := lv_neT c7 (a := 7) (by decide)
  have e8 := lv_neT c8 (a := 8) (by decide)
  have e9 := lv_neT c9 (a := 9) (by decide)
  omega
theorem z_out_0_3 {x : Int32} (c0 : ¬ x = 0) (c1 : ¬ x = 1) (c2 : ¬ x = 2) (c3 : ¬ x = 3) : x.toInt < 0 ∨ 3 < x.toInt := by
  have e0 := lv_neT c0 (a := 0) (by decide)
  have e1 := lv_neT c1 (a := 1) (by decide)
  have e2 := lv_neT c2 (a := 2) (by decide)
  have e3 := lv_neT c3 (a := 3) (by decide)
  omega
theorem z_out_0_2 {x : Int32} (c0 : ¬ x = 0) (c1 : ¬ x = 1) (c2 : ¬ x = 2) : x.toInt < 0 ∨ 2 < x.toInt := by
  have e0 := lv_neT c0 (a := 0) (by decide)
  have e1 := lv_neT c1 (a := 1) (by decide)
  have e2 := lv_neT c2 (a := 2) (by decide)
  omega
theorem z_out_0_37 {x : Int32} (c0 : ¬ x = 0) (c1 : ¬ x = 1) (c2 : ¬ x = 2) (c3 : ¬ x = 3) (c4 : ¬ x = 4) (c5 : ¬ x = 5) (c6 : ¬ x = 6) (c7 : ¬ x = 7) (c8 : ¬ x = 8) (c9 : ¬ x = 9) (c10 : ¬ x = 10) (c11 : ¬ x = 11) (c12 : ¬ x = 12) (c13 : ¬ x = 13) (c14 : ¬ x = 14) (c15 : ¬ x = 15) (c16 : ¬ x = 16) (c17 : ¬ x = 17) (c18 : ¬ x = 18) (c19 : ¬ x = 19) (c20 : ¬ x = 20) (c21 : ¬ x = 21) (c22 : ¬ x = 22) (c23 : ¬ x = 23) (c24 : ¬ x = 24) (c25 : ¬ x = 25) (c26 : ¬ x = 26) (c27 : ¬ x = 27) (c28 : ¬ x = 28) (c29 : ¬ x = 29) (c30 : ¬ x = 30) (c31 : ¬ x = 31) (c32 : ¬ x = 32) (c33 : ¬ x = 33) (c34 : ¬ x = 34) (c35 : ¬ x = 35) (c36 : ¬ x = 36) (c37 : ¬ x = 37) : x.toInt < 0 ∨ 37 < x.toInt := by
  have e0 := lv_neT c0 (a := 0) (by decide)
  have e1 := lv_neT c1 (a := 1) (by decide)
  have e2 := lv_neT c2 (a := 2) (by decide)
  have e3 := lv_neT c3 (a := 3) (by decide)
  have e4 := lv_neT c4 (a := 4) (by decide)
  have e5 := lv_neT c5 (a := 5) (by decide)
  have e6 := lv_neT c6 (a := 6) (by decide)
  have e7 := lv_neT c7 (a := 7) (by decide)
  have e8 := lv_neT c8 (a := 8) (by decide)
  have e9 := lv_neT c9 (a := 9) (by decide)
  have e10 := lv_neT c10 (a := 10) (by decide)
  have e11 := lv_neT c11 (a := 11) (by decide)
  have e12 := lv_neT c12 (a := 12) (by decide)
  have e13 := lv_neT c13 (a := 13) (by decide)
  have e14 := lv_neT c14 (a := 14) (by decide)
  have e15 := lv_neT c15 (a := 15) (by decide)
  have e16 := lv_neT c16 (a := 16) (by decide)
  have e17 := lv_neT c17 (a := 17) (by decide)
  have e18 := lv_neT c18 (a := 18) (by decide)
  have e19 := lv_neT c19 (a := 19) (by decide)
  have e20 := lv_neT c20 (a := 20) (by decide)
  have e21 := lv_neT c21 (a := 21) (by decide)
  have e22 := lv_neT c22 (a := 22) (by decide)
  have e23 := lv_neT c23 (a := 23) (by decide)
  have e24 := lv_neT c24 (a := 24) (by decide)
  have e25 := lv_neT c25 (a := 25) (by decide)
  have e26 := lv_neT c26 (a := 26) (by decide)
  have e27 := lv_neT c27 (a := 27) (by decide)
  have e28 := lv_neT c28 (a := 28) (by decide)
  have e29 := lv_neT c29 (a := 29) (by decide)
  have e30 := lv_neT c30 (a := 30) (by decide)
  have e31 := lv_neT c31 (a := 31) (by decide)
  have e32 := lv_neT c32 (a := 32) (by decide)
  have e33 := lv_neT c33 (a := 33) (by decide)
  have e34 := lv_neT c34 (a := 34) (by decide)
  have e35 := lv_neT c35 (a := 35) (by decide)
  have e36 := lv_neT c36 (a := 36) (by decide)
  have e37 := lv_neT c37 (a := 37) (by decide)
  omega
