/-! CELLS ARE MADE: rows, objects, rows of fabrics; Object's own constructor; references and longs put into rows -/
def z_adn (ad : Nat → Nat) (n q : Nat) : Nat → Nat := fun a => if a = n then q else ad a
theorem z_adn_ag {ad : Nat → Nat} {n q : Nat} (hn : n < z_X) : z_ag n ad (z_adn ad n q) := fun a ha => if_neg (by omega)
theorem z_pushE {ty : Nat → ClassId} {ad : Nat → Nat} {S : z_Shp} {v : z_Dat} {k len c s q : Nat} {f : Nat → Int32} {x : va_E} (hcl : z_cl S) (hn : z_n S < z_X) (hx : z_E ty (z_adn ad (z_n S) q) (z_al S k len c s) (z_ua v (z_n S) f) (z_n S) = x) :
    z_ws ty ad S v ++ [(q, x)] = z_ws ty (z_adn ad (z_n S) q) (z_al S k len c s) (z_ua v (z_n S) f) := by
  refine z_wl_push (fun b hb => if_neg (Nat.ne_of_lt hb)) (fun b hb => ?_) (if_pos rfl) hx
  rw [z_E_al hb, z_E_v (z_ua_ne (Nat.ne_of_lt hb)), z_E_ag hcl (z_adn_ag hn) hb]
theorem z_mv_ag {n : Nat} {ad ad' : Nat → Nat} {st : List Value} (hg : z_ag n ad ad') (h : ∀ b, Value.ref b ∈ st → b < n ∨ z_X ≤ b) : st.map (z_mv ad') = st.map (z_mv ad) := by
  apply List.map_congr_left
  intro w hw
  cases w with
  | ref b => exact congrArg Value.ref (hg b (h b hw))
  | _ => rfl
theorem z_lv_ag {n nL : Nat} {ad ad' : Nat → Nat} {ls : List Value} {arr : Array Slot} (hg : z_ag n ad ad') (h : ∀ b, Value.ref b ∈ ls → b < n ∨ z_X ≤ b) (hl : z_lv ad nL ls arr) : z_lv ad' nL ls arr := by
  refine ⟨hl.1, hl.2.1, fun q hq => ?_⟩
  obtain ⟨w, hw, hn, e1⟩ := z_pr_of hq
  obtain ⟨j, y⟩ := q
  subst e1
  have h2 := hl.at hw hn
  have e2 : z_mv ad' w = z_mv ad w := by
    cases w with
    | ref b => exact congrArg Value.ref (hg b (h b (List.mem_of_getElem? hw)))
    | _ => rfl
  show arr[j]? = some (.val (z_mv ad' w))
  rw [e2]
  exact h2
theorem z_al_k {S : z_Shp} {k len c s : Nat} : z_k (z_al S k len c s) (z_n S) = k := if_pos rfl
theorem z_al_l {S : z_Shp} {k len c s : Nat} : z_l (z_al S k len c s) (z_n S) = len := if_pos rfl
theorem wo_i : Cond.instanceMethod ⟨"java/lang/Object", "<init>", "()V"⟩ ∈ z_TB := z_TBm (List.mem_of_getElem? (i := 145) (by decide +kernel)) rfl
theorem wo_c : Cond.code ⟨"java/lang/Object", "<init>", "()V"⟩ ⟨#[0xb1]⟩ 1 none ∈ z_TB := z_TBm (List.mem_of_getElem? (i := 146) (by decide +kernel)) rfl
def z_f0 (ci : Nat) : List Value := (List.range (z_nf ci)).map (fun j => if z_isr ci j then .null else .int 0)
theorem z_f0_ok : ∀ ci, ci < 12 → ∀ j, j < z_nf ci → defaultValue (z_tyf ci j) = vp_V (z_f0 ci) j := by decide +kernel
theorem z_f0_E {ad : Nat → Nat} {S : z_Shp} {v : z_Dat} {ci k len c s : Nat} : z_fs ad (z_al S k len c s) (z_ua v (z_n S) (fun _ => 0)) ci (z_n S) = z_f0 ci := by
  unfold z_fs z_f0
  apply List.map_congr_left
  intro j _
  have e : z_r (z_al S k len c s) (z_n S) j = none := if_pos rfl
  rw [e, z_ua_eq]
  rfl
section AL
variable {G : z_G} {d : Nat} {M : z_M} {pc : Nat} {ls st : List Value} {S : z_Shp} {v : z_Dat} {Q : Option Value → z_Shp → z_Dat → Prop}
theorem zj_objI {a idx : Nat} (hd : decode M.2.1 pc = .ok (.invokespecial idx, 3)) (hw : Cond.methodLink M.1.cls idx ⟨"java/lang/Object", "<init>", "()V"⟩ ∈ z_TB) (hst : (st.map fun w => w.category).sum ≤ 8) (hj : z_J G (d + 1) M (pc + 3, ls, st, S, v) Q) : z_J G (d + 1) M (pc, ls, .ref a :: st, S, v) Q := by
  refine z_J.go (z_one ?_) hj
  intro p l e R s m args below meth c D ty A ad c0 s0 Q hcl ok K H locs arr hP hD hS hl
  obtain ⟨hx, hb, hml, hr, hown, hts, hlocks, hnm, hK, hA, hR, hX⟩ := ok
  refine W.objInit hx hb hown (hts _ hw) (hts _ wo_i) (hts _ wo_c) rfl (by rw [hml]; exact hl.1) rfl hd (by omega) ?_ (K H locs arr hP hD hS hl)
  show 2 * 0 + ((st.map (z_mv ad)).map fun w => w.category).sum + 12 ≤ R.locals
  rw [z_catm]
  have := hR.2
  omega
theorem zj_newI {x : Int32} {n : Nat} (hd : decode M.2.1 pc = .ok (.newarray .int, 2)) (hxn : x = nI n) (hn : n ≤ 100000) (hz : z_n S < z_X) (ho1 : z_okr S ls) (ho2 : z_okr S st) (hj : z_J G d M (pc + 2, ls, .ref (z_n S) :: st, z_al S 21 n 1 n, z_ua v (z_n S) (fun _ => 0)) Q) : z_J G d M (pc, ls, .int x :: st, S, v) Q := by
  refine z_J.go ?_ hj
  intro hcl
  refine ⟨z_cl_al hcl hz, Nat.le_succ _, Nat.le_add_right _ _, Nat.le_add_right _ _, ?_⟩
  intro p l e R s m args below meth c D ty A ad c0 s0 Q ok hlt h3 h4 h5 h6 K0 H locs arr hP hD hS hl
  obtain ⟨hx, hb, hml, hr, hown, hts, hlocks, hnm, hK, hA, hR, hX⟩ := ok
  have h5 : z_c S + 1 - c0 ≤ R.cells := h5
  have h6 : z_s S + n - s0 ≤ R.slots := h6
  have h3 : c0 ≤ z_c S := h3
  have h4 : s0 ≤ z_s S := h4
  show W p l e R s m args below meth c H locs (z_c S - c0) (z_s S - s0) Q (F0 m pc arr (.int x :: st.map (z_mv ad)))
  refine va_newa (atype := .int) hx hb (hts _ wa_int) (ty := .int) rfl hK hP hD hS hA (N' := n) (a0 := (n, .inl (fun _ => 0))) (fun cA => vp_cell_i _ _ _) (by rw [hxn]; exact nI_pos (by omega)) (by rw [hxn]; exact nI_clamp (by omega)) (by show n * 4 ≤ _; omega) (by omega) (by omega) hd (fun q cA H1 hK1 hP1 hD1 hS1 => ?_)
  have ec : cA = ty 0 := Option.some.inj ((hK1.2 6 _ rfl).2.symm.trans (hK.2 0 _ rfl).2)
  rw [z_pushE (k := 21) (len := n) (c := 1) (s := n) (f := fun _ => 0) hcl hz (by rw [z_E_i (t := 0) z_al_k (by omega), z_al_l, z_ua_eq, ec])] at hP1 hD1
  have e1 : z_c S - c0 + 1 = z_c S + 1 - c0 := by omega
  have e2 : z_s S - s0 + n = z_s S + n - s0 := by omega
  have hg := z_adn_ag (ad := ad) (q := q) hz
  have := K0 _ hg H1 locs arr hP1 hD1 hS1 (z_lv_ag hg (z_okr_in hcl ls ho1) hl)
  rw [e1, e2]
  have e3 : (Value.ref (z_n S) :: st).map (z_mv (z_adn ad (z_n S) q)) = .ref q :: st.map (z_mv ad) := by
    rw [List.map_cons, z_mv_ag hg (z_okr_in hcl st ho2)]
    show Value.ref (z_adn ad (z_n S) q (z_n S)) :: _ = _
    rw [show z_adn ad (z_n S) q (z_n S) = q from if_pos rfl]
  rw [← e3]
  exact this
theorem zj_newB {x : Int32} {n : Nat} (hd : decode M.2.1 pc = .ok (.newarray .byte, 2)) (hxn : x = nI n) (hn : n ≤ 100000) (hz : z_n S < z_X) (ho1 : z_okr S ls) (ho2 : z_okr S st) (hj : z_J G d M (pc + 2, ls, .ref (z_n S) :: st, z_al S 22 n 1 n, z_ua v (z_n S) (fun _ => 0)) Q) : z_J G d M (pc, ls, .int x :: st, S, v) Q := by
  refine z_J.go ?_ hj
  intro hcl
  refine ⟨z_cl_al hcl hz, Nat.le_succ _, Nat.le_add_right _ _, Nat.le_add_right _ _, ?_⟩
  intro p l e R s m args below meth c D ty A ad c0 s0 Q ok hlt h3 h4 h5 h6 K0 H locs arr hP hD hS hl
  obtain ⟨hx, hb, hml, hr, hown, hts, hlocks, hnm, hK, hA, hR, hX⟩ := ok
  have h5 : z_c S + 1 - c0 ≤ R.cells := h5
  have h6 : z_s S + n - s0 ≤ R.slots := h6
  have h3 : c0 ≤ z_c S := h3
  have h4 : s0 ≤ z_s S := h4
  show W p l e R s m args below meth c H locs (z_c S - c0) (z_s S - s0) Q (F0 m pc arr (.int x :: st.map (z_mv ad)))
  refine va_newa (atype := .byte) hx hb (hts _ wa_byte) (ty := .byte) rfl hK hP hD hS hA (N' := n) (a0 := (n, .inl (fun _ => 0))) (fun cA => vp_cell_i _ _ _) (by rw [hxn]; exact nI_pos (by omega)) (by rw [hxn]; exact nI_clamp (by omega)) (by show n * 1 ≤ _; omega) (by omega) (by omega) hd (fun q cA H1 hK1 hP1 hD1 hS1 => ?_)
  have ec : cA = ty 1 := Option.some.inj ((hK1.2 6 _ rfl).2.symm.trans (hK.2 1 _ rfl).2)
  rw [z_pushE (k := 22) (len := n) (c := 1) (s := n) (f := fun _ => 0) hcl hz (by rw [z_E_i (t := 1) z_al_k (by omega), z_al_l, z_ua_eq, ec])] at hP1 hD1
  have e1 : z_c S - c0 + 1 = z_c S + 1 - c0 := by omega
  have e2 : z_s S - s0 + n = z_s S + n - s0 := by omega
  have hg := z_adn_ag (ad := ad) (q := q) hz
  have := K0 _ hg H1 locs arr hP1 hD1 hS1 (z_lv_ag hg (z_okr_in hcl ls ho1) hl)
  rw [e1, e2]
  have e3 : (Value.ref (z_n S) :: st).map (z_mv (z_adn ad (z_n S) q)) = .ref q :: st.map (z_mv ad) := by
    rw [List.map_cons, z_mv_ag hg (z_okr_in hcl st ho2)]
    show Value.ref (z_adn ad (z_n S) q (z_n S)) :: _ = _
    rw [show z_adn ad (z_n S) q (z_n S) = q from if_pos rfl]
  rw [← e3]
  exact this
theorem zj_newZ {x : Int32} {n : Nat} (hd : decode M.2.1 pc = .ok (.newarray .boolean, 2)) (hxn : x = nI n) (hn : n ≤ 100000) (hz : z_n S < z_X) (ho1 : z_okr S ls) (ho2 : z_okr S st) (hj : z_J G d M (pc + 2, ls, .ref (z_n S) :: st, z_al S 23 n 1 n, z_ua v (z_n S) (fun _ => 0)) Q) : z_J G d M (pc, ls, .int x :: st, S, v) Q := by
  refine z_J.go ?_ hj
  intro hcl
  refine ⟨z_cl_al hcl hz, Nat.le_succ _, Nat.le_add_right _ _, Nat.le_add_right _ _, ?_⟩
  intro p l e R s m args below meth c D ty A ad c0 s0 Q ok hlt h3 h4 h5 h6 K0 H locs arr hP hD hS hl
  obtain ⟨hx, hb, hml, hr, hown, hts, hlocks, hnm, hK, hA, hR, hX⟩ := ok
  have h5 : z_c S + 1 - c0 ≤ R.cells := h5
  have h6 : z_s S + n - s0 ≤ R.slots := h6
  have h3 : c0 ≤ z_c S := h3
  have h4 : s0 ≤ z_s S := h4
  show W p l e R s m args below meth c H locs (z_c S - c0) (z_s S - s0) Q (F0 m pc arr (.int x :: st.map (z_mv ad)))
  refine va_newa (atype := .boolean) hx hb (hts _ wa_boolean) (ty := .boolean) rfl hK hP hD hS hA (N' := n) (a0 := (n, .inl (fun _ => 0))) (fun cA => vp_cell_i _ _ _) (by rw [hxn]; exact nI_pos (by omega)) (by rw [hxn]; exact nI_clamp (by omega)) (by show n * 1 ≤ _; omega) (by omega) (by omega) hd (fun q cA H1 hK1 hP1 hD1 hS1 => ?_)
  have ec : cA = ty 2 := Option.some.inj ((hK1.2 6 _ rfl).2.symm.trans (hK.2 2 _ rfl).2)
  rw [z_pushE (k := 23) (len := n) (c := 1) (s := n) (f := fun _ => 0) hcl hz (by rw [z_E_i (t := 2) z_al_k (by omega), z_al_l, z_ua_eq, ec])] at hP1 hD1
  have e1 : z_c S - c0 + 1 = z_c S + 1 - c0 := by omega
  have e2 : z_s S - s0 + n = z_s S + n - s0 := by omega
  have hg := z_adn_ag (ad := ad) (q := q) hz
  have := K0 _ hg H1 locs arr hP1 hD1 hS1 (z_lv_ag hg (z_okr_in hcl ls ho1) hl)
  rw [e1, e2]
  have e3 : (Value.ref (z_n S) :: st).map (z_mv (z_adn ad (z_n S) q)) = .ref q :: st.map (z_mv ad) := by
    rw [List.map_cons, z_mv_ag hg (z_okr_in hcl st ho2)]
    show Value.ref (z_adn ad (z_n S) q (z_n S)) :: _ = _
    rw [show z_adn ad (z_n S) q (z_n S) = q from if_pos rfl]
  rw [← e3]
  exact this
theorem zj_newL {x : Int32} {n : Nat} (hd : decode M.2.1 pc = .ok (.newarray .long, 2)) (hxn : x = nI n) (hn : n ≤ 100000) (hz : z_n S < z_X) (ho1 : z_okr S ls) (ho2 : z_okr S st) (hj : z_J G d M (pc + 2, ls, .ref (z_n S) :: st, z_al S 24 n 1 n, z_ua v (z_n S) (fun _ => 0)) Q) : z_J G d M (pc, ls, .int x :: st, S, v) Q := by
  refine z_J.go ?_ hj
  intro hcl
  refine ⟨z_cl_al hcl hz, Nat.le_succ _, Nat.le_add_right _ _, Nat.le_add_right _ _, ?_⟩
  intro p l e R s m args below meth c D ty A ad c0 s0 Q ok hlt h3 h4 h5 h6 K0 H locs arr hP hD hS hl
  obtain ⟨hx, hb, hml, hr, hown, hts, hlocks, hnm, hK, hA, hR, hX⟩ := ok
  have h5 : z_c S + 1 - c0 ≤ R.cells := h5
  have h6 : z_s S + n - s0 ≤ R.slots := h6
  have h3 : c0 ≤ z_c S := h3
  have h4 : s0 ≤ z_s S := h4
  show W p l e R s m args below meth c H locs (z_c S - c0) (z_s S - s0) Q (F0 m pc arr (.int x :: st.map (z_mv ad)))
  refine va_newa (atype := .long) hx hb (hts _ wa_long) (ty := .long) rfl hK hP hD hS hA (N' := n) (a0 := (n, .inr (.inl (fun _ => 0)))) (fun cA => vp_cell_l _ _ _) (by rw [hxn]; exact nI_pos (by omega)) (by rw [hxn]; exact nI_clamp (by omega)) (by show n * 8 ≤ _; omega) (by omega) (by omega) hd (fun q cA H1 hK1 hP1 hD1 hS1 => ?_)
  have ec : cA = ty 3 := Option.some.inj ((hK1.2 6 _ rfl).2.symm.trans (hK.2 3 _ rfl).2)
  have ew : z_w (z_al S 24 n 1 n) (z_n S) = fun _ => 0 := funext fun i => if_pos rfl
  rw [z_pushE (k := 24) (len := n) (c := 1) (s := n) (f := fun _ => 0) hcl hz (by rw [z_E_l z_al_k, z_al_l, ew, ec])] at hP1 hD1
  have e1 : z_c S - c0 + 1 = z_c S + 1 - c0 := by omega
  have e2 : z_s S - s0 + n = z_s S + n - s0 := by omega
  have hg := z_adn_ag (ad := ad) (q := q) hz
  have := K0 _ hg H1 locs arr hP1 hD1 hS1 (z_lv_ag hg (z_okr_in hcl ls ho1) hl)
  rw [e1, e2]
  have e3 : (Value.ref (z_n S) :: st).map (z_mv (z_adn ad (z_n S) q)) = .ref q :: st.map (z_mv ad) := by
    rw [List.map_cons, z_mv_ag hg (z_okr_in hcl st ho2)]
    show Value.ref (z_adn ad (z_n S) q (z_n S)) :: _ = _
    rw [show z_adn ad (z_n S) q (z_n S) = q from if_pos rfl]
  rw [← e3]
  exact this
theorem zj_new {idx ci : Nat} (hd : decode M.2.1 pc = .ok (.new idx, 3)) (hc : ci < 12) (hw : Cond.classLink M.1.cls idx (z_cn ci) ∈ z_TB) (hi : Cond.instantiable (z_cn ci) (z_nf ci) ∈ z_TB) (hini : Cond.initialized (z_cn ci) ∈ z_TB) (hz : z_n S < z_X) (ho1 : z_okr S ls) (ho2 : z_okr S st) (hj : z_J G d M (pc + 3, ls, .ref (z_n S) :: st, z_al S (ci + 1) 0 1 (z_nf ci), z_ua v (z_n S) (fun _ => 0)) Q) : z_J G d M (pc, ls, st, S, v) Q := by
  refine z_J.go ?_ hj
  intro hcl
  refine ⟨z_cl_al hcl hz, Nat.le_succ _, Nat.le_add_right _ _, Nat.le_add_right _ _, ?_⟩
  intro p l e R s m args below meth c D ty A ad c0 s0 Q ok hlt h3 h4 h5 h6 K0 H locs arr hP hD hS hl
  obtain ⟨hx, hb, hml, hr, hown, hts, hlocks, hnm, hK, hA, hR, hX⟩ := ok
  have h5 : z_c S + 1 - c0 ≤ R.cells := h5
  have h6 : z_s S + z_nf ci - s0 ≤ R.slots := h6
  have h3 : c0 ≤ z_c S := h3
  have h4 : s0 ≤ z_s S := h4
  show W p l e R s m args below meth c H locs (z_c S - c0) (z_s S - s0) Q (F0 m pc arr (st.map (z_mv ad)))
  refine va_new (C := z_cn ci) (T := z_T ci) (N := z_nf ci) (ci := ci) (fs := z_f0 ci) hx hb hts (z_inT hc) (z_tyf ci) (z_tyk hc) hown (hts _ hw) (hts _ hi) (hts _ hini) hK hP hD hS hA (z_CLg hc) (z_f0_ok ci hc) (by omega) (by omega) hd (fun q H1 hP1 hD1 hS1 => ?_)
  rw [z_pushE (k := ci + 1) (len := 0) (c := 1) (s := z_nf ci) (f := fun _ => 0) hcl hz (by rw [z_E_o z_al_k hc, z_f0_E])] at hP1 hD1
  have e1 : z_c S - c0 + 1 = z_c S + 1 - c0 := by omega
  have e2 : z_s S - s0 + z_nf ci = z_s S + z_nf ci - s0 := by omega
  have hg := z_adn_ag (ad := ad) (q := q) hz
  have := K0 _ hg H1 locs arr hP1 hD1 hS1 (z_lv_ag hg (z_okr_in hcl ls ho1) hl)
  rw [e1, e2]
  have e3 : (Value.ref (z_n S) :: st).map (z_mv (z_adn ad (z_n S) q)) = .ref q :: st.map (z_mv ad) := by
    rw [List.map_cons, z_mv_ag hg (z_okr_in hcl st ho2)]
    show Value.ref (z_adn ad (z_n S) q (z_n S)) :: _ = _
    rw [show z_adn ad (z_n S) q (z_n S) = q from if_pos rfl]
  rw [← e3]
  exact this
theorem zj_newQ {x : Int32} {n idx : Nat} (hd : decode M.2.1 pc = .ok (.anewarray idx, 3)) (hw : Cond.classLink M.1.cls idx "WovenKeeper$Fabric" ∈ z_TB) (hxn : x = nI n) (hn : n ≤ 100000) (hz : z_n S < z_X) (ho1 : z_okr S ls) (ho2 : z_okr S st) (hj : z_J G d M (pc + 3, ls, .ref (z_n S) :: st, z_al S 26 n 1 n, z_ua v (z_n S) (fun _ => 0)) Q) : z_J G d M (pc, ls, .int x :: st, S, v) Q := by
  refine z_J.go ?_ hj
  intro hcl
  refine ⟨z_cl_al hcl hz, Nat.le_succ _, Nat.le_add_right _ _, Nat.le_add_right _ _, ?_⟩
  intro p l e R s m args below meth c D ty A ad c0 s0 Q ok hlt h3 h4 h5 h6 K0 H locs arr hP hD hS hl
  obtain ⟨hx, hb, hml, hr, hown, hts, hlocks, hnm, hK, hA, hR, hX⟩ := ok
  have h5 : z_c S + 1 - c0 ≤ R.cells := h5
  have h6 : z_s S + n - s0 ≤ R.slots := h6
  have h3 : c0 ≤ z_c S := h3
  have h4 : s0 ≤ z_s S := h4
  show W p l e R s m args below meth c H locs (z_c S - c0) (z_s S - s0) Q (F0 m pc arr (.int x :: st.map (z_mv ad)))
  refine va_newq (C := "WovenKeeper$Fabric") hx hb hown (hts _ hw) hX.2.2.2.2.2.2.2.1 hK hP hD hS hA (N' := n) (by rw [hxn]; exact nI_pos (by omega)) (by rw [hxn]; exact nI_clamp (by omega)) (by omega) (by omega) (by omega) hd (fun q cA H1 hK1 hP1 hD1 hS1 => ?_)
  obtain ⟨-, kA, comp, -, -, -, g1⟩ := hK1.2 6 _ rfl
  obtain ⟨-, kB, comp2, -, -, -, g2⟩ := hK.2 5 _ rfl
  have ec : cA = ty 5 := Option.some.inj (g1.symm.trans g2)
  have er : z_r (z_al S 26 n 1 n) (z_n S) = fun _ => none := funext fun i => if_pos rfl
  rw [z_pushE (k := 26) (len := n) (c := 1) (s := n) (f := fun _ => 0) hcl hz (by rw [z_E_q (t := 1) z_al_k, z_al_l, er, ec]; rfl)] at hP1 hD1
  have e1 : z_c S - c0 + 1 = z_c S + 1 - c0 := by omega
  have e2 : z_s S - s0 + n = z_s S + n - s0 := by omega
  have hg := z_adn_ag (ad := ad) (q := q) hz
  have := K0 _ hg H1 locs arr hP1 hD1 hS1 (z_lv_ag hg (z_okr_in hcl ls ho1) hl)
  rw [e1, e2]
  have e3 : (Value.ref (z_n S) :: st).map (z_mv (z_adn ad (z_n S) q)) = .ref q :: st.map (z_mv ad) := by
    rw [List.map_cons, z_mv_ag hg (z_okr_in hcl st ho2)]
    show Value.ref (z_adn ad (z_n S) q (z_n S)) :: _ = _
    rw [show z_adn ad (z_n S) q (z_n S) = q from if_pos rfl]
  rw [← e3]
  exact this
theorem zj_aastore {a b : Nat} {i : Int32} (hd : decode M.2.1 pc = .ok (.aastore, 1)) (hk : z_k S a = 26) (hkb : z_k S b = 1) (hin : vp_in i (z_l S a)) (hj : z_J G d M (pc + 1, ls, st, z_sr S a i.toNatClampNeg (some b), v) Q) : z_J G d M (pc, ls, .ref b :: .int i :: .ref a :: st, S, v) Q := by
  refine z_J.go ?_ hj
  intro hcl
  refine ⟨z_cl_r hcl (fun q hq => by cases hq; exact Or.inl (z_lt hcl hkb)), Nat.le_refl _, Nat.le_refl _, Nat.le_refl _, ?_⟩
  intro p l e R s m args below meth c D ty A ad c0 s0 Q ok _ _ _ _ _ K0
  have K := K0 ad z_ag.rf
  intro H locs arr hP hD hS hl
  obtain ⟨hx, hb, hml, hr, hown, hts, hlocks, hnm, hK, hA, hR, hX⟩ := ok
  have he : (z_ws ty ad S v)[a]? = some (ad a, .inl (ty 5, z_l S a, .inr (.inr (.inr (.inr (fun i => (z_r S a i).map ad)))))) := z_wl_get (z_lt hcl hk) |>.trans (by rw [z_E_q (t := 1) hk])
  have hv : (z_ws ty ad S v)[b]? = some (ad b, .inr (0, z_fs ad S v 0 b)) := z_wl_get (z_lt hcl hkb) |>.trans (by rw [z_E_o (ci := 0) hkb (by omega)])
  refine va_astq hx hb hK hP hD hS a 5 b 0 he rfl hv (z_CLg (ci := 0) (by omega)) hin hd (fun H1 locs1 hP1 hD1 hS1 => ?_)
  have e4 : z_E ty ad (z_sr S a i.toNatClampNeg (some b)) v a = .inl (ty 5, z_l S a, .inr (.inr (.inr (.inr (va_up (fun i => (z_r S a i).map ad) i.toNatClampNeg (some (ad b))))))) := by
    have e5 : (fun i1 => (z_r (z_sr S a i.toNatClampNeg (some b)) a i1).map ad) = va_up (fun i => (z_r S a i).map ad) i.toNatClampNeg (some (ad b)) := by
      funext i1
      show (if a = a ∧ i1 = i.toNatClampNeg then some b else z_r S a i1).map ad = _
      unfold va_up
      by_cases e : i1 = i.toNatClampNeg
      · rw [if_pos ⟨rfl, e⟩, if_pos e]; rfl
      · rw [if_neg (fun z => e z.2), if_neg e]
    rw [z_E_q (S := z_sr S a i.toNatClampNeg (some b)) (t := 1) hk, e5]
    rfl
  rw [z_wl_set (E' := z_E ty ad (z_sr S a i.toNatClampNeg (some b)) v) e4 (fun b _ hb => z_E_r hb)] at hP1 hD1
  exact K H1 locs1 arr hP1 hD1 hS1 hl
/-- a long is put -/
def z_sw (S : z_Shp) (a i : Nat) (x : Int64) : z_Shp := (z_n S, z_c S, z_s S, z_k S, z_l S, z_r S, (fun a' => if a' = a then vp_updL (z_w S a) i x else z_w S a'))
theorem z_E_w {ty : Nat → ClassId} {ad : Nat → Nat} {S : z_Shp} {v : z_Dat} {a i b : Nat} {x : Int64} (h : b ≠ a) : z_E ty ad (z_sw S a i x) v b = z_E ty ad S v b := by
  unfold z_E z_fs z_sw
  simp [z_r, z_k, z_l, z_w, h]
theorem zj_lastore {a : Nat} {i : Int32} {x : Int64} (hd : decode M.2.1 pc = .ok (.lastore, 1)) (hk : z_k S a = 24) (hin : vp_in i (z_l S a)) (hj : z_J G d M (pc + 1, ls, st, z_sw S a i.toNatClampNeg x, v) Q) : z_J G d M (pc, ls, .long x :: .int i :: .ref a :: st, S, v) Q := by
  refine z_J.go ?_ hj
  intro hcl
  refine ⟨hcl, Nat.le_refl _, Nat.le_refl _, Nat.le_refl _, ?_⟩
  intro p l e R s m args below meth c D ty A ad c0 s0 Q ok _ _ _ _ _ K0
  have K := K0 ad z_ag.rf
  intro H locs arr hP hD hS hl
  obtain ⟨hx, hb, hml, hr, hown, hts, hlocks, hnm, hK, hA, hR, hX⟩ := ok
  refine va_last hx hb hK hP hD hS a 3 (z_wl_get (z_lt hcl hk) |>.trans (by rw [z_E_l hk])) rfl hin hd (fun H1 locs1 hP1 hD1 hS1 => ?_)
  have e4 : z_E ty ad (z_sw S a i.toNatClampNeg x) v a = .inl (ty 3, z_l S a, .inr (.inl (vp_updL (z_w S a) i.toNatClampNeg x))) := by
    have e5 : z_w (z_sw S a i.toNatClampNeg x) a = vp_updL (z_w S a) i.toNatClampNeg x := if_pos rfl
    rw [z_E_l (S := z_sw S a i.toNatClampNeg x) hk, e5]
    rfl
  rw [z_wl_set (E' := z_E ty ad (z_sw S a i.toNatClampNeg x) v) e4 (fun b _ hb => z_E_w hb)] at hP1 hD1
  exact K H1 locs1 arr hP1 hD1 hS1 hl
end AL
