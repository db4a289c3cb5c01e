/-! A METHOD THROWS, its caller catches: check, qubit, edge and the law's three methods that call them -/
def ex_N : String := "java/util/NoSuchElementException"
def ex_s : List String := ["java/lang/RuntimeException", "java/lang/Exception"]
def ex_L : List Cond := vx_at0 RX10 160 ex_N ex_s
theorem ex_good : ex_L.all (fun w => goodWord w || (decide (w = .castable ex_N ex_N) || (z_dc.map (fun y => Cond.declares y)).contains w)) = true := by decide +kernel
theorem ex_in : ex_L.all (fun w => lw_tbl.contains w) = true := by decide +kernel
theorem ex_ot : (Cond.classLink RX10 158 ex_N :: Cond.initialized ex_N :: ex_L).all (fun w => vx_ot w) = true := by decide +kernel
theorem ex_w (w : Cond) (h : (lw_tbl.contains w && goodWord w) = true) : w ∈ z_TB := by
  rw [Bool.and_eq_true] at h
  exact z_TBm (List.contains_iff_mem.mp h.1) h.2
theorem ex_k : Cond.classLink RX10 158 ex_N ∈ z_TB := ex_w _ (by decide +kernel)
theorem ex_i : Cond.initialized ex_N ∈ z_TB := ex_w _ (by decide +kernel)
theorem ex_at {G : z_G} {ad : Nat → Nat} {A : Nat → Prop} {s : State} {args : Array Value} (hts : ∀ w ∈ z_TB, w.before args s = true) (hX : z_XP G ad A s s.heap) : ∀ w ∈ vx_at0 RX10 160 ex_N ex_s, w.before args s = true := by
  intro w hw
  have h1 := List.all_eq_true.mp ex_good w hw
  have h2 := List.all_eq_true.mp ex_in w hw
  by_cases g : goodWord w = true
  · exact hts w (z_TBm (List.contains_iff_mem.mp h2) g)
  · have g : goodWord w = false := by cases hg : goodWord w with
      | false => rfl
      | true => exact absurd hg g
    rw [g, Bool.false_or, Bool.or_eq_true] at h1
    rcases h1 with h1 | h1
    · have e := of_decide_eq_true h1
      rw [e]
      exact va_Nw.use rfl hX.2.2.2.2.2.2.2.2.2.2.2.2.1
    · obtain ⟨y, hy, e⟩ := List.mem_map.mp (List.contains_iff_mem.mp h1)
      rw [← e]
      exact va_Nw.use rfl (hX.2.2.2.2.2.2.2.2.2.2.2.2.2 y hy)
/-- from k the machine comes to a configuration with P -/
def z_JP (G : z_G) (d : Nat) (M : z_M) (k : z_C) (P : z_C → Prop) : Prop := ∃ k', P k' ∧ z_R G d M k k'
theorem z_JP.go {G : z_G} {d : Nat} {M : z_M} {k k' : z_C} {P : z_C → Prop} (h : z_R G d M k k') (hj : z_JP G d M k' P) : z_JP G d M k P := by
  obtain ⟨k2, h1, h2⟩ := hj
  exact ⟨k2, h1, h.tr h2⟩
/-- a place where 'throw new NoSuchElementException()' stands, nothing on the stack -/
def z_th (M : z_M) (k : z_C) : Prop := M.1.cls = RX10 ∧ k.2.2.1 = [] ∧ decode M.2.1 k.1 = .ok (.new 158, 3) ∧ decode M.2.1 (k.1 + 3) = .ok (.dup, 1) ∧ decode M.2.1 (k.1 + 4) = .ok (.invokespecial 160, 3) ∧ decode M.2.1 (k.1 + 7) = .ok (.athrow, 1)
def z_TH (M : z_M) (T : z_Shp → z_Dat → Prop) (k : z_C) : Prop := z_th M k ∧ T k.2.2.2.1 k.2.2.2.2
section ZT
variable {G : z_G} {d : Nat} {M M' : z_M} {pc idx : Nat} {ls st avs : List Value} {S : z_Shp} {v : z_Dat} {P : z_C → Prop}
theorem zt_end {T : z_Shp → z_Dat → Prop} (hM : M.1.cls = RX10) (_ : (0 : Nat) = 0) (d0 : decode M.2.1 pc = .ok (.new 158, 3)) (d3 : decode M.2.1 (pc + 3) = .ok (.dup, 1)) (d4 : decode M.2.1 (pc + 4) = .ok (.invokespecial 160, 3)) (d7 : decode M.2.1 (pc + 7) = .ok (.athrow, 1)) (h : T S v) : z_JP G d M (pc, ls, [], S, v) (z_TH M T) :=
  ⟨(pc, ls, [], S, v), ⟨⟨hM, rfl, d0, d3, d4, d7⟩, h⟩, z_R.rf⟩
theorem zt_aaload0 {a b : Nat} {i : Int32} (hd : decode M.2.1 pc = .ok (.aaload, 1)) (hk : z_k S a = 25) (hin : vp_in i (z_l S a)) (hb2 : z_r S a i.toNatClampNeg = some b) (hj : z_JP G d M (pc + 1, ls, .ref b :: st, S, v) P) : z_JP G d M (pc, ls, .int i :: .ref a :: st, S, v) P := by
  refine z_JP.go (z_one ?_) hj
  intro p l e R s m args below meth c D ty A ad c0 s0 Q hcl ok K H locs arr hP hD hS hl
  obtain ⟨hx, hb, hml, hr, hown, hts, hlocks, hnm, hK, hA, hR, hX⟩ := ok
  have ha : (z_ws ty ad S v)[a]? = some (ad a, .inl (ty 4, z_l S a, .inr (.inr (.inr (.inr (fun i => (z_r S a i).map ad)))))) := z_wl_get (z_lt hcl hk) |>.trans (by rw [z_E_q (t := 0) hk])
  have hlt : i.toNatClampNeg < z_l S a := Nat.not_le.mp fun q => hin (Or.inr q)
  exact W.aald (v := .ref (ad b)) (ty := .array .int) hx hb (hP a _ ha) ((hK.2 4 _ rfl).1 (z_l S a) (fun j => va_rf ((z_r S a j).map ad))) rfl (fun q => by cases q) (by show ¬ (i < 0 ∨ (arrV _ _ _).slots.size ≤ _); rw [arrV_size]; exact hin) (by show (arrV _ _ _).slots[_]? = _; rw [arrV_read _ _ hlt]; show some (va_rf ((z_r S a i.toNatClampNeg).map ad)) = _; rw [hb2]; rfl) rfl rfl hd (K H locs arr hP hD hS hl)
theorem zt_aload_n {k : Fin 4} {i : Nat} {x : Nat} (hd : decode M.2.1 pc = .ok (.aload_n k, 1)) (hi : (k : Nat) = i) (hv : ls[i]? = some (.ref x)) (hj : z_JP G d M (pc + 1, ls, .ref x :: st, S, v) P) : z_JP G d M (pc, ls, st, S, v) P := by
  refine z_JP.go (z_one ?_) hj
  intro p l e R s m args below meth c D ty A ad c0 s0 Q hcl ok K H locs arr hP hD hS hl
  obtain ⟨hx, hb, hml, hr, hown, hts, hlocks, hnm, hK, hA, hR, hX⟩ := ok
  exact lv_aload_n hx hb hd hi (hl.at hv (fun z => by cases z)) (K H locs arr hP hD hS hl)
theorem zt_aload {i : Nat} {x : Nat} (hd : decode M.2.1 pc = .ok (.aload i, 2)) (hv : ls[i]? = some (.ref x)) (hj : z_JP G d M (pc + 2, ls, .ref x :: st, S, v) P) : z_JP G d M (pc, ls, st, S, v) P := by
  refine z_JP.go (z_one ?_) hj
  intro p l e R s m args below meth c D ty A ad c0 s0 Q hcl ok K H locs arr hP hD hS hl
  obtain ⟨hx, hb, hml, hr, hown, hts, hlocks, hnm, hK, hA, hR, hX⟩ := ok
  exact lv_aload hx hb hd (hl.at hv (fun z => by cases z)) (K H locs arr hP hD hS hl)
theorem zt_getI {idx a ci j : Nat} (hd : decode M.2.1 pc = .ok (.getfield idx, 3)) (hw : Cond.fieldLink M.1.cls idx (z_T ci j).1 (z_T ci j).2.1 (z_T ci j).2.2.1 ∈ z_TB) (hc : ci < 12) (hj2 : j < z_nf ci) (hk : z_k S a = ci + 1) (hr2 : z_isr ci j = false) (hj : z_JP G d M (pc + 3, ls, .int (v a j) :: st, S, v) P) : z_JP G d M (pc, ls, .ref a :: st, S, v) P := by
  refine z_JP.go (z_one ?_) hj
  intro p l e R s m args below meth c D ty A ad c0 s0 Q hcl ok K H locs arr hP hD hS hl
  obtain ⟨hx, hb, hml, hr, hown, hts, hlocks, hnm, hK, hA, hR, hX⟩ := ok
  exact va_get hx hb hts (z_inT hc) hown hK hP a (z_wl_get (z_lt hcl hk) |>.trans (by rw [z_E_o hk hc])) (z_CLg hc) j hj2 (hts _ hw) (fun _ h => h) (v := .int (v a j)) (by rw [z_fs_get hj2, hr2]; rfl) hd (K H locs arr hP hD hS hl)
theorem zt_getR {idx a ci j b : Nat} (hd : decode M.2.1 pc = .ok (.getfield idx, 3)) (hw : Cond.fieldLink M.1.cls idx (z_T ci j).1 (z_T ci j).2.1 (z_T ci j).2.2.1 ∈ z_TB) (hc : ci < 12) (hj2 : j < z_nf ci) (hk : z_k S a = ci + 1) (hr2 : z_isr ci j = true) (hb2 : z_r S a j = some b) (hj : z_JP G d M (pc + 3, ls, .ref b :: st, S, v) P) : z_JP G d M (pc, ls, .ref a :: st, S, v) P := by
  refine z_JP.go (z_one ?_) hj
  intro p l e R s m args below meth c D ty A ad c0 s0 Q hcl ok K H locs arr hP hD hS hl
  obtain ⟨hx, hb, hml, hr, hown, hts, hlocks, hnm, hK, hA, hR, hX⟩ := ok
  exact va_get hx hb hts (z_inT hc) hown hK hP a (z_wl_get (z_lt hcl hk) |>.trans (by rw [z_E_o hk hc])) (z_CLg hc) j hj2 (hts _ hw) (fun _ h => h) (v := .ref (ad b)) (by rw [z_fs_get hj2, hr2]; rw [hb2]; rfl) hd (K H locs arr hP hD hS hl)
theorem zt_goto {off : Int} {tgt : Nat} (hd : decode M.2.1 pc = .ok (.goto off, 3)) (ht : (pc : Int) + off = (tgt : Int)) (hj : z_JP G d M (tgt, ls, st, S, v) P) : z_JP G d M (pc, ls, st, S, v) P := by
  refine z_JP.go (z_one ?_) hj
  intro p l e R s m args below meth c D ty A ad c0 s0 Q hcl ok K H locs arr hP hD hS hl
  obtain ⟨hx, hb, hml, hr, hown, hts, hlocks, hnm, hK, hA, hR, hX⟩ := ok
  exact lv_goto hx hb hd ht (K H locs arr hP hD hS hl)
theorem zt_iaload {a : Nat} {i : Int32} (hd : decode M.2.1 pc = .ok (.iaload, 1)) (hk : z_k S a = 21) (hin : vp_in i (z_l S a)) (hj : z_JP G d M (pc + 1, ls, .int (v a i.toNatClampNeg) :: st, S, v) P) : z_JP G d M (pc, ls, .int i :: .ref a :: st, S, v) P := by
  refine z_JP.go (z_one ?_) hj
  intro p l e R s m args below meth c D ty A ad c0 s0 Q hcl ok K H locs arr hP hD hS hl
  obtain ⟨hx, hb, hml, hr, hown, hts, hlocks, hnm, hK, hA, hR, hX⟩ := ok
  exact va_iald hx hb hK hP a 0 (z_wl_get (z_lt hcl hk) |>.trans (by rw [z_E_i (t := 0) hk (by omega)])) rfl hin hd (K H locs arr hP hD hS hl)
theorem zt_icmp_lt {x y : Int32} {off : Int} {tgt : Nat} (hd : decode M.2.1 pc = .ok (.if_icmp .lt off, 3)) (ht : (pc : Int) + off = (tgt : Int)) (hj : x < y → z_JP G d M (tgt, ls, st, S, v) P) (hf : ¬ x < y → z_JP G d M (pc + 3, ls, st, S, v) P) : z_JP G d M (pc, ls, .int y :: .int x :: st, S, v) P := by
  by_cases hc : x < y
  · refine z_JP.go (z_one ?_) (hj hc)
    intro p l e R s m args below meth c D ty A ad c0 s0 Q hcl ok K H locs arr hP hD hS hl
    obtain ⟨hx, hb, hml, hr, hown, hts, hlocks, hnm, hK, hA, hR, hX⟩ := ok
    exact lv_icmp_lt hx hb hd ht (fun _ => (K H locs arr hP hD hS hl)) (fun z => absurd hc z)
  · refine z_JP.go (z_one ?_) (hf hc)
    intro p l e R s m args below meth c D ty A ad c0 s0 Q hcl ok K H locs arr hP hD hS hl
    obtain ⟨hx, hb, hml, hr, hown, hts, hlocks, hnm, hK, hA, hR, hX⟩ := ok
    exact lv_icmp_lt hx hb hd ht (fun z => absurd z hc) (fun _ => (K H locs arr hP hD hS hl))
theorem zt_icmp_ne {x y : Int32} {off : Int} {tgt : Nat} (hd : decode M.2.1 pc = .ok (.if_icmp .ne off, 3)) (ht : (pc : Int) + off = (tgt : Int)) (hj : ¬ x = y → z_JP G d M (tgt, ls, st, S, v) P) (hf : x = y → z_JP G d M (pc + 3, ls, st, S, v) P) : z_JP G d M (pc, ls, .int y :: .int x :: st, S, v) P := by
  by_cases hc : x = y
  · refine z_JP.go (z_one ?_) (hf hc)
    intro p l e R s m args below meth c D ty A ad c0 s0 Q hcl ok K H locs arr hP hD hS hl
    obtain ⟨hx, hb, hml, hr, hown, hts, hlocks, hnm, hK, hA, hR, hX⟩ := ok
    exact lv_icmp_ne hx hb hd ht (fun z => absurd hc z) (fun _ => (K H locs arr hP hD hS hl))
  · refine z_JP.go (z_one ?_) (hj hc)
    intro p l e R s m args below meth c D ty A ad c0 s0 Q hcl ok K H locs arr hP hD hS hl
    obtain ⟨hx, hb, hml, hr, hown, hts, hlocks, hnm, hK, hA, hR, hX⟩ := ok
    exact lv_icmp_ne hx hb hd ht (fun _ => (K H locs arr hP hD hS hl)) (fun z => absurd z hc)
theorem zt_iconst {n : Int} {x : Int32} (hd : decode M.2.1 pc = .ok (.iconst n, 1)) (hv : Int32.ofInt n = x) (hj : z_JP G d M (pc + 1, ls, .int x :: st, S, v) P) : z_JP G d M (pc, ls, st, S, v) P := by
  refine z_JP.go (z_one ?_) hj
  intro p l e R s m args below meth c D ty A ad c0 s0 Q hcl ok K H locs arr hP hD hS hl
  obtain ⟨hx, hb, hml, hr, hown, hts, hlocks, hnm, hK, hA, hR, hX⟩ := ok
  exact lv_iconst hx hb hd hv (K H locs arr hP hD hS hl)
theorem zt_if_lt {x : Int32} {off : Int} {tgt : Nat} (hd : decode M.2.1 pc = .ok (.ifCond .lt off, 3)) (ht : (pc : Int) + off = (tgt : Int)) (hj : x < 0 → z_JP G d M (tgt, ls, st, S, v) P) (hf : ¬ x < 0 → z_JP G d M (pc + 3, ls, st, S, v) P) : z_JP G d M (pc, ls, .int x :: st, S, v) P := by
  by_cases hc : x < 0
  · refine z_JP.go (z_one ?_) (hj hc)
    intro p l e R s m args below meth c D ty A ad c0 s0 Q hcl ok K H locs arr hP hD hS hl
    obtain ⟨hx, hb, hml, hr, hown, hts, hlocks, hnm, hK, hA, hR, hX⟩ := ok
    exact lv_if_lt hx hb hd ht (fun _ => (K H locs arr hP hD hS hl)) (fun z => absurd hc z)
  · refine z_JP.go (z_one ?_) (hf hc)
    intro p l e R s m args below meth c D ty A ad c0 s0 Q hcl ok K H locs arr hP hD hS hl
    obtain ⟨hx, hb, hml, hr, hown, hts, hlocks, hnm, hK, hA, hR, hX⟩ := ok
    exact lv_if_lt hx hb hd ht (fun z => absurd z hc) (fun _ => (K H locs arr hP hD hS hl))
theorem zt_if_ne {x : Int32} {off : Int} {tgt : Nat} (hd : decode M.2.1 pc = .ok (.ifCond .ne off, 3)) (ht : (pc : Int) + off = (tgt : Int)) (hj : ¬ x = 0 → z_JP G d M (tgt, ls, st, S, v) P) (hf : x = 0 → z_JP G d M (pc + 3, ls, st, S, v) P) : z_JP G d M (pc, ls, .int x :: st, S, v) P := by
  by_cases hc : x = 0
  · refine z_JP.go (z_one ?_) (hf hc)
    intro p l e R s m args below meth c D ty A ad c0 s0 Q hcl ok K H locs arr hP hD hS hl
    obtain ⟨hx, hb, hml, hr, hown, hts, hlocks, hnm, hK, hA, hR, hX⟩ := ok
    exact lv_if_ne hx hb hd ht (fun z => absurd hc z) (fun _ => (K H locs arr hP hD hS hl))
  · refine z_JP.go (z_one ?_) (hj hc)
    intro p l e R s m args below meth c D ty A ad c0 s0 Q hcl ok K H locs arr hP hD hS hl
    obtain ⟨hx, hb, hml, hr, hown, hts, hlocks, hnm, hK, hA, hR, hX⟩ := ok
    exact lv_if_ne hx hb hd ht (fun _ => (K H locs arr hP hD hS hl)) (fun z => absurd z hc)
theorem zt_iload_n {k : Fin 4} {i : Nat} {x : Int32} (hd : decode M.2.1 pc = .ok (.iload_n k, 1)) (hi : (k : Nat) = i) (hv : ls[i]? = some (.int x)) (hj : z_JP G d M (pc + 1, ls, .int x :: st, S, v) P) : z_JP G d M (pc, ls, st, S, v) P := by
  refine z_JP.go (z_one ?_) hj
  intro p l e R s m args below meth c D ty A ad c0 s0 Q hcl ok K H locs arr hP hD hS hl
  obtain ⟨hx, hb, hml, hr, hown, hts, hlocks, hnm, hK, hA, hR, hX⟩ := ok
  exact lv_iload_n hx hb hd hi (hl.at hv (fun z => by cases z)) (K H locs arr hP hD hS hl)
theorem zt_iload {i : Nat} {x : Int32} (hd : decode M.2.1 pc = .ok (.iload i, 2)) (hv : ls[i]? = some (.int x)) (hj : z_JP G d M (pc + 2, ls, .int x :: st, S, v) P) : z_JP G d M (pc, ls, st, S, v) P := by
  refine z_JP.go (z_one ?_) hj
  intro p l e R s m args below meth c D ty A ad c0 s0 Q hcl ok K H locs arr hP hD hS hl
  obtain ⟨hx, hb, hml, hr, hown, hts, hlocks, hnm, hK, hA, hR, hX⟩ := ok
  exact lv_iload hx hb hd (hl.at hv (fun z => by cases z)) (K H locs arr hP hD hS hl)
theorem zt_isub {x y : Int32} (hd : decode M.2.1 pc = .ok (.isub, 1)) (hj : z_JP G d M (pc + 1, ls, .int (x - y) :: st, S, v) P) : z_JP G d M (pc, ls, .int y :: .int x :: st, S, v) P := by
  refine z_JP.go (z_one ?_) hj
  intro p l e R s m args below meth c D ty A ad c0 s0 Q hcl ok K H locs arr hP hD hS hl
  obtain ⟨hx, hb, hml, hr, hown, hts, hlocks, hnm, hK, hA, hR, hX⟩ := ok
  exact lv_isub hx hb hd (K H locs arr hP hD hS hl)
theorem zt_tabIn {dflt lo hi : Int} {offs : Array Int} {len : Nat} {x : Int32} {off : Int} {tgt : Nat} (hd : decode M.2.1 pc = .ok (.tableswitch dflt lo hi offs, len)) (h1 : ¬ x.toInt < lo) (h2 : ¬ hi < x.toInt) (ho : offs[(x.toInt - lo).toNat]? = some off) (ht : (pc : Int) + off = (tgt : Int)) (hj : z_JP G d M (tgt, ls, st, S, v) P) : z_JP G d M (pc, ls, .int x :: st, S, v) P := by
  refine z_JP.go (z_one ?_) hj
  intro p l e R s m args below meth c D ty A ad c0 s0 Q hcl ok K H locs arr hP hD hS hl
  obtain ⟨hx, hb, hml, hr, hown, hts, hlocks, hnm, hK, hA, hR, hX⟩ := ok
  exact lv_tableIn hx hb hd h1 h2 ho ht (K H locs arr hP hD hS hl)
theorem zt_tabOut {dflt lo hi : Int} {offs : Array Int} {len : Nat} {x : Int32} {tgt : Nat} (hd : decode M.2.1 pc = .ok (.tableswitch dflt lo hi offs, len)) (h : x.toInt < lo ∨ hi < x.toInt) (ht : (pc : Int) + dflt = (tgt : Int)) (hj : z_JP G d M (tgt, ls, st, S, v) P) : z_JP G d M (pc, ls, .int x :: st, S, v) P := by
  refine z_JP.go (z_one ?_) hj
  intro p l e R s m args below meth c D ty A ad c0 s0 Q hcl ok K H locs arr hP hD hS hl
  obtain ⟨hx, hb, hml, hr, hown, hts, hlocks, hnm, hK, hA, hR, hX⟩ := ok
  exact lv_tableOut hx hb hd h ht (K H locs arr hP hD hS hl)
set_option maxHeartbeats 1000000 in
theorem zt_callV {b ci : Nat} (hd : decode M.2.1 pc = .ok (.invokevirtual idx, 3)) (hm : z_mw M') (hw : Cond.methodLink M.1.cls idx M'.1 ∈ z_TB) (hi : Cond.instanceMethod M'.1 ∈ z_TB) (hs : Cond.selects M'.1.cls M'.1 M'.1 ∈ z_TB) (hc : ci < 12) (hk : z_k S b = ci + 1) (hcn : M'.1.cls = z_cn ci) (hn : (parseMethodDescriptor M'.1.desc).map (fun q => q.parameters.length) = some avs.length) (hL : M'.2.2.1 ≤ 44) (hav : (.ref b :: avs).all z_isv = true) (hlen : (z_fl (.ref b :: avs)).length ≤ M'.2.2.1) (hst : (st.map fun w => w.category).sum ≤ 8) (ho1 : z_okr S ls) (ho2 : z_okr S st)
    (hj : z_J G d M' (0, z_ent M'.2.2.1 (.ref b :: avs), [], S, v) (fun r S1 v1 => z_JP G (d + 1) M (pc + 3, ls, r.toList ++ st, S1, v1) P)) : z_JP G (d + 1) M (pc, ls, avs.reverse ++ .ref b :: st, S, v) P := by
  obtain ⟨r, k', hq, hR, hre⟩ := hj
  refine z_JP.go ?_ hq
  intro hcl
  obtain ⟨a1, a2, a3, a4, -⟩ := hR hcl
  refine ⟨a1, a2, a3, a4, ?_⟩
  intro p l e R s m args below meth c D ty A ad c0 s0 Q ok hlt h1 h2 h3 h4 K H locs arr hP hD hS hl
  have okc := ok
  obtain ⟨hx, hb, hml, hr, hown, hts, hlocks, hnm, hK, hA, hRm, hX⟩ := ok
  have h1 : c0 ≤ z_c S := h1
  have h2 : s0 ≤ z_s S := h2
  have hM := z_met hcl hm.2.2.1 hav hlen hR hre l hlt D ty ad H.size
  refine z_back (a := ((.ref b :: avs).map (z_mv ad)).toArray) okc hcl (fun q hq => (List.mem_append.mp hq).elim (z_okr_in hcl ls ho1 q) (z_okr_in hcl st ho2 q)) h1 h2 a3 a4 hP hD hS hl (z_rv0 hre) ?_ K
  have hpar : ∀ sig, parseMethodDescriptor M'.1.desc = some sig → avs.length = sig.parameters.length := fun sig h => by
    rw [h] at hn
    exact (Option.some.inj hn).symm
  have hfr : d + 1 ≤ R.frames ∧ 8 + (M'.2.2.1 + 11) + 64 * d ≤ R.locals := ⟨hRm.1, by have := hRm.2; omega⟩
  have hFc : ∀ q, va_A (z_ws ty ad S v) H.size q → A q := fun q hq => by
    rcases hq with ⟨k, e1, hk⟩ | h
    · exact hD.2 k _ hk
    · exact hA q (Nat.le_trans hS.1 h)
  have hpre : ∀ U : State, U.heap = H → s.WarmedH U.vm → z_Pc G D ty ad S v (.ref b :: avs) H.size ((.ref b :: avs).map (z_mv ad)).toArray U := fun U hU hW => ⟨rfl, by rw [hU], by rw [hU]; exact hP, va_K.moved hW.alike hK, hD.weaken (fun _ _ _ _ => trivial), hX.to hS hU hW hFc⟩
  have hcb : z_c S - c0 + (z_c k'.2.2.2.1 - z_c S) ≤ R.cells ∧ z_s S - s0 + (z_s k'.2.2.2.1 - z_s S) ≤ R.slots := by
    have a3 : z_c S ≤ z_c k'.2.2.2.1 := a3
    have a4 : z_s S ≤ z_s k'.2.2.2.1 := a4
    have h3 : z_c k'.2.2.2.1 - c0 ≤ R.cells := h3
    have h4 : z_s k'.2.2.2.1 - s0 ≤ R.slots := h4
    constructor <;> omega
  exact va_runV (C := M'.1.cls) (As := avs.map (z_mv ad)) (rest := st.map (z_mv ad)) (b := ad b) ⟨hx, hb, hml, hown, hts⟩ hM ⟨⟨rfl, rfl, hfr.1, hfr.2, pay_in hts (z_wmG hm), List.mem_cons_self, hts _ hm.1, hts _ hm.2.1, ⟨hm.2.2.2.1, hm.2.2.2.2⟩, hpar, hts _ hw⟩, hts _ hi, hts _ hs⟩ ⟨z_blind _ _ _ _ _ _ _ _, by rw [hcn]; exact (va_recv hK hP (z_CLg hc) (z_wl_get (z_lt hcl hk) |>.trans (by rw [z_E_o hk hc]))), hpre⟩ rfl (by simp) hl.1 (z_rv ad avs b st) (lv_room (by rw [z_catm]; exact hst)) hd hcb
set_option maxHeartbeats 1000000 in
theorem zt_callS  (hd : decode M.2.1 pc = .ok (.invokestatic idx, 3)) (hm : z_mw M') (hw : Cond.methodLink M.1.cls idx M'.1 ∈ z_TB) (hi : Cond.static M'.1 ∈ z_TB) (hn : (parseMethodDescriptor M'.1.desc).map (fun q => q.parameters.length) = some avs.length) (hL : M'.2.2.1 ≤ 44) (hav : (avs).all z_isv = true) (hlen : (z_fl (avs)).length ≤ M'.2.2.1) (hst : (st.map fun w => w.category).sum ≤ 8) (ho1 : z_okr S ls) (ho2 : z_okr S st)
    (hj : z_J G d M' (0, z_ent M'.2.2.1 (avs), [], S, v) (fun r S1 v1 => z_JP G (d + 1) M (pc + 3, ls, r.toList ++ st, S1, v1) P)) : z_JP G (d + 1) M (pc, ls, avs.reverse ++ st, S, v) P := by
  obtain ⟨r, k', hq, hR, hre⟩ := hj
  refine z_JP.go ?_ hq
  intro hcl
  obtain ⟨a1, a2, a3, a4, -⟩ := hR hcl
  refine ⟨a1, a2, a3, a4, ?_⟩
  intro p l e R s m args below meth c D ty A ad c0 s0 Q ok hlt h1 h2 h3 h4 K H locs arr hP hD hS hl
  have okc := ok
  obtain ⟨hx, hb, hml, hr, hown, hts, hlocks, hnm, hK, hA, hRm, hX⟩ := ok
  have h1 : c0 ≤ z_c S := h1
  have h2 : s0 ≤ z_s S := h2
  have hM := z_met hcl hm.2.2.1 hav hlen hR hre l hlt D ty ad H.size
  refine z_back (a := ((avs).map (z_mv ad)).toArray) okc hcl (fun q hq => (List.mem_append.mp hq).elim (z_okr_in hcl ls ho1 q) (z_okr_in hcl st ho2 q)) h1 h2 a3 a4 hP hD hS hl (z_rv0 hre) ?_ K
  have hpar : ∀ sig, parseMethodDescriptor M'.1.desc = some sig → avs.length = sig.parameters.length := fun sig h => by
    rw [h] at hn
    exact (Option.some.inj hn).symm
  have hfr : d + 1 ≤ R.frames ∧ 8 + (M'.2.2.1 + 11) + 64 * d ≤ R.locals := ⟨hRm.1, by have := hRm.2; omega⟩
  have hFc : ∀ q, va_A (z_ws ty ad S v) H.size q → A q := fun q hq => by
    rcases hq with ⟨k, e1, hk⟩ | h
    · exact hD.2 k _ hk
    · exact hA q (Nat.le_trans hS.1 h)
  have hpre : ∀ U : State, U.heap = H → s.WarmedH U.vm → z_Pc G D ty ad S v (avs) H.size ((avs).map (z_mv ad)).toArray U := fun U hU hW => ⟨rfl, by rw [hU], by rw [hU]; exact hP, va_K.moved hW.alike hK, hD.weaken (fun _ _ _ _ => trivial), hX.to hS hU hW hFc⟩
  have hcb : z_c S - c0 + (z_c k'.2.2.2.1 - z_c S) ≤ R.cells ∧ z_s S - s0 + (z_s k'.2.2.2.1 - z_s S) ≤ R.slots := by
    have a3 : z_c S ≤ z_c k'.2.2.2.1 := a3
    have a4 : z_s S ≤ z_s k'.2.2.2.1 := a4
    have h3 : z_c k'.2.2.2.1 - c0 ≤ R.cells := h3
    have h4 : z_s k'.2.2.2.1 - s0 ≤ R.slots := h4
    constructor <;> omega
  exact va_runS (As := avs.map (z_mv ad)) (rest := st.map (z_mv ad)) ⟨hx, hb, hml, hown, hts⟩ hM ⟨⟨rfl, rfl, hfr.1, hfr.2, pay_in hts (z_wmG hm), List.mem_cons_self, hts _ hm.1, hts _ hm.2.1, ⟨hm.2.2.2.1, hm.2.2.2.2⟩, hpar, hts _ hw⟩, hts _ hi⟩ ⟨z_blind _ _ _ _ _ _ _ _, hpre⟩ rfl (by simp) hl.1 (by simp) (lv_room (by rw [z_catm]; exact hst)) hd hcb
end ZT
/-- what an object made outside the memory costs -/
def z_ct (S : z_Shp) (c s : Nat) : z_Shp := (z_n S, z_c S + c, z_s S + s, z_k S, z_l S, z_r S, z_w S)
abbrev ex_X (D : va_G) (ty : Nat → ClassId) (ad : Nat → Nat) (A : Nat → Prop) (n : Nat) (S : z_Shp) (v : z_Dat) : String → State → State → Prop := vx_X (fun u : Nat → Nat => z_ag n ad u) (fun E u t => E = ex_N ∧ z_B D ty A S v u t) A
abbrev ex_0 (A : Nat → Prop) : Array Value → State → Outcome → State → Prop := va_Qi (fun (_ : Int32) (_ : Unit) => False) (fun _ _ => True) A
set_option maxHeartbeats 1000000 in
theorem z_metT {G : z_G} {d : Nat} {M : z_M} {avs : List Value} {S : z_Shp} {v : z_Dat} {k' : z_C} (hd : 6 ≤ d) (hcl : z_cl S) (hy : plainName M.1.cls = true) (hav : avs.all z_isv = true) (hlen : (z_fl avs).length ≤ M.2.2.1)
    (hR : z_R G d M (0, z_ent M.2.2.1 avs, [], S, v) k') (hth : z_th M k') (l : Launch) (hlt : l.stackTraces = false) (D : va_G) (ty : Nat → ClassId) (ad : Nat → Nat) (sz : Nat) :
    vx_Met l M.1 (z_wm M) (z_rm d (z_c k'.2.2.2.1 + 1 - z_c S) (z_s k'.2.2.2.1 + 6 - z_s S)) (z_Pc G D ty ad S v avs sz) (ex_0 (va_A (z_ws ty ad S v) sz)) (ex_X D ty ad (va_A (z_ws ty ad S v) sz) (z_n S) k'.2.2.2.1 k'.2.2.2.2) (z_c k'.2.2.2.1 + 1 - z_c S) (z_s k'.2.2.2.1 + 6 - z_s S) (va_A (z_ws ty ad S v) sz) := by
  refine vx_ofW (cc := M.2.1) (maxL := M.2.2.1) (ret := M.2.2.2) hy rfl ?_
  intro p e s m args below meth c s₁ B hml htab hv
  obtain ⟨rfl, hsz, hP, hK, hD0, hX⟩ := hv
  subst hsz
  have hD := hD0.self (sz := s.heap.size)
  obtain ⟨hc', h1, h2, h3, h4⟩ := hR hcl
  have hlocks : meth.locks = false := B.notSynchronized
  have hts : ∀ w ∈ z_TB, w.before (avs.map (z_mv ad)).toArray s = true := fun w hw => atoms_spec (ws := z_wm M) B.pre w (List.mem_cons_of_mem _ hw)
  have hown := findClass_of_methodNamed B.named
  have ok : z_ok G d M p (headSpec (z_wm M) (z_rm d (z_c k'.2.2.2.1 + 1 - z_c S) (z_s k'.2.2.2.1 + 6 - z_s S))).room s m (avs.map (z_mv ad)).toArray meth c D ty (va_A (z_ws ty ad S v) s.heap.size) ad :=
    ⟨B.exec, B.bytes, hml, B.returns, hown, hts, hlocks, (name_of_methodNamed B.named B.method).1, hK, fun q h => Or.inr h, ⟨Nat.le_refl _, Nat.le_refl _⟩, hX⟩
  have hl := lv_entry (avs.map (z_mv ad)) (n := M.2.2.1) (by rw [z_fl_len ad avs hav]; exact hlen)
  rw [lg_entry_eq]
  generalize (lg_sl (avs.map (z_mv ad)) ++ List.replicate (M.2.2.1 - (lg_sl (avs.map (z_mv ad))).length) Slot.unset).toArray = arr0 at hl ⊢
  have h2 : z_c S ≤ z_c k'.2.2.2.1 := h2
  have h3 : z_s S ≤ z_s k'.2.2.2.1 := h3
  have K := h4 p l e _ s m _ below meth c D ty _ ad (z_c S) (z_s S) (vx_MQ below (ex_0 (va_A (z_ws ty ad S v) s.heap.size)) (ex_X D ty ad (va_A (z_ws ty ad S v) s.heap.size) (z_n S) k'.2.2.2.1 k'.2.2.2.2) (avs.map (z_mv ad)).toArray s (z_c k'.2.2.2.1 + 1 - z_c S) (z_s k'.2.2.2.1 + 6 - z_s S) (va_A (z_ws ty ad S v) s.heap.size)) ok hlt (Nat.le_refl _) (Nat.le_refl _) (by show _ ≤ z_c k'.2.2.2.1 + 1 - z_c S; omega) (by show _ ≤ z_s k'.2.2.2.1 + 6 - z_s S; omega) ?_
  · have K2 := K s.heap [] arr0 hP hD va_S.rf (z_entry hav hlen hl)
    rw [Nat.sub_self, Nat.sub_self] at K2
    exact K2
  · intro ad' hg H locs arr hP1 hD1 hS1 hl1
    obtain ⟨pc, ls, st, S', v'⟩ := k'
    obtain ⟨t1, t2, t3, t4, t5, t6⟩ := hth
    have t2 : st = [] := t2
    subst t2
    have hown2 : s.vm.findClass RX10 = some m.cls := by rw [← t1]; exact hown
    have h2 : z_c S ≤ z_c S' := h2
    have h3 : z_s S ≤ z_s S' := h3
    refine vx_throw0 (own := RX10) (cls := ex_N) (names := ex_s) (ik := 158) (ic := 160) (A := va_A (z_ws ty ad S v) s.heap.size) B.exec B.bytes hlt hown2 (by decide +kernel) (by decide +kernel) (hts _ ex_k) (hts _ ex_i) (ex_at hts hX) (fun w hw => List.all_eq_true.mp ex_ot w hw) hX.2.2.2.2.2.2.2.2.2.2.1 hX.2.2.2.2.2.2.2.2.2.2.2.1 hS1 (by rw [hml]; exact hl1.1) t3 t4 t5 t6 (fun x hx => (htab x hx).elim) (by show 2 + 3 < d; omega) (by show 0 + (13 * (2 + 1) + 42) ≤ 64 * d; omega) (by show z_c S' - z_c S + 1 ≤ z_c S' + 1 - z_c S; omega) (by show z_s S' - z_s S + 6 ≤ z_s S' + 6 - z_s S; omega) hlocks (fun t ht hz hk => ?_) hS1.2.2 (by show z_c S' - z_c S + 1 ≤ z_c S' + 1 - z_c S; omega) (by show z_s S' - z_s S + 6 ≤ z_s S' + 6 - z_s S; omega)
    exact ⟨ad', hg, ⟨rfl, hP1.kept (fun k q hkq => hk q.1 (hP1 k q hkq).lt), va_K.moved ht hK, hD1⟩, Nat.le_trans hS1.1 hz, fun q hq hnA => (hk q (Nat.lt_of_lt_of_le hq hS1.1)).trans (hS1.2.1 q hq hnA)⟩
/-- a method with a table of its own -/
def z_mwX (M : z_M) (hh : List (Nat × Nat × Nat × Nat)) : Prop := Cond.codeWith M.1 M.2.1 M.2.2.1 M.2.2.2 hh ∈ z_TB ∧ Cond.initialized M.1.cls ∈ z_TB ∧ plainName M.1.cls = true ∧ M.1.cls ≠ "java/lang/invoke/MethodHandle" ∧ M.1.cls ≠ "java/lang/invoke/VarHandle"
def z_wmX (M : z_M) (hh : List (Nat × Nat × Nat × Nat)) : List Cond := Cond.codeWith M.1 M.2.1 M.2.2.1 M.2.2.2 hh :: z_TB
theorem z_wmXG {M : z_M} {hh : List (Nat × Nat × Nat × Nat)} (h : z_mwX M hh) : GoodIn z_TB (z_wmX M hh) := fun w hw => by
  rcases List.mem_cons.mp hw with e | hw
  · subst e; exact z_TBg _ h.1
  · exact z_TBg _ hw
set_option maxHeartbeats 1000000 in
/-- it returns -/
theorem z_metN {G : z_G} {d : Nat} {M : z_M} {hh : List (Nat × Nat × Nat × Nat)} {avs : List Value} {S : z_Shp} {v : z_Dat} {x : Int32} {k' : z_C} (hcl : z_cl S) (hy : plainName M.1.cls = true) (hav : avs.all z_isv = true) (hlen : (z_fl avs).length ≤ M.2.2.1)
    (hR : z_R G d M (0, z_ent M.2.2.1 avs, [], S, v) k') (hre : z_re M k' (some (.int x))) (l : Launch) (hlt : l.stackTraces = false) (D : va_G) (ty : Nat → ClassId) (ad : Nat → Nat) (sz : Nat) :
    Met l M.1 (z_wmX M hh) (z_rm d (z_c k'.2.2.2.1 - z_c S) (z_s k'.2.2.2.1 - z_s S)) (z_Pc G D ty ad S v avs sz) (z_Qc D ty ad (va_A (z_ws ty ad S v) sz) (z_n S) k'.2.2.2.1 k'.2.2.2.2 (some (.int x))) (z_c k'.2.2.2.1 - z_c S) (z_s k'.2.2.2.1 - z_s S) (va_A (z_ws ty ad S v) sz) := by
  refine va_MetW (cc := M.2.1) (maxL := M.2.2.1) (ret := M.2.2.2) (hh := hh) hy rfl ?_
  intro p e s m args below meth c s₁ B hml hv
  obtain ⟨rfl, hsz, hP, hK, hD0, hX⟩ := hv
  subst hsz
  have hD := hD0.self (sz := s.heap.size)
  obtain ⟨hc', h1, h2, h3, h4⟩ := hR hcl
  have hlocks : meth.locks = false := B.notSynchronized
  have hts : ∀ w ∈ z_TB, w.before (avs.map (z_mv ad)).toArray s = true := fun w hw => atoms_spec (ws := z_wmX M hh) B.pre w (List.mem_cons_of_mem _ hw)
  have ok : z_ok G d M p (headSpec (z_wmX M hh) (z_rm d (z_c k'.2.2.2.1 - z_c S) (z_s k'.2.2.2.1 - z_s S))).room s m (avs.map (z_mv ad)).toArray meth c D ty (va_A (z_ws ty ad S v) s.heap.size) ad :=
    ⟨B.exec, B.bytes, hml, B.returns, findClass_of_methodNamed B.named, hts, hlocks, (name_of_methodNamed B.named B.method).1, hK, fun q h => Or.inr h, ⟨Nat.le_refl _, Nat.le_refl _⟩, hX⟩
  have hl := lv_entry (avs.map (z_mv ad)) (n := M.2.2.1) (by rw [z_fl_len ad avs hav]; exact hlen)
  rw [lg_entry_eq]
  generalize (lg_sl (avs.map (z_mv ad)) ++ List.replicate (M.2.2.1 - (lg_sl (avs.map (z_mv ad))).length) Slot.unset).toArray = arr0 at hl ⊢
  have K := h4 p l e _ s m _ below meth c D ty _ ad (z_c S) (z_s S) (MQ below (z_Qc D ty ad (va_A (z_ws ty ad S v) s.heap.size) (z_n S) k'.2.2.2.1 k'.2.2.2.2 (some (.int x))) (avs.map (z_mv ad)).toArray s (z_c k'.2.2.2.1 - z_c S) (z_s k'.2.2.2.1 - z_s S) (va_A (z_ws ty ad S v) s.heap.size)) ok hlt (Nat.le_refl _) (Nat.le_refl _) (Nat.le_refl _) (Nat.le_refl _) ?_
  · have K2 := K s.heap [] arr0 hP hD va_S.rf (z_entry hav hlen hl)
    rw [Nat.sub_self, Nat.sub_self] at K2
    exact K2
  · intro ad' hg H locs arr hP1 hD1 hS1 hl1
    obtain ⟨pc, ls, st, S', v'⟩ := k'
    have hq : ∀ t : State, t.heap = H → s.WarmedH t.vm → z_B D ty (va_A (z_ws ty ad S v) s.heap.size) S' v' ad' t := fun t ht hW => ⟨by rw [ht]; exact hP1, va_K.moved hW.alike hK, hD1⟩
    obtain ⟨r1, r2, t, r3, r4⟩ := hre
    have r2 : st = [.int x] := r2
    subst r2
    exact W.zret B.exec B.bytes (B.returns.trans r3) r4 (fun t ht hW => ⟨⟨x, ad', rfl, ⟨rfl, hg⟩, hq t ht hW⟩, hS1.F ht⟩) hS1.2.2 r1
set_option maxHeartbeats 2000000 in
/-- its callee throws, it catches and answers 1 -/
theorem z_metC {G : z_G} {d : Nat} {M M' : z_M} {hh : List (Nat × Nat × Nat × Nat)} {avs as1 : List Value} {S : z_Shp} {v : z_Dat} {k' : z_C} {pc1 b1 ci idx hpc hi : Nat} {ls1 st1 : List Value} {xe : ExceptionTableEntry}
    (hd : 6 ≤ d) (hcl : z_cl S) (hy : plainName M.1.cls = true) (hML : M.1.cls = RL) (hav : avs.all z_isv = true) (hlen : (z_fl avs).length ≤ M.2.2.1) (hh1 : tableOf hh = [xe]) (hx1 : covers xe pc1 = true) (hx2 : xe.catchType ≠ 0) (hx3 : xe.handlerPc = hpc) (hxl : Cond.classLink RL xe.catchType ex_N ∈ z_TB)
    (hR0 : z_R G (d + 1) M (0, z_ent M.2.2.1 avs, [], S, v) (pc1, ls1, as1.reverse ++ .ref b1 :: st1, S, v))
    (hd1 : decode M.2.1 pc1 = .ok (.invokevirtual idx, 3)) (hm : z_mw M') (hw : Cond.methodLink M.1.cls idx M'.1 ∈ z_TB) (hin : Cond.instanceMethod M'.1 ∈ z_TB) (hs : Cond.selects M'.1.cls M'.1 M'.1 ∈ z_TB) (hc : ci < 12) (hk : z_k S b1 = ci + 1) (hcn : M'.1.cls = z_cn ci) (hn : (parseMethodDescriptor M'.1.desc).map (fun q => q.parameters.length) = some as1.length) (hL : M'.2.2.1 ≤ 44) (hav1 : (.ref b1 :: as1).all z_isv = true) (hlen1 : (z_fl (.ref b1 :: as1)).length ≤ M'.2.2.1) (hst : (st1.map fun w => w.category).sum ≤ 8)
    (hRc : z_R G d M' (0, z_ent M'.2.2.1 (.ref b1 :: as1), [], S, v) k') (hth : z_th M' k')
    (e0 : decode M.2.1 hpc = .ok (.astore hi, 2)) (hhi : hi < M.2.2.1) (e2 : decode M.2.1 (hpc + 2) = .ok (.iconst 1, 1)) (e3 : decode M.2.1 (hpc + 3) = .ok (.ireturn, 1)) (hret : M.2.2.2 = some .int)
    (l : Launch) (hlt : l.stackTraces = false) (D : va_G) (ty : Nat → ClassId) (ad : Nat → Nat) (sz : Nat) :
    Met l M.1 (z_wmX M hh) (z_rm (d + 1) (z_c k'.2.2.2.1 + 1 - z_c S) (z_s k'.2.2.2.1 + 6 - z_s S)) (z_Pc G D ty ad S v avs sz) (z_Qc D ty ad (va_A (z_ws ty ad S v) sz) (z_n S) (z_ct k'.2.2.2.1 1 6) k'.2.2.2.2 (some (.int 1))) (z_c k'.2.2.2.1 + 1 - z_c S) (z_s k'.2.2.2.1 + 6 - z_s S) (va_A (z_ws ty ad S v) sz) := by
  refine va_MetW (cc := M.2.1) (maxL := M.2.2.1) (ret := M.2.2.2) (hh := hh) hy rfl ?_
  intro p e s m args below meth c s₁ B hml hv
  obtain ⟨rfl, hsz, hP, hK, hD0, hX⟩ := hv
  subst hsz
  have hD := hD0.self (sz := s.heap.size)
  obtain ⟨hc', h1, h2, h3, h4⟩ := hR0 hcl
  obtain ⟨ec', g1, g2, g3, -⟩ := hRc hcl
  have g2 : z_c S ≤ z_c k'.2.2.2.1 := g2
  have g3 : z_s S ≤ z_s k'.2.2.2.1 := g3
  have hlocks : meth.locks = false := B.notSynchronized
  have hts : ∀ w ∈ z_TB, w.before (avs.map (z_mv ad)).toArray s = true := fun w hw => atoms_spec (ws := z_wmX M hh) B.pre w (List.mem_cons_of_mem _ hw)
  have hown := findClass_of_methodNamed B.named
  have ok : z_ok G (d + 1) M p (headSpec (z_wmX M hh) (z_rm (d + 1) (z_c k'.2.2.2.1 + 1 - z_c S) (z_s k'.2.2.2.1 + 6 - z_s S))).room s m (avs.map (z_mv ad)).toArray meth c D ty (va_A (z_ws ty ad S v) s.heap.size) ad :=
    ⟨B.exec, B.bytes, hml, B.returns, hown, hts, hlocks, (name_of_methodNamed B.named B.method).1, hK, fun q h => Or.inr h, ⟨Nat.le_refl _, Nat.le_refl _⟩, hX⟩
  have htab : c.exceptionTable.toList = [xe] := by rw [vx_table (x := M.1) B (atoms_spec (ws := z_wmX M hh) B.pre _ List.mem_cons_self)]; exact hh1
  have hl := lv_entry (avs.map (z_mv ad)) (n := M.2.2.1) (by rw [z_fl_len ad avs hav]; exact hlen)
  rw [lg_entry_eq]
  generalize (lg_sl (avs.map (z_mv ad)) ++ List.replicate (M.2.2.1 - (lg_sl (avs.map (z_mv ad))).length) Slot.unset).toArray = arr0 at hl ⊢
  have K := h4 p l e _ s m _ below meth c D ty _ ad (z_c S) (z_s S) (MQ below (z_Qc D ty ad (va_A (z_ws ty ad S v) s.heap.size) (z_n S) (z_ct k'.2.2.2.1 1 6) k'.2.2.2.2 (some (.int 1))) (avs.map (z_mv ad)).toArray s (z_c k'.2.2.2.1 + 1 - z_c S) (z_s k'.2.2.2.1 + 6 - z_s S) (va_A (z_ws ty ad S v) s.heap.size)) ok hlt (Nat.le_refl _) (Nat.le_refl _) (by show z_c S - z_c S ≤ _; omega) (by show z_s S - z_s S ≤ _; omega) ?_
  · have K2 := K s.heap [] arr0 hP hD va_S.rf (z_entry hav hlen hl)
    rw [Nat.sub_self, Nat.sub_self] at K2
    exact K2
  · intro ad' hg H locs arr hP1 hD1 hS1 hl1
    have hg : z_ag (z_n S) ad ad' := hg
    have hX' := hX.ag hg
    have hMT := z_metT (d := d) hd hcl hm.2.2.1 hav1 hlen1 hRc hth l hlt D ty ad' H.size
    have hFc : ∀ q, va_A (z_ws ty ad' S v) H.size q → va_A (z_ws ty ad S v) s.heap.size q := fun q hq => by
      rcases hq with ⟨k, e1, hk⟩ | h
      · exact hD1.2 k _ hk
      · exact Or.inr (Nat.le_trans hS1.1 h)
    have hpar : ∀ sig, parseMethodDescriptor M'.1.desc = some sig → as1.length = sig.parameters.length := fun sig h => by
      rw [h] at hn
      exact (Option.some.inj hn).symm
    have hpre : ∀ U : State, U.heap = H → s.WarmedH U.vm → z_Pc G D ty ad' S v (.ref b1 :: as1) H.size ((.ref b1 :: as1).map (z_mv ad')).toArray U := fun U hU hW => ⟨rfl, by rw [hU], by rw [hU]; exact hP1, va_K.moved hW.alike hK, hD1.weaken (fun _ _ _ _ => trivial), hX'.to hS1 hU hW hFc⟩
    have hrun := vx_runV (locs := locs) (C := M'.1.cls) (As := as1.map (z_mv ad')) (rest := st1.map (z_mv ad')) (b := ad' b1) (g := F0 m pc1 arr ((as1.reverse ++ .ref b1 :: st1).map (z_mv ad'))) (cells := z_c S - z_c S) (slots := z_s S - z_s S) (e := e) (below := below) (meth := meth) (R := (headSpec (z_wmX M hh) (z_rm (d + 1) (z_c k'.2.2.2.1 + 1 - z_c S) (z_s k'.2.2.2.1 + 6 - z_s S))).room) ⟨B.exec, B.bytes, hml, hown, hts⟩ hMT ⟨⟨rfl, rfl, (by show d + 1 ≤ d + 1; omega), (by show 8 + (M'.2.2.1 + 11) + 64 * d ≤ 64 * (d + 1); omega), pay_in hts (z_wmG hm), List.mem_cons_self, hts _ hm.1, hts _ hm.2.1, ⟨hm.2.2.2.1, hm.2.2.2.2⟩, hpar, hts _ hw⟩, hts _ hin, hts _ hs⟩ ⟨z_blind _ _ _ _ _ _ _ _, by rw [hcn]; exact (va_recv hK hP1 (z_CLg hc) (z_wl_get (z_lt hcl hk) |>.trans (by rw [z_E_o hk hc]))), hpre⟩ rfl (by simp) hl1.1 (z_rv ad' as1 b1 st1) (lv_room (by rw [z_catm]; exact hst)) hd1 ⟨by show z_c S - z_c S + (z_c k'.2.2.2.1 + 1 - z_c S) ≤ z_c k'.2.2.2.1 + 1 - z_c S; omega, by show z_s S - z_s S + (z_s k'.2.2.2.1 + 6 - z_s S) ≤ z_s k'.2.2.2.1 + 6 - z_s S; omega⟩
    refine vx_calli (a := ((.ref b1 :: as1).map (z_mv ad')).toArray) hrun hS1 (fun q _ h => hFc q h) hFc (fun q _ h => hFc q h) (fun E ce q9 u t H1 locs1 ht hvm hpx hBX hz1 hk1 hS2 hce hcv hcl9 => ?_) (fun r u t H1 locs1 ht hvm hpost => hpost.elim)
    obtain ⟨hE, hBP, hBK, hBD⟩ := hBX
    subst hE
    have hX2 := va_Nw.use (A := (avs.map (z_mv ad)).toArray) (U := s) rfl hX.2.2.2.2.2.2.2.2.2.2.2.2.1
    refine vx_catch (own := RL) (name := ex_N) (by rw [← hML]; exact hown) [] xe [] htab (fun z hz => nomatch hz) hx1 hx2 (hts _ hxl) hX2 hce hcv hcl9 ?_
    rw [hx3]
    have hpx : z_ag (z_n S) ad' u := hpx
    have gag : z_ag (z_n S) ad u := fun q hq => (hpx q hq).trans (hg q hq)
    have eC : z_c S - z_c S + (z_c k'.2.2.2.1 + 1 - z_c S) = z_c k'.2.2.2.1 + 1 - z_c S := by omega
    have eS : z_s S - z_s S + (z_s k'.2.2.2.1 + 6 - z_s S) = z_s k'.2.2.2.1 + 6 - z_s S := by omega
    show W p l e _ s m _ below meth c H1 locs1 (z_c S - z_c S + (z_c k'.2.2.2.1 + 1 - z_c S)) (z_s S - z_s S + (z_s k'.2.2.2.1 + 6 - z_s S)) _ _
    rw [eC, eS]
    exact lv_astore B.exec B.bytes e0 hl1 hhi rfl (fun arr2 hl2 => lv_iconst B.exec B.bytes e2 rfl (W.zret B.exec B.bytes (B.returns.trans hret) rfl (fun t2 ht2 hW2 => ⟨⟨1, u, rfl, ⟨rfl, gag⟩, ⟨by rw [ht2, ← ht]; exact hBP, va_K.moved hW2.alike hK, hBD.weaken (fun _ q _ hq => hFc _ hq)⟩⟩, hS2.F ht2⟩) hS2.2.2 e3))
section ZX
variable {G : z_G} {d : Nat} {M M' : z_M} {hh : List (Nat × Nat × Nat × Nat)} {pc idx : Nat} {ls st avs : List Value} {S : z_Shp} {v : z_Dat} {Q : Option Value → z_Shp → z_Dat → Prop}
set_option maxHeartbeats 1000000 in
theorem zj_callSX (hd : decode M.2.1 pc = .ok (.invokestatic idx, 3)) (hm : z_mwX M' hh) (hw : Cond.methodLink M.1.cls idx M'.1 ∈ z_TB) (hi : Cond.static M'.1 ∈ z_TB) (hn : (parseMethodDescriptor M'.1.desc).map (fun q => q.parameters.length) = some avs.length) (hL : M'.2.2.1 ≤ 44) (hav : (avs).all z_isv = true) (hlen : (z_fl (avs)).length ≤ M'.2.2.1) (hst : (st.map fun w => w.category).sum ≤ 8) (ho1 : z_okr S ls) (ho2 : z_okr S st)
    (hj : z_J G d M' (0, z_ent M'.2.2.1 (avs), [], S, v) (fun r S1 v1 => ∃ x : Int32, r = some (.int x) ∧ z_J G (d + 1) M (pc + 3, ls, .int x :: st, S1, v1) Q)) : z_J G (d + 1) M (pc, ls, avs.reverse ++ st, S, v) Q := by
  obtain ⟨r, k', ⟨x, rfl, hq⟩, hR, hre⟩ := hj
  refine z_J.go ?_ hq
  intro hcl
  obtain ⟨a1, a2, a3, a4, -⟩ := hR hcl
  refine ⟨a1, a2, a3, a4, ?_⟩
  intro p l e R s m args below meth c D ty A ad c0 s0 Q ok hlt h1 h2 h3 h4 K H locs arr hP hD hS hl
  have okc := ok
  obtain ⟨hx, hb, hml, hr, hown, hts, hlocks, hnm, hK, hA, hRm, hX⟩ := ok
  have h1 : c0 ≤ z_c S := h1
  have h2 : s0 ≤ z_s S := h2
  have hM := z_metN (hh := hh) hcl hm.2.2.1 hav hlen hR hre l hlt D ty ad H.size
  refine z_back (r := some (.int x)) (a := ((avs).map (z_mv ad)).toArray) okc hcl (fun q hq => (List.mem_append.mp hq).elim (z_okr_in hcl ls ho1 q) (z_okr_in hcl st ho2 q)) h1 h2 a3 a4 hP hD hS hl (z_rv0 hre) ?_ K
  have hpar : ∀ sig, parseMethodDescriptor M'.1.desc = some sig → avs.length = sig.parameters.length := fun sig h => by
    rw [h] at hn
    exact (Option.some.inj hn).symm
  have hfr : d + 1 ≤ R.frames ∧ 8 + (M'.2.2.1 + 11) + 64 * d ≤ R.locals := ⟨hRm.1, by have := hRm.2; omega⟩
  have hFc : ∀ q, va_A (z_ws ty ad S v) H.size q → A q := fun q hq => by
    rcases hq with ⟨k, e1, hk⟩ | h
    · exact hD.2 k _ hk
    · exact hA q (Nat.le_trans hS.1 h)
  have hpre : ∀ U : State, U.heap = H → s.WarmedH U.vm → z_Pc G D ty ad S v (avs) H.size ((avs).map (z_mv ad)).toArray U := fun U hU hW => ⟨rfl, by rw [hU], by rw [hU]; exact hP, va_K.moved hW.alike hK, hD.weaken (fun _ _ _ _ => trivial), hX.to hS hU hW hFc⟩
  have hcb : z_c S - c0 + (z_c k'.2.2.2.1 - z_c S) ≤ R.cells ∧ z_s S - s0 + (z_s k'.2.2.2.1 - z_s S) ≤ R.slots := by
    have a3 : z_c S ≤ z_c k'.2.2.2.1 := a3
    have a4 : z_s S ≤ z_s k'.2.2.2.1 := a4
    have h3 : z_c k'.2.2.2.1 - c0 ≤ R.cells := h3
    have h4 : z_s k'.2.2.2.1 - s0 ≤ R.slots := h4
    constructor <;> omega
  exact vx_runSW (As := avs.map (z_mv ad)) (rest := st.map (z_mv ad)) ⟨hx, hb, hml, hown, hts⟩ hM ⟨⟨rfl, rfl, hfr.1, hfr.2, pay_in hts (z_wmXG hm), List.mem_cons_self⟩, hts _ hm.1, hts _ hm.2.1, ⟨hm.2.2.2.1, hm.2.2.2.2⟩, hpar, hts _ hw, hts _ hi⟩ ⟨z_blind _ _ _ _ _ _ _ _, hpre⟩ rfl (by simp) hl.1 (by simp) (lv_room (by rw [z_catm]; exact hst)) hd hcb
set_option maxHeartbeats 1000000 in
theorem zj_callSC {M'' : z_M} {as1 ls1 st1 : List Value} {pc1 b1 ci idx1 hpc hi9 : Nat} {xe : ExceptionTableEntry} (hd6 : 6 ≤ d) (hd : decode M.2.1 pc = .ok (.invokestatic idx, 3)) (hm : z_mwX M' hh) (hML : M'.1.cls = RL) (hw : Cond.methodLink M.1.cls idx M'.1 ∈ z_TB) (hi : Cond.static M'.1 ∈ z_TB) (hn : (parseMethodDescriptor M'.1.desc).map (fun q => q.parameters.length) = some avs.length) (hL : M'.2.2.1 ≤ 44) (hav : (avs).all z_isv = true) (hlen : (z_fl (avs)).length ≤ M'.2.2.1) (hst : (st.map fun w => w.category).sum ≤ 8) (ho1 : z_okr S ls) (ho2 : z_okr S st)
    (hh1 : tableOf hh = [xe]) (hx1 : covers xe pc1 = true) (hx2 : xe.catchType ≠ 0) (hx3 : xe.handlerPc = hpc) (hxl : Cond.classLink RL xe.catchType ex_N ∈ z_TB)
    (hpre : z_JP G (d + 1) M' (0, z_ent M'.2.2.1 avs, [], S, v) (fun k => k = (pc1, ls1, as1.reverse ++ .ref b1 :: st1, S, v)))
    (hd1 : decode M'.2.1 pc1 = .ok (.invokevirtual idx1, 3)) (hm1 : z_mw M'') (hw1 : Cond.methodLink M'.1.cls idx1 M''.1 ∈ z_TB) (hin : Cond.instanceMethod M''.1 ∈ z_TB) (hs : Cond.selects M''.1.cls M''.1 M''.1 ∈ z_TB) (hc : ci < 12) (hk : z_k S b1 = ci + 1) (hcn : M''.1.cls = z_cn ci) (hn1 : (parseMethodDescriptor M''.1.desc).map (fun q => q.parameters.length) = some as1.length) (hL1 : M''.2.2.1 ≤ 44) (hav1 : (.ref b1 :: as1).all z_isv = true) (hlen1 : (z_fl (.ref b1 :: as1)).length ≤ M''.2.2.1) (hst1 : (st1.map fun w => w.category).sum ≤ 8)
    (e0 : decode M'.2.1 hpc = .ok (.astore hi9, 2)) (hhi : hi9 < M'.2.2.1) (e2 : decode M'.2.1 (hpc + 2) = .ok (.iconst 1, 1)) (e3 : decode M'.2.1 (hpc + 3) = .ok (.ireturn, 1)) (hret : M'.2.2.2 = some .int)
    (hcal : z_JP G d M'' (0, z_ent M''.2.2.1 (.ref b1 :: as1), [], S, v) (z_TH M'' (fun S1 v1 => z_J G (d + 2) M (pc + 3, ls, .int 1 :: st, z_ct S1 1 6, v1) Q))) : z_J G (d + 2) M (pc, ls, avs.reverse ++ st, S, v) Q := by
  obtain ⟨k0, rfl, hR0⟩ := hpre
  obtain ⟨k', ⟨hth, hq⟩, hRc⟩ := hcal
  refine z_J.go ?_ hq
  intro hcl
  obtain ⟨a1, a2, a3, a4, -⟩ := hRc hcl
  have a3 : z_c S ≤ z_c k'.2.2.2.1 := a3
  have a4 : z_s S ≤ z_s k'.2.2.2.1 := a4
  refine ⟨a1, a2, Nat.le_succ_of_le a3, Nat.le_trans a4 (Nat.le_add_right _ _), ?_⟩
  intro p l e R s m args below meth c D ty A ad c0 s0 Q ok hlt h1 h2 h3 h4 K H locs arr hP hD hS hl
  have okc := ok
  obtain ⟨hx, hb, hml, hr, hown, hts, hlocks, hnm, hK, hA, hRm, hX⟩ := ok
  have h1 : c0 ≤ z_c S := h1
  have h2 : s0 ≤ z_s S := h2
  have hM := z_metC (hh := hh) hd6 hcl hm.2.2.1 hML hav hlen hh1 hx1 hx2 hx3 hxl hR0 hd1 hm1 hw1 hin hs hc hk hcn hn1 hL1 hav1 hlen1 hst1 hRc hth e0 hhi e2 e3 hret l hlt D ty ad H.size
  refine z_back (S' := z_ct k'.2.2.2.1 1 6) (v' := k'.2.2.2.2) (r := some (.int 1)) (a := ((avs).map (z_mv ad)).toArray) okc hcl (fun q hq => (List.mem_append.mp hq).elim (z_okr_in hcl ls ho1 q) (z_okr_in hcl st ho2 q)) h1 h2 (Nat.le_succ_of_le a3) (Nat.le_trans a4 (Nat.le_add_right _ _)) hP hD hS hl (fun w e => by cases e; rfl) ?_ K
  have hpar : ∀ sig, parseMethodDescriptor M'.1.desc = some sig → avs.length = sig.parameters.length := fun sig h => by
    rw [h] at hn
    exact (Option.some.inj hn).symm
  have hfr : d + 1 + 1 ≤ R.frames ∧ 8 + (M'.2.2.1 + 11) + 64 * (d + 1) ≤ R.locals := ⟨hRm.1, by have := hRm.2; omega⟩
  have hFc : ∀ q, va_A (z_ws ty ad S v) H.size q → A q := fun q hq => by
    rcases hq with ⟨k, e1, hk⟩ | h
    · exact hD.2 k _ hk
    · exact hA q (Nat.le_trans hS.1 h)
  have hpre : ∀ U : State, U.heap = H → s.WarmedH U.vm → z_Pc G D ty ad S v (avs) H.size ((avs).map (z_mv ad)).toArray U := fun U hU hW => ⟨rfl, by rw [hU], by rw [hU]; exact hP, va_K.moved hW.alike hK, hD.weaken (fun _ _ _ _ => trivial), hX.to hS hU hW hFc⟩
  have hcb : z_c S - c0 + (z_c k'.2.2.2.1 + 1 - z_c S) ≤ R.cells ∧ z_s S - s0 + (z_s k'.2.2.2.1 + 6 - z_s S) ≤ R.slots := by
    have h3 : z_c k'.2.2.2.1 + 1 - c0 ≤ R.cells := h3
    have h4 : z_s k'.2.2.2.1 + 6 - s0 ≤ R.slots := h4
    constructor <;> omega
  exact vx_runSW (As := avs.map (z_mv ad)) (rest := st.map (z_mv ad)) ⟨hx, hb, hml, hown, hts⟩ hM ⟨⟨rfl, rfl, hfr.1, hfr.2, pay_in hts (z_wmXG hm), List.mem_cons_self⟩, hts _ hm.1, hts _ hm.2.1, ⟨hm.2.2.2.1, hm.2.2.2.2⟩, hpar, hts _ hw, hts _ hi⟩ ⟨z_blind _ _ _ _ _ _ _ _, hpre⟩ rfl (by simp) hl.1 (by simp) (lv_room (by rw [z_catm]; exact hst)) hd hcb
end ZX
