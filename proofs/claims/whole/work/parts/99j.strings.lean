/-! STRING CONSTANTS: checkIndex over the machine; length, charAt as rules of the abstract memory -/
theorem ck_J3 {l : Launch} {i n : Int32} {w : Value} (hw : w = .null ∨ ∃ t, w = .ref t) (h0 : ¬ i < 0) (hn : i < n) : Met l yJ3_checkIndex_8e157 (z_wm mJ3_checkIndex_8e157) (z_rm 0 0 0) (va_Pc [.int i, .int n, w] (fun _ => True)) (va_Qi (fun y (_ : Unit) => y = i) (fun _ _ => True) (fun _ => False)) 0 0 (fun _ => False) := by
  refine Met.ofW (cc := cJ3_checkIndex_8e157) (maxL := 3) (ret := some .int) (by decide) rfl ?_
  intro p e s m args below meth c s₁ B hml hv
  obtain ⟨rfl, -⟩ := hv
  have hl := lv_entry [.int i, .int n, w] (n := 3) (by rcases hw with rfl | ⟨t, rfl⟩ <;> exact Nat.le_of_ble_eq_true rfl)
  rw [lg_entry_eq]
  generalize (lg_sl [.int i, .int n, w] ++ List.replicate (3 - (lg_sl [.int i, .int n, w]).length) Slot.unset).toArray = arr0 at hl ⊢
  have hS : va_S (fun _ => False) s.heap s.heap [] := va_S.rf
  have l0 : arr0[0]? = some (.val (.int i)) := hl.2.2 (0, .int i) (by rcases hw with rfl | ⟨t, rfl⟩ <;> simp [lv_args, Value.category])
  have l1 : arr0[1]? = some (.val (.int n)) := hl.2.2 (1, .int n) (by rcases hw with rfl | ⟨t, rfl⟩ <;> simp [lv_args, Value.category])
  refine lv_iload_n B.exec B.bytes dJ3_checkIndex_8e157_0 rfl l0 ?_
  refine lv_if_lt B.exec B.bytes (tgt := 9) dJ3_checkIndex_8e157_1 (by decide) (fun z => absurd z h0) (fun _ => ?_)
  refine lv_iload_n B.exec B.bytes dJ3_checkIndex_8e157_4 rfl l0 ?_
  refine lv_iload_n B.exec B.bytes dJ3_checkIndex_8e157_5 rfl l1 ?_
  refine lv_icmp_lt B.exec B.bytes (tgt := 16) dJ3_checkIndex_8e157_6 (by decide) (fun _ => ?_) (fun z => absurd hn z)
  refine lv_iload_n B.exec B.bytes dJ3_checkIndex_8e157_16 rfl l0 ?_
  exact W.zret B.exec B.bytes B.returns rfl (fun t ht hW => ⟨⟨i, (), rfl, rfl, trivial⟩, hS.F ht⟩) hS.2.2 dJ3_checkIndex_8e157_17
abbrev ck_Z (U : State) : Prop := va_Zq "jdk/internal/util/Preconditions" "SIOOBE_FORMATTER" "Ljava/util/function/BiFunction;" (fun _ => False) U U.heap
theorem ck_blind (av : List Value) : FrameBlind (va_Pc av ck_Z) := fun a U g mk q => ⟨q.1, va_Zq.moved (u := U) (U := U.calling g mk a) (Vm.Alike.refl U.vm) q.2⟩
theorem ck_blind0 (av : List Value) : FrameBlind (va_Pc av (fun _ => True)) := fun a U g mk q => q
set_option maxHeartbeats 1000000 in
theorem ck_J0 {l : Launch} {i n : Int32} (h0 : ¬ i < 0) (hn : i < n) : Met l yJ0_checkIndex_df160 (z_wm mJ0_checkIndex_df160) (z_rm 1 0 0) (va_Pc [.int i, .int n] ck_Z) (va_Qv (fun (_ : Unit) => True) (fun _ _ => True) (fun _ => False)) 0 0 (fun _ => False) := by
  refine Met.ofW (cc := cJ0_checkIndex_df160) (maxL := 2) (ret := none) (by decide) rfl ?_
  intro p e s m args below meth c s₁ B hml hv
  obtain ⟨rfl, hZ⟩ := hv
  have hown := findClass_of_methodNamed B.named
  have hts : ∀ w ∈ z_TB, w.before [.int i, .int n].toArray s = true := fun w hw => atoms_spec (ws := z_wm mJ0_checkIndex_df160) B.pre w (List.mem_cons_of_mem _ hw)
  have hl := lv_entry [.int i, .int n] (n := 2) (Nat.le_of_ble_eq_true rfl)
  rw [lg_entry_eq]
  generalize (lg_sl [.int i, .int n] ++ List.replicate (2 - (lg_sl [.int i, .int n]).length) Slot.unset).toArray = arr0 at hl ⊢
  have hS : va_S (fun _ => False) s.heap s.heap [] := va_S.rf
  have l0 : arr0[0]? = some (.val (.int i)) := hl.2.2 (0, .int i) (by simp [lv_args, Value.category])
  have l1 : arr0[1]? = some (.val (.int n)) := hl.2.2 (1, .int n) (by simp [lv_args, Value.category])
  refine lv_iload_n B.exec B.bytes dJ0_checkIndex_df160_0 rfl l0 ?_
  refine lv_iload_n B.exec B.bytes dJ0_checkIndex_df160_1 rfl l1 ?_
  have go : ∀ w : Value, (w = .null ∨ ∃ t, w = .ref t) → va_Z "jdk/internal/util/Preconditions" "SIOOBE_FORMATTER" "Ljava/util/function/BiFunction;" w (fun _ => False) s s.heap → W p l e (headSpec (z_wm mJ0_checkIndex_df160) (z_rm 1 0 0)).room s m [.int i, .int n].toArray below meth c s.heap [] 0 0 (MQ below (va_Qv (fun (_ : Unit) => True) (fun _ _ => True) (fun _ => False)) [.int i, .int n].toArray s 0 0 (fun _ => False)) (F0 m 2 arr0 [.int n, .int i]) := by
    intro w hw hZ1
    refine va_gets B.exec B.bytes hZ1 hS hown (hts _ wf_J0_1053) (fun _ h => h) dJ0_checkIndex_df160_2 ?_
    have hfr : 1 ≤ (headSpec (z_wm mJ0_checkIndex_df160) (z_rm 1 0 0)).room.frames ∧ 8 + (3 + 11) + 0 ≤ (headSpec (z_wm mJ0_checkIndex_df160) (z_rm 1 0 0)).room.locals := ⟨Nat.le_of_ble_eq_true rfl, Nat.le_of_ble_eq_true rfl⟩
    refine va_calli (post := fun y (_ : Unit) => y = i) (B := fun _ _ => True) (A1 := fun _ => False) (a := [.int i, .int n, w].toArray) (rest := []) (mc := 0) (ms := 0) (free := fun _ => False) (va_runS (As := [.int i, .int n, w]) (rest := []) ⟨B.exec, B.bytes, hml, hown, hts⟩ (ck_J3 hw h0 hn) ⟨⟨rfl, rfl, hfr.1, hfr.2, pay_in hts (z_wmG wm_J3_checkIndex_8e157), List.mem_cons_self, hts _ wm_J3_checkIndex_8e157.1, hts _ wm_J3_checkIndex_8e157.2.1, ⟨wm_J3_checkIndex_8e157.2.2.2.1, wm_J3_checkIndex_8e157.2.2.2.2⟩, fun sig h => ?_, hts _ wl_J0_1059⟩, hts _ wt_J3_checkIndex_8e157⟩ ⟨ck_blind0 _, fun U hU hW => ⟨rfl, trivial⟩⟩ rfl rfl hl.1 rfl (Nat.le_of_ble_eq_true rfl) dJ0_checkIndex_df160_5 ⟨Nat.le_of_ble_eq_true rfl, Nat.le_of_ble_eq_true rfl⟩) hS (fun q _ h => h) (fun q h => h) (fun y u t H1 locs1 ht hvm hy hB hz1 hk1 hS1 => ?_)
    · have : (parseMethodDescriptor yJ3_checkIndex_8e157.desc).map (fun q => q.parameters.length) = some 3 := by decide +kernel
      rw [h] at this
      exact (Option.some.inj this).symm
    · refine lv_pop B.exec B.bytes dJ0_checkIndex_df160_8 rfl ?_
      exact W.vret B.exec B.bytes B.returns (fun t ht hW => ⟨⟨(), rfl, trivial, trivial⟩, hS1.F ht⟩) hS1.2.2 dJ0_checkIndex_df160_9
  rcases hZ with h | ⟨t, h⟩
  · exact go .null (Or.inl rfl) h
  · exact go (.ref t) (Or.inr ⟨t, rfl⟩) h
section ZS
variable {G : z_G} {d : Nat} {M : z_M} {pc idx : Nat} {ls st : List Value} {S : z_Shp} {v : z_Dat} {Q : Option Value → z_Shp → z_Dat → Prop}
set_option maxHeartbeats 1000000 in
theorem zj_chk {i n : Int32} (hd : decode M.2.1 pc = .ok (.invokestatic idx, 3)) (hw : Cond.methodLink M.1.cls idx yJ0_checkIndex_df160 ∈ z_TB) (hst : (st.map fun w => w.category).sum ≤ 8) (h0 : ¬ i < 0) (hn : i < n) (hj : z_J G (d + 2) M (pc + 3, ls, st, S, v) Q) : z_J G (d + 2) M (pc, ls, .int n :: .int i :: st, S, v) Q := by
  obtain ⟨r, k', hq, hR, hre⟩ := hj
  refine ⟨r, k', hq, z_R.tr ?_ hR, hre⟩
  intro hcl
  refine ⟨hcl, Nat.le_refl _, Nat.le_refl _, Nat.le_refl _, ?_⟩
  intro p l e R s m args below meth c D ty A ad c0 s0 Q ok hlt h1 h2 h3 h4 K0 H locs arr hP hD hS hl
  have K := K0 ad z_ag.rf
  obtain ⟨hx, hb, hml, hr, hown, hts, hlocks, hnm, hK, hA, hRm, hX⟩ := ok
  have hm := wm_J0_checkIndex_df160
  have hfr : 2 ≤ R.frames ∧ 8 + (2 + 11) + 64 * 1 ≤ R.locals := ⟨by omega, by have := hRm.2; omega⟩
  have hpar : ∀ sig, parseMethodDescriptor yJ0_checkIndex_df160.desc = some sig → 2 = sig.parameters.length := fun sig h => by
    have : (parseMethodDescriptor yJ0_checkIndex_df160.desc).map (fun q => q.parameters.length) = some 2 := by decide +kernel
    rw [h] at this
    exact (Option.some.inj this).symm
  have hcb : z_c S - c0 + 0 ≤ R.cells ∧ z_s S - s0 + 0 ≤ R.slots := ⟨h3, h4⟩
  have hZ : va_Zq "jdk/internal/util/Preconditions" "SIOOBE_FORMATTER" "Ljava/util/function/BiFunction;" A s s.heap := hX.2.2.2.2.2.2.2.2.2.1
  refine va_callv (post := fun (_ : Unit) => True) (B := fun _ _ => True) (A1 := fun _ => False) (a := [.int i, .int n].toArray) (rest := st.map (z_mv ad)) (mc := 0) (ms := 0) (free := fun _ => False) (va_runS (As := [.int i, .int n]) (rest := st.map (z_mv ad)) ⟨hx, hb, hml, hown, hts⟩ (ck_J0 h0 hn) ⟨⟨rfl, rfl, hfr.1, hfr.2, pay_in hts (z_wmG hm), List.mem_cons_self, hts _ hm.1, hts _ hm.2.1, ⟨hm.2.2.2.1, hm.2.2.2.2⟩, hpar, hts _ hw⟩, hts _ wt_J0_checkIndex_df160⟩ ⟨ck_blind _, fun U hU hW => ⟨rfl, ?_⟩⟩ rfl rfl hl.1 rfl (lv_room (by rw [z_catm]; exact hst)) hd hcb) hS (fun q _ h => h.elim) (fun q h => h.elim) (fun u t H1 locs1 ht hvm hw hB hz1 hk1 hS1 => ?_)
  · show va_Zq _ _ _ (fun _ => False) U U.heap
    rw [hU]
    exact ((hZ.moved hW.alike).kept hS.2.1).narrow (fun q h => h.elim)
  · exact K H1 locs1 arr (hP.kept (fun k q hk => hk1 q.1 (hP k q hk).lt (fun z => z))) hD hS1 hl
theorem zj_ldcS {i : Nat} (hi : i < 14) (hd : decode M.2.1 pc = .ok (.ldc idx, 2)) (hx : z_sidx.getD i 0 = idx) (hM : M.1.cls = "WovenKeeper$Script") (hj : z_J G d M (pc + 2, ls, .ref (z_X + i) :: st, S, v) Q) : z_J G d M (pc, ls, st, S, v) Q := by
  refine z_J.go (z_one ?_) hj
  intro p l e R s m args below meth c D ty A ad c0 s0 Q hcl ok K H locs arr hP hD hS hl
  obtain ⟨hx2, hb, hml, hr, hown, hts, hlocks, hnm, hK, hA, hR, hX⟩ := ok
  have hZ := hX.2.2.2.2.1 i hi
  rw [hx] at hZ
  rw [hM] at hown
  exact va_ldcS hx2 hb hown hZ hd (K H locs arr hP hD hS hl)
theorem zj_sval {i : Nat} (hi : i < 14) (hd : decode M.2.1 pc = .ok (.getfield idx, 3)) (hw : Cond.fieldLink M.1.cls idx "java/lang/String" "value" "[B" ∈ z_TB) (hj : z_J G d M (pc + 3, ls, .ref (z_X + 100 + i) :: st, S, v) Q) : z_J G d M (pc, ls, .ref (z_X + i) :: st, S, v) Q := by
  refine z_J.go (z_one ?_) hj
  intro p l e R s m args below meth c D ty A ad c0 s0 Q hcl ok K H locs arr hP hD hS hl
  obtain ⟨hx, hb, hml, hr, hown, hts, hlocks, hnm, hK, hA, hR, hX⟩ := ok
  exact vk_getf hx hb (hX.2.2.1.1 i hi).2.2.1 hS hown (hts _ hw) (fun _ h => h) hd (K H locs arr hP hD hS hl)
theorem zj_scod {i : Nat} (hi : i < 14) (hd : decode M.2.1 pc = .ok (.getfield idx, 3)) (hw : Cond.fieldLink M.1.cls idx "java/lang/String" "coder" "B" ∈ z_TB) (hj : z_J G d M (pc + 3, ls, .int 0 :: st, S, v) Q) : z_J G d M (pc, ls, .ref (z_X + i) :: st, S, v) Q := by
  refine z_J.go (z_one ?_) hj
  intro p l e R s m args below meth c D ty A ad c0 s0 Q hcl ok K H locs arr hP hD hS hl
  obtain ⟨hx, hb, hml, hr, hown, hts, hlocks, hnm, hK, hA, hR, hX⟩ := ok
  exact vk_getf hx hb (hX.2.2.1.1 i hi).2.1 hS hown (hts _ hw) (fun _ h => h) hd (K H locs arr hP hD hS hl)
theorem zj_sblen {i : Nat} (hi : i < 14) (hd : decode M.2.1 pc = .ok (.arraylength, 1)) (hj : z_J G d M (pc + 1, ls, .int (Int32.ofNat (z_slen.getD i 0)) :: st, S, v) Q) : z_J G d M (pc, ls, .ref (z_X + 100 + i) :: st, S, v) Q := by
  refine z_J.go (z_one ?_) hj
  intro p l e R s m args below meth c D ty A ad c0 s0 Q hcl ok K H locs arr hP hD hS hl
  obtain ⟨hx, hb, hml, hr, hown, hts, hlocks, hnm, hK, hA, hR, hX⟩ := ok
  exact va_tlen hx hb (hX.2.2.1.1 i hi).2.2.2 hS rfl hd (K H locs arr hP hD hS hl)
theorem zj_sbld {i : Nat} {k : Int32} (hi : i < 14) (hd : decode M.2.1 pc = .ok (.baload, 1)) (hin : vp_in k (z_slen.getD i 0)) (hj : z_J G d M (pc + 1, ls, .int ((z_sbyt.getD i []).getD k.toNatClampNeg 0) :: st, S, v) Q) : z_J G d M (pc, ls, .int k :: .ref (z_X + 100 + i) :: st, S, v) Q := by
  refine z_J.go (z_one ?_) hj
  intro p l e R s m args below meth c D ty A ad c0 s0 Q hcl ok K H locs arr hP hD hS hl
  obtain ⟨hx, hb, hml, hr, hown, hts, hlocks, hnm, hK, hA, hR, hX⟩ := ok
  exact va_tb hx hb (hX.2.2.1.1 i hi).2.2.2 hS hin rfl hd (K H locs arr hP hD hS hl)
set_option maxHeartbeats 1000000 in
theorem zj_callVS {M' : z_M} {avs : List Value} {i : Nat} (hd : decode M.2.1 pc = .ok (.invokevirtual idx, 3)) (hm : z_mw M') (hw : Cond.methodLink M.1.cls idx M'.1 ∈ z_TB) (hi : Cond.instanceMethod M'.1 ∈ z_TB) (hs : Cond.selects M'.1.cls M'.1 M'.1 ∈ z_TB) (hi14 : i < 14) (hcn : M'.1.cls = "java/lang/String") (hn : (parseMethodDescriptor M'.1.desc).map (fun q => q.parameters.length) = some avs.length) (hL : M'.2.2.1 ≤ 44) (hav : (.ref (z_X + i) :: avs).all z_isv = true) (hlen : (z_fl (.ref (z_X + i) :: avs)).length ≤ M'.2.2.1) (hst : (st.map fun w => w.category).sum ≤ 8) (ho1 : z_okr S ls) (ho2 : z_okr S st)
    (hj : z_J G d M' (0, z_ent M'.2.2.1 (.ref (z_X + i) :: avs), [], S, v) (fun r S1 v1 => z_J G (d + 1) M (pc + 3, ls, r.toList ++ st, S1, v1) Q)) : z_J G (d + 1) M (pc, ls, avs.reverse ++ .ref (z_X + i) :: st, S, v) Q := by
  obtain ⟨r, k', hq, hR, hre⟩ := hj
  refine z_J.go ?_ hq
  intro hcl
  obtain ⟨a1, a2, a3, a4, -⟩ := hR hcl
  refine ⟨a1, a2, a3, a4, ?_⟩
  intro p l e R s m args below meth c D ty A ad c0 s0 Q ok hlt h1 h2 h3 h4 K H locs arr hP hD hS hl
  have okc := ok
  obtain ⟨hx, hb, hml, hr, hown, hts, hlocks, hnm, hK, hA, hRm, hX⟩ := ok
  have h1 : c0 ≤ z_c S := h1
  have h2 : s0 ≤ z_s S := h2
  have hM := z_met hcl hm.2.2.1 hav hlen hR hre l hlt D ty ad H.size
  refine z_back (a := ((.ref (z_X + i) :: avs).map (z_mv ad)).toArray) okc hcl (fun q hq => (List.mem_append.mp hq).elim (z_okr_in hcl ls ho1 q) (z_okr_in hcl st ho2 q)) h1 h2 a3 a4 hP hD hS hl (z_rv0 hre) ?_ K
  have hpar : ∀ sig, parseMethodDescriptor M'.1.desc = some sig → avs.length = sig.parameters.length := fun sig h => by
    rw [h] at hn
    exact (Option.some.inj hn).symm
  have hfr : d + 1 ≤ R.frames ∧ 8 + (M'.2.2.1 + 11) + 64 * d ≤ R.locals := ⟨hRm.1, by have := hRm.2; omega⟩
  have hFc : ∀ q, va_A (z_ws ty ad S v) H.size q → A q := fun q hq => by
    rcases hq with ⟨k, e1, hk⟩ | h
    · exact hD.2 k _ hk
    · exact hA q (Nat.le_trans hS.1 h)
  have hpre : ∀ U : State, U.heap = H → s.WarmedH U.vm → z_Pc G D ty ad S v (.ref (z_X + i) :: avs) H.size ((.ref (z_X + i) :: avs).map (z_mv ad)).toArray U := fun U hU hW => ⟨rfl, by rw [hU], by rw [hU]; exact hP, va_K.moved hW.alike hK, hD.weaken (fun _ _ _ _ => trivial), hX.to hS hU hW hFc⟩
  have hcb : z_c S - c0 + (z_c k'.2.2.2.1 - z_c S) ≤ R.cells ∧ z_s S - s0 + (z_s k'.2.2.2.1 - z_s S) ≤ R.slots := by
    have a3 : z_c S ≤ z_c k'.2.2.2.1 := a3
    have a4 : z_s S ≤ z_s k'.2.2.2.1 := a4
    have h3 : z_c k'.2.2.2.1 - c0 ≤ R.cells := h3
    have h4 : z_s k'.2.2.2.1 - s0 ≤ R.slots := h4
    constructor <;> omega
  exact va_runV (C := M'.1.cls) (As := avs.map (z_mv ad)) (rest := st.map (z_mv ad)) (b := ad (z_X + i)) ⟨hx, hb, hml, hown, hts⟩ hM ⟨⟨rfl, rfl, hfr.1, hfr.2, pay_in hts (z_wmG hm), List.mem_cons_self, hts _ hm.1, hts _ hm.2.1, ⟨hm.2.2.2.1, hm.2.2.2.2⟩, hpar, hts _ hw⟩, hts _ hi, hts _ hs⟩ ⟨z_blind _ _ _ _ _ _ _ _, by rw [hcn]; exact vk_recv (adK := fun i => ad (z_X + i)) (i := i) hX.2.2.1 hi14 hS, hpre⟩ rfl (by simp) hl.1 (z_rv ad avs (z_X + i) st) (lv_room (by rw [z_catm]; exact hst)) hd hcb
theorem sx_coder {i : Nat} (hi : i < 14) (h : Q (some (.int 0)) S v) : z_J G d mJ0_coder_7d493 (0, [.ref (z_X + i)], [], S, v) Q := by
  refine zj_csget dJ0_coder_7d493_0 wf_J0_38 ?_
  refine zj_if_eq (tgt := 13) dJ0_coder_7d493_3 (by decide) (fun z => absurd z (by decide)) (fun _ => ?_)
  refine zj_aload_n dJ0_coder_7d493_6 rfl rfl ?_
  refine zj_scod hi dJ0_coder_7d493_7 wf_J0_15 ?_
  refine zj_goto (tgt := 14) dJ0_coder_7d493_10 (by decide) ?_
  exact zj_iret dJ0_coder_7d493_14 rfl (by decide) h
theorem sx_isLatin1 {i : Nat} (hi : i < 14) (h : Q (some (.int 1)) S v) : z_J G d mJ0_isLatin1_aae02 (0, [.ref (z_X + i)], [], S, v) Q := by
  refine zj_csget dJ0_isLatin1_aae02_0 wf_J0_38 ?_
  refine zj_if_eq (tgt := 17) dJ0_isLatin1_aae02_3 (by decide) (fun z => absurd z (by decide)) (fun _ => ?_)
  refine zj_aload_n dJ0_isLatin1_aae02_6 rfl rfl ?_
  refine zj_scod hi dJ0_isLatin1_aae02_7 wf_J0_15 ?_
  refine zj_if_ne (tgt := 17) dJ0_isLatin1_aae02_10 (by decide) (fun z => absurd rfl z) (fun _ => ?_)
  refine zj_iconst (x := 1) dJ0_isLatin1_aae02_13 rfl ?_
  refine zj_goto (tgt := 18) dJ0_isLatin1_aae02_14 (by decide) ?_
  exact zj_iret dJ0_isLatin1_aae02_18 rfl (by decide) h
theorem sx_ok1 {i : Nat} : z_okr S [.ref (z_X + i)] := ⟨Or.inr (Nat.le_add_right _ _), trivial⟩
theorem sx_length {i : Nat} (hd : 1 ≤ d) (hi : i < 14) (h : Q (some (.int (nI (z_slen.getD i 0)))) S v) : z_J G d mJ0_length_8abf5 (0, [.ref (z_X + i)], [], S, v) Q := by
  obtain ⟨d, rfl⟩ : ∃ e, d = e + 1 := ⟨d - 1, by omega⟩
  refine zj_aload_n dJ0_length_8abf5_0 rfl rfl ?_
  refine zj_sval hi dJ0_length_8abf5_1 wf_J0_9 ?_
  refine zj_sblen hi dJ0_length_8abf5_4 ?_
  refine zj_aload_n dJ0_length_8abf5_5 rfl rfl ?_
  refine zj_callVS (M' := mJ0_coder_7d493) (avs := []) (i := i) (st := [.int (Int32.ofNat (z_slen.getD i 0))]) dJ0_length_8abf5_6 wm_J0_coder_7d493 wl_J0_335 wi_J0_coder_7d493 ws_J0_coder_7d493 hi rfl (by decide) (Nat.le_of_ble_eq_true rfl) rfl (Nat.le_of_ble_eq_true rfl) (Nat.le_of_ble_eq_true rfl) sx_ok1 trivial ?_
  refine sx_coder hi ?_
  refine zj_ishr dJ0_length_8abf5_9 ?_
  have e : ∀ j, j < 14 → (Int32.ofNat (z_slen.getD j 0)) >>> ((0 : Int32) &&& 31) = nI (z_slen.getD j 0) := by decide
  rw [e i hi]
  exact zj_iret dJ0_length_8abf5_10 rfl rfl h
theorem sx_charAt1 {i k : Nat} (hd : 2 ≤ d) (hi : i < 14) (hk : k < z_slen.getD i 0) (h : Q (some (.int ((z_sbyt.getD i []).getD k 0))) S v) : z_J G d mJ1_charAt_3b067 (0, [.ref (z_X + 100 + i), .int (nI k)], [], S, v) Q := by
  obtain ⟨d, rfl⟩ : ∃ e, d = e + 2 := ⟨d - 2, by omega⟩
  have l5 : ∀ j, j < 14 → z_slen.getD j 0 ≤ 5 := by decide
  have h5 := l5 i hi
  have ek : ∀ j, j < 14 → ∀ q, q < z_slen.getD j 0 → ((((z_sbyt.getD j []).getD q 0 &&& 255).toUInt32 % 65536).toInt32 = (z_sbyt.getD j []).getD q 0 ∧ narrow .char (.int ((z_sbyt.getD j []).getD q 0)) = .int ((z_sbyt.getD j []).getD q 0)) := by decide
  obtain ⟨e1, e2⟩ := ek i hi k hk
  refine zj_iload_n dJ1_charAt_3b067_0 rfl rfl ?_
  refine zj_aload_n dJ1_charAt_3b067_1 rfl rfl ?_
  refine zj_sblen hi dJ1_charAt_3b067_2 ?_
  refine zj_chk dJ1_charAt_3b067_3 wl_J1_9 (Nat.le_of_ble_eq_true rfl) (nI_pos (by omega)) (nI_lt hk (by omega)) ?_
  refine zj_aload_n dJ1_charAt_3b067_6 rfl rfl ?_
  refine zj_iload_n dJ1_charAt_3b067_7 rfl rfl ?_
  refine zj_sbld hi dJ1_charAt_3b067_8 (vp_in_nI hk (by omega)) ?_
  rw [nI_clamp (by omega)]
  refine zj_sipush (x := 255) dJ1_charAt_3b067_9 rfl ?_
  refine zj_iand dJ1_charAt_3b067_12 ?_
  refine zj_i2c dJ1_charAt_3b067_13 ?_
  rw [e1]
  exact zj_iret dJ1_charAt_3b067_14 rfl e2 h
theorem sx_charAt {i k : Nat} (hd : 3 ≤ d) (hi : i < 14) (hk : k < z_slen.getD i 0) (h : Q (some (.int ((z_sbyt.getD i []).getD k 0))) S v) : z_J G d mJ0_charAt_5068e (0, [.ref (z_X + i), .int (nI k)], [], S, v) Q := by
  obtain ⟨d, rfl⟩ : ∃ e, d = e + 1 := ⟨d - 1, by omega⟩
  have ek : ∀ j, j < 14 → ∀ q, q < z_slen.getD j 0 → narrow .char (.int ((z_sbyt.getD j []).getD q 0)) = .int ((z_sbyt.getD j []).getD q 0) := by decide
  refine zj_aload_n dJ0_charAt_5068e_0 rfl rfl ?_
  refine zj_callVS (M' := mJ0_isLatin1_aae02) (avs := []) (i := i) (st := []) dJ0_charAt_5068e_1 wm_J0_isLatin1_aae02 wl_J0_492 wi_J0_isLatin1_aae02 ws_J0_isLatin1_aae02 hi rfl (by decide) (Nat.le_of_ble_eq_true rfl) rfl (Nat.le_of_ble_eq_true rfl) (Nat.le_of_ble_eq_true rfl) sx_ok1 trivial ?_
  refine sx_isLatin1 hi ?_
  refine zj_if_eq (tgt := 16) dJ0_charAt_5068e_4 (by decide) (fun z => absurd z (by decide)) (fun _ => ?_)
  refine zj_aload_n dJ0_charAt_5068e_7 rfl rfl ?_
  refine zj_sval hi dJ0_charAt_5068e_8 wf_J0_9 ?_
  refine zj_iload_n dJ0_charAt_5068e_11 rfl rfl ?_
  refine zj_callS (M' := mJ1_charAt_3b067) (avs := [.ref (z_X + 100 + i), .int (nI k)]) (st := []) dJ0_charAt_5068e_12 wm_J1_charAt_3b067 wl_J0_495 wt_J1_charAt_3b067 rfl (Nat.le_of_ble_eq_true rfl) rfl (Nat.le_of_ble_eq_true rfl) (Nat.le_of_ble_eq_true rfl) sx_ok1 trivial ?_
  refine sx_charAt1 (by omega) hi hk ?_
  exact zj_iret dJ0_charAt_5068e_15 rfl (ek i hi k hk) h
theorem sx_charAtI {i : Nat} {k : Int32} (hd : 3 ≤ d) (hi : i < 14) (hk : vp_in k (z_slen.getD i 0)) (h : Q (some (.int ((z_sbyt.getD i []).getD k.toNatClampNeg 0))) S v) : z_J G d mJ0_charAt_5068e (0, [.ref (z_X + i), .int k], [], S, v) Q := by
  have l5 : ∀ j, j < 14 → z_slen.getD j 0 ≤ 5 := by decide
  have h5 := l5 i hi
  obtain ⟨n, hn, rfl⟩ := nI_of (fun z => hk (Or.inl z))
  have hk2 : n < z_slen.getD i 0 := Nat.not_le.mp (fun z => hk (Or.inr (by rw [nI_clamp hn]; exact z)))
  rw [nI_clamp hn] at h
  exact sx_charAt hd hi hk2 h
end ZS
