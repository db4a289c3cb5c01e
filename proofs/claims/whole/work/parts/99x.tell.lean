/-! check, qubit, edge of the class: they return, or they throw; the law's three methods that call them -/
abbrev mL_check : z_M := (yL_check, cL_check, 6, some .int)
abbrev mL_qubit : z_M := (yL_qubit, cL_qubit, 5, some .int)
abbrev mL_edge : z_M := (yL_edge, cL_edge, 6, some .int)
theorem wm_L_check : z_mwX mL_check [(0, 12, 15, 13)] := ⟨ex_w _ (by decide +kernel), w0_L, rfl, by decide, by decide⟩
theorem wm_L_qubit : z_mwX mL_qubit [(0, 10, 13, 13)] := ⟨ex_w _ (by decide +kernel), w0_L, rfl, by decide, by decide⟩
theorem wm_L_edge : z_mwX mL_edge [(0, 12, 15, 13)] := ⟨ex_w _ (by decide +kernel), w0_L, rfl, by decide, by decide⟩
section TL
variable {G : z_G} {d : Nat} {S : z_Shp} {v : z_Dat} {Q : Option Value → z_Shp → z_Dat → Prop} {T : z_Shp → z_Dat → Prop} {ρ : Nat → Nat} {x1 x2 x3 : Int32}
theorem sp_X10_checkR (hd : 2 ≤ d) (hL : z_L S) (hV : p_V ρ) (hW : p_Ws v) (hF : p_F S v 37 ρ) {i : (Nat × Nat) × Nat} (hi : a_chk ρ x1 x2 x3 i) (h : Q (some (.int (nI (n_chk ρ i.1 i.2)))) S v) : z_J G d mX10_check (0, [.ref 0, .int x1, .int x2, .int x3], [], S, v) Q := by
  obtain ⟨d, rfl⟩ : ∃ e, d = e + 1 := ⟨d - 1, by omega⟩
  have hK := t_Kle hV.1
  have hF0 := hF
  obtain ⟨⟨w, hw, hwd⟩, -, F2, -⟩ := hF
  refine sg_X10_check_0 hL hw (p_wdW hwd) ?_
  refine sp_X10_isCheck (by omega) hL hV hW hF0 (fun _ => ⟨_, rfl, rfl, fun _ => ?_, fun c => absurd c (by decide)⟩) (fun c => absurd ⟨i.1, hi.1⟩ c)
  obtain ⟨⟨κ, k⟩, u⟩ := i
  obtain ⟨⟨hκ, hk, e1, e2⟩, hu, e3⟩ := hi
  dsimp only at hκ hk e1 e2 hu e3
  subst e1 e2 e3
  have P := (p_wdP hW hwd).2.2.2 κ hκ
  have P1 := P.2.2.1 k hk
  have r3 : v (37 + 8 + κ) k = nI (ρ (47 + 12 * κ + k)) := (F2 κ hκ).2.2.2 k (by omega)
  have hin : vp_in (nI κ) 2 := vp_in_nI hκ (by omega)
  have hin2 : vp_in (nI k) 12 := vp_in_nI (by omega) (by omega)
  rw [nI_clamp (n := κ) (by omega), nI_clamp (n := k) (by omega), P1.1, P1.2.1, P1.2.2, r3]
  rcases (show u = 0 ∨ u = 1 ∨ u = 2 ∨ u = 3 by omega) with rfl | rfl | rfl | rfl
  · exact ⟨fun _ => ⟨hin, hin2, h⟩, fun c => absurd c (by decide), fun c => absurd c (by decide), fun c => absurd c (by decide), fun c => absurd rfl c⟩
  · exact ⟨fun c => absurd c (by decide), fun _ => ⟨hin, hin2, h⟩, fun c => absurd c (by decide), fun c => absurd c (by decide), fun _ c => absurd rfl c⟩
  · exact ⟨fun c => absurd c (by decide), fun c => absurd c (by decide), fun _ => ⟨hin, hin2, h⟩, fun c => absurd c (by decide), fun _ _ c => absurd rfl c⟩
  · exact ⟨fun c => absurd c (by decide), fun c => absurd c (by decide), fun c => absurd c (by decide), fun _ => ⟨hin, hin2, h⟩, fun _ _ _ c => absurd rfl c⟩
theorem sp_X10_checkT (hd : 2 ≤ d) (hL : z_L S) (hV : p_V ρ) (hW : p_Ws v) (hF : p_F S v 37 ρ) (hn : ¬ ∃ i, a_chk ρ x1 x2 x3 i) (h : T S v) : z_JP G d mX10_check (0, [.ref 0, .int x1, .int x2, .int x3], [], S, v) (z_TH mX10_check T) := by
  obtain ⟨d, rfl⟩ : ∃ e, d = e + 1 := ⟨d - 1, by omega⟩
  have hF0 := hF
  obtain ⟨⟨w, hw, hwd⟩, -⟩ := hF
  refine st_X10_check_0 hL hw (p_wdW hwd) ?_
  refine sp_X10_isCheck (by omega) hL hV hW hF0 (fun ⟨i, q⟩ => ⟨_, rfl, rfl, fun _ => ⟨fun e => absurd ⟨(i, 0), q, by show 0 < 4; omega, e⟩ hn, fun e => absurd ⟨(i, 1), q, by show 1 < 4; omega, e⟩ hn, fun e => absurd ⟨(i, 2), q, by show 2 < 4; omega, e⟩ hn, fun e => absurd ⟨(i, 3), q, by show 3 < 4; omega, e⟩ hn, fun _ _ _ _ => h⟩, fun c => absurd c (by decide)⟩) (fun _ => ⟨_, rfl, rfl, fun c => absurd rfl c, fun _ => h⟩)
theorem sp_X10_qubitR (hd : 1 ≤ d) (hL : z_L S) (hV : p_V ρ) (hW : p_Ws v) (hF : p_F S v 37 ρ) {i : Nat × Nat} (hi : a_qu ρ x1 x2 i) (h : Q (some (.int (nI (n_qu ρ i.1 i.2)))) S v) : z_J G d mX10_qubit (0, [.ref 0, .int x1, .int x2], [], S, v) Q := by
  obtain ⟨d, rfl⟩ : ∃ e, d = e + 1 := ⟨d - 1, by omega⟩
  have hd25 : ρ 0 * ρ 0 ≤ 25 := by rcases hV.1 with e | e <;> rw [e] <;> decide
  obtain ⟨⟨w, hw, hwd⟩, -, -, F3⟩ := hF
  have P := p_wdP hW hwd
  have hw18 : w + 18 ≤ 262 := by rcases hwd with ⟨rfl, -⟩ | ⟨rfl, -⟩ <;> omega
  obtain ⟨q, u⟩ := i
  obtain ⟨hq, e1, hu, e2⟩ := hi
  dsimp only at hq e1 hu e2
  subst e1 e2
  refine sg_X10_qubit_0 hL hw (p_wdW hwd) ⟨fun c => absurd c (nI_pos (by omega)), fun _ => ?_⟩
  rw [P.2.1]
  refine ⟨fun _ => ?_, fun c => absurd (nI_lt hq (by omega)) c⟩
  rw [nI_clamp (n := q) (by omega), show v 43 q = nI (ρ (22 + q)) from F3 q (by omega)]
  rcases (show u = 0 ∨ u = 1 ∨ u = 2 by omega) with rfl | rfl | rfl
  · exact ⟨fun _ => ⟨vp_in_nI (by omega) (by omega), h⟩, fun c => absurd c (by decide), fun c => absurd c (by decide), fun c => absurd rfl c⟩
  · refine ⟨fun c => absurd c (by decide), fun _ => ?_, fun c => absurd c (by decide), fun _ c => absurd rfl c⟩
    rw [nI_pred]
    exact sp_X9_checksOn hL.k hw18 (p_wdW hwd) hV.1 P.2.2.1 (by omega) hq (fun k hk => ((P.2.2.2 0 (by omega)).2.2.1 k hk).2.2) ⟨_, rfl, rfl, h⟩
  · refine ⟨fun c => absurd c (by decide), fun c => absurd c (by decide), fun _ => ?_, fun _ _ c => absurd rfl c⟩
    rw [nI_pred]
    exact sp_X9_checksOn hL.k hw18 (p_wdW hwd) hV.1 P.2.2.1 (by omega) hq (fun k hk => ((P.2.2.2 1 (by omega)).2.2.1 k hk).2.2) ⟨_, rfl, rfl, h⟩
theorem sp_X10_qubitT (hd : 1 ≤ d) (hL : z_L S) (hV : p_V ρ) (hW : p_Ws v) (hF : p_F S v 37 ρ) (hn : ¬ ∃ i, a_qu ρ x1 x2 i) (h : T S v) : z_JP G d mX10_qubit (0, [.ref 0, .int x1, .int x2], [], S, v) (z_TH mX10_qubit T) := by
  obtain ⟨d, rfl⟩ : ∃ e, d = e + 1 := ⟨d - 1, by omega⟩
  have hd25 : ρ 0 * ρ 0 ≤ 25 := by rcases hV.1 with e | e <;> rw [e] <;> decide
  obtain ⟨⟨w, hw, hwd⟩, -⟩ := hF
  have P := p_wdP hW hwd
  refine st_X10_qubit_0 hL hw (p_wdW hwd) ⟨fun _ => h, fun c => ?_⟩
  rw [P.2.1]
  refine ⟨fun c2 => ?_, fun _ => h⟩
  obtain ⟨q, hq, e1⟩ : ∃ q, q < ρ 0 * ρ 0 ∧ x1 = nI q := (ix_lt (by omega)).mp ⟨Int32.not_lt.mp c, c2⟩
  exact ⟨fun e => absurd ⟨(q, 0), hq, e1, by show 0 < 3; omega, e⟩ hn, fun e => absurd ⟨(q, 1), hq, e1, by show 1 < 3; omega, e⟩ hn, fun e => absurd ⟨(q, 2), hq, e1, by show 2 < 3; omega, e⟩ hn, fun _ _ _ => h⟩
theorem sp_X10_edgeR (hd : 4 ≤ d) (hL : z_L S) (hV : p_V ρ) (hW : p_Ws v) (hF : p_F S v 37 ρ) {i : Nat × Nat × Nat} (hi : a_eg ρ x1 x2 x3 i) (h : ∀ v1, c_pk v v1 → Q (some (.int (n_eg ρ i))) S v1) : z_J G d mX10_edge (0, [.ref 0, .int x1, .int x2, .int x3], [], S, v) Q := by
  obtain ⟨d, rfl⟩ : ∃ e, d = e + 1 := ⟨d - 1, by omega⟩
  have hE := n_E_le hV.1 hV.2.1
  have hB := n_B_le hV.1 hV.2.1
  obtain ⟨κ, e, u⟩ := i
  obtain ⟨hκ, e1, he, e2, hu, e3⟩ := hi
  dsimp only at hκ e1 he e2 hu e3
  subst e1 e2 e3
  refine sg_X10_edge_0 hL ⟨fun _ => ?_, fun c => absurd (k_to hκ rfl) c⟩
  refine sp_X4_spread (by omega) hL hV hW zF_37 hF hκ (fun v1 hN _ => ⟨rfl, rfl, fun c => absurd c (nI_pos (by omega)), fun _ => ?_⟩)
  have yes := h v1 (hN.2.2.2.pk (by omega) (by omega))
  obtain ⟨q1, q2, q3⟩ := hN.2.1 e he
  have hhi : n_hi ρ κ e ≤ n_B ρ := (n_ends hV.1 hκ he).2.2
  have hin : vp_in (nI e) 321 := vp_in_nI (by omega) (by omega)
  rw [hN.1.2.2.1, hN.1.2.1, nI_clamp (n := e) (by omega), q1, q2, q3]
  refine ⟨fun _ => ?_, fun c => absurd (nI_lt he (by omega)) c⟩
  rcases (show u = 0 ∨ u = 1 ∨ u = 2 by omega) with rfl | rfl | rfl
  · exact ⟨fun _ => ⟨hin, yes⟩, fun c => absurd c (by decide), fun c => absurd c (by decide), fun c => absurd rfl c⟩
  · refine ⟨fun c => absurd c (by decide), fun _ => ⟨hin, fun c => ⟨hin, ?_⟩, fun c => ?_⟩, fun c => absurd c (by decide), fun _ c => absurd rfl c⟩
    · have ne : ¬ n_hi ρ κ e = n_B ρ := fun z => c (by rw [z])
      unfold n_eg at yes
      rw [if_neg (show ¬ (1 : Nat) = 0 by omega), if_pos rfl, if_neg ne] at yes
      exact yes
    · have eq := (nI_eq (by omega) (by omega)).mp c
      unfold n_eg at yes
      rw [if_neg (show ¬ (1 : Nat) = 0 by omega), if_pos rfl, if_pos eq] at yes
      exact yes
  · exact ⟨fun c => absurd c (by decide), fun c => absurd c (by decide), fun _ => ⟨hin, yes⟩, fun _ _ c => absurd rfl c⟩
theorem sp_X10_edgeT (hd : 4 ≤ d) (hL : z_L S) (hV : p_V ρ) (hW : p_Ws v) (hF : p_F S v 37 ρ) (hn : ¬ ∃ i, a_eg ρ x1 x2 x3 i) (h : ∀ v1, c_pk v v1 → T S v1) : z_JP G d mX10_edge (0, [.ref 0, .int x1, .int x2, .int x3], [], S, v) (z_TH mX10_edge T) := by
  obtain ⟨d, rfl⟩ : ∃ e, d = e + 1 := ⟨d - 1, by omega⟩
  have hE := n_E_le hV.1 hV.2.1
  refine st_X10_edge_0 hL ⟨fun c => ?_, fun _ => h v c_pk.rf⟩
  obtain ⟨κ, hκ, e1⟩ := k_of c
  rw [e1]
  refine sp_X4_spread (by omega) hL hV hW zF_37 hF hκ (fun v1 hN _ => ⟨rfl, rfl, fun _ => h v1 (hN.2.2.2.pk (by omega) (by omega)), fun c1 => ?_⟩)
  have yes := h v1 (hN.2.2.2.pk (by omega) (by omega))
  rw [hN.1.2.2.1]
  refine ⟨fun c2 => ?_, fun _ => yes⟩
  obtain ⟨e, he, e2⟩ : ∃ q, q < n_E ρ ∧ x2 = nI q := (ix_lt (by omega)).mp ⟨Int32.not_lt.mp c1, c2⟩
  exact ⟨fun q => absurd ⟨(κ, e, 0), hκ, e1, he, e2, by show 0 < 3; omega, q⟩ hn, fun q => absurd ⟨(κ, e, 1), hκ, e1, he, e2, by show 1 < 3; omega, q⟩ hn, fun q => absurd ⟨(κ, e, 2), hκ, e1, he, e2, by show 2 < 3; omega, q⟩ hn, fun _ _ _ => yes⟩
theorem lw_check {M : z_M} {pc idx : Nat} {ls st : List Value} (hd : 6 ≤ d) (hdec : decode M.2.1 pc = .ok (.invokestatic idx, 3)) (hw : Cond.methodLink M.1.cls idx yL_check ∈ z_TB) (hst : (st.map fun w => w.category).sum ≤ 8) (ho1 : z_okr S ls) (ho2 : z_okr S st) (hL : z_L S) (hV : p_V ρ) (hW : p_Ws v) (hF : p_F S v 37 ρ)
    (h1 : ∀ i, a_chk ρ x1 x2 x3 i → z_J G (d + 2) M (pc + 3, ls, .int 0 :: st, z_sw S 261 0 (nI (n_chk ρ i.1 i.2)).toInt64, v) Q)
    (h0 : (¬ ∃ i, a_chk ρ x1 x2 x3 i) → z_J G (d + 2) M (pc + 3, ls, .int 1 :: st, z_ct S 1 6, v) Q) : z_J G (d + 2) M (pc, ls, [.ref 261, .int x3, .int x2, .int x1, .ref 0] ++ st, S, v) Q := by
  by_cases hx : ∃ i, a_chk ρ x1 x2 x3 i
  · obtain ⟨i, hi⟩ := hx
    refine zj_callSX (M' := mL_check) (hh := [(0, 12, 15, 13)]) (avs := [.ref 0, .int x1, .int x2, .int x3, .ref 261]) (st := st) hdec wm_L_check hw wt_L_check rfl (by decide) rfl (Nat.le_of_ble_eq_true rfl) hst ho1 ho2 ?_
    refine zj_aload dL_check_0 rfl ?_
    refine zj_iconst (x := 0) dL_check_2 rfl ?_
    refine zj_aload_n dL_check_3 rfl rfl ?_
    refine zj_iload_n dL_check_4 rfl rfl ?_
    refine zj_iload_n dL_check_5 rfl rfl ?_
    refine zj_iload_n dL_check_6 rfl rfl ?_
    refine zj_callV (M' := mX10_check) (avs := [.int x1, .int x2, .int x3]) (st := [.int 0, .ref 261]) (ci := 10) dL_check_7 wm_X10_check wl_L_7 wi_X10_check ws_X10_check (by decide) (zk_0 hL) rfl rfl (by decide) rfl (Nat.le_of_ble_eq_true rfl) (Nat.le_of_ble_eq_true rfl) ⟨Or.inl (z_k0 (zk_0 hL)), Or.inl (z_k0 (zk_261 hL)), trivial⟩ ⟨Or.inl (z_k0 (zk_261 hL)), trivial⟩ ?_
    refine sp_X10_checkR (by omega) hL hV hW hF hi ?_
    refine zj_i2l dL_check_10 ?_
    refine zj_lastore dL_check_11 (zk_261 hL) (by rw [zl_261 hL]; exact z_vin (by decide)) ?_
    refine zj_goto (tgt := 19) dL_check_12 (by decide) ?_
    refine zj_iconst (x := 0) dL_check_19 rfl ?_
    exact zj_iret dL_check_20 rfl rfl ⟨0, rfl, h1 i hi⟩
  · refine zj_callSC (M' := mL_check) (M'' := mX10_check) (hh := [(0, 12, 15, 13)]) (avs := [.ref 0, .int x1, .int x2, .int x3, .ref 261]) (st := st) (as1 := [.int x1, .int x2, .int x3]) (ls1 := [.ref 0, .int x1, .int x2, .int x3, .ref 261, .null]) (st1 := [.int 0, .ref 261]) (pc1 := 7) (b1 := 0) (ci := 10) (hpc := 15) (hi9 := 5) (xe := ⟨0, 12, 15, 13⟩) hd hdec wm_L_check rfl hw wt_L_check rfl (by decide) rfl (Nat.le_of_ble_eq_true rfl) hst ho1 ho2 rfl rfl (by decide) rfl wk_L_13 ?_ dL_check_7 wm_X10_check wl_L_7 wi_X10_check ws_X10_check (by decide) (zk_0 hL) rfl rfl (by decide) rfl (Nat.le_of_ble_eq_true rfl) (Nat.le_of_ble_eq_true rfl) dL_check_15 (by decide) dL_check_17 dL_check_18 rfl ?_
    · refine zt_aload dL_check_0 rfl ?_
      refine zt_iconst (x := 0) dL_check_2 rfl ?_
      refine zt_aload_n dL_check_3 rfl rfl ?_
      refine zt_iload_n dL_check_4 rfl rfl ?_
      refine zt_iload_n dL_check_5 rfl rfl ?_
      refine zt_iload_n dL_check_6 rfl rfl ?_
      exact ⟨_, rfl, z_R.rf⟩
    exact sp_X10_checkT (by omega) hL hV hW hF hx (h0 hx)
theorem lw_qubit {M : z_M} {pc idx : Nat} {ls st : List Value} (hd : 6 ≤ d) (hdec : decode M.2.1 pc = .ok (.invokestatic idx, 3)) (hw : Cond.methodLink M.1.cls idx yL_qubit ∈ z_TB) (hst : (st.map fun w => w.category).sum ≤ 8) (ho1 : z_okr S ls) (ho2 : z_okr S st) (hL : z_L S) (hV : p_V ρ) (hW : p_Ws v) (hF : p_F S v 37 ρ)
    (h1 : ∀ i, a_qu ρ x1 x2 i → z_J G (d + 2) M (pc + 3, ls, .int 0 :: st, z_sw S 261 0 (nI (n_qu ρ i.1 i.2)).toInt64, v) Q)
    (h0 : (¬ ∃ i, a_qu ρ x1 x2 i) → z_J G (d + 2) M (pc + 3, ls, .int 1 :: st, z_ct S 1 6, v) Q) : z_J G (d + 2) M (pc, ls, [.ref 261, .int x2, .int x1, .ref 0] ++ st, S, v) Q := by
  by_cases hx : ∃ i, a_qu ρ x1 x2 i
  · obtain ⟨i, hi⟩ := hx
    refine zj_callSX (M' := mL_qubit) (hh := [(0, 10, 13, 13)]) (avs := [.ref 0, .int x1, .int x2, .ref 261]) (st := st) hdec wm_L_qubit hw wt_L_qubit rfl (by decide) rfl (Nat.le_of_ble_eq_true rfl) hst ho1 ho2 ?_
    refine zj_aload_n dL_qubit_0 rfl rfl ?_
    refine zj_iconst (x := 0) dL_qubit_1 rfl ?_
    refine zj_aload_n dL_qubit_2 rfl rfl ?_
    refine zj_iload_n dL_qubit_3 rfl rfl ?_
    refine zj_iload_n dL_qubit_4 rfl rfl ?_
    refine zj_callV (M' := mX10_qubit) (avs := [.int x1, .int x2]) (st := [.int 0, .ref 261]) (ci := 10) dL_qubit_5 wm_X10_qubit wl_L_15 wi_X10_qubit ws_X10_qubit (by decide) (zk_0 hL) rfl rfl (by decide) rfl (Nat.le_of_ble_eq_true rfl) (Nat.le_of_ble_eq_true rfl) ⟨Or.inl (z_k0 (zk_0 hL)), Or.inl (z_k0 (zk_261 hL)), trivial⟩ ⟨Or.inl (z_k0 (zk_261 hL)), trivial⟩ ?_
    refine sp_X10_qubitR (by omega) hL hV hW hF hi ?_
    refine zj_i2l dL_qubit_8 ?_
    refine zj_lastore dL_qubit_9 (zk_261 hL) (by rw [zl_261 hL]; exact z_vin (by decide)) ?_
    refine zj_goto (tgt := 17) dL_qubit_10 (by decide) ?_
    refine zj_iconst (x := 0) dL_qubit_17 rfl ?_
    exact zj_iret dL_qubit_18 rfl rfl ⟨0, rfl, h1 i hi⟩
  · refine zj_callSC (M' := mL_qubit) (M'' := mX10_qubit) (hh := [(0, 10, 13, 13)]) (avs := [.ref 0, .int x1, .int x2, .ref 261]) (st := st) (as1 := [.int x1, .int x2]) (ls1 := [.ref 0, .int x1, .int x2, .ref 261, .null]) (st1 := [.int 0, .ref 261]) (pc1 := 5) (b1 := 0) (ci := 10) (hpc := 13) (hi9 := 4) (xe := ⟨0, 10, 13, 13⟩) hd hdec wm_L_qubit rfl hw wt_L_qubit rfl (by decide) rfl (Nat.le_of_ble_eq_true rfl) hst ho1 ho2 rfl rfl (by decide) rfl wk_L_13 ?_ dL_qubit_5 wm_X10_qubit wl_L_15 wi_X10_qubit ws_X10_qubit (by decide) (zk_0 hL) rfl rfl (by decide) rfl (Nat.le_of_ble_eq_true rfl) (Nat.le_of_ble_eq_true rfl) dL_qubit_13 (by decide) dL_qubit_15 dL_qubit_16 rfl ?_
    · refine zt_aload_n dL_qubit_0 rfl rfl ?_
      refine zt_iconst (x := 0) dL_qubit_1 rfl ?_
      refine zt_aload_n dL_qubit_2 rfl rfl ?_
      refine zt_iload_n dL_qubit_3 rfl rfl ?_
      refine zt_iload_n dL_qubit_4 rfl rfl ?_
      exact ⟨_, rfl, z_R.rf⟩
    exact sp_X10_qubitT (by omega) hL hV hW hF hx (h0 hx)
theorem lw_edge {M : z_M} {pc idx : Nat} {ls st : List Value} (hd : 6 ≤ d) (hdec : decode M.2.1 pc = .ok (.invokestatic idx, 3)) (hw : Cond.methodLink M.1.cls idx yL_edge ∈ z_TB) (hst : (st.map fun w => w.category).sum ≤ 8) (ho1 : z_okr S ls) (ho2 : z_okr S st) (hL : z_L S) (hV : p_V ρ) (hW : p_Ws v) (hF : p_F S v 37 ρ)
    (h1 : ∀ i, a_eg ρ x1 x2 x3 i → ∀ v1, c_pk v v1 → z_J G (d + 2) M (pc + 3, ls, .int 0 :: st, z_sw S 261 0 (n_eg ρ i).toInt64, v1) Q)
    (h0 : (¬ ∃ i, a_eg ρ x1 x2 x3 i) → ∀ v1, c_pk v v1 → z_J G (d + 2) M (pc + 3, ls, .int 1 :: st, z_ct S 1 6, v1) Q) : z_J G (d + 2) M (pc, ls, [.ref 261, .int x3, .int x2, .int x1, .ref 0] ++ st, S, v) Q := by
  by_cases hx : ∃ i, a_eg ρ x1 x2 x3 i
  · obtain ⟨i, hi⟩ := hx
    refine zj_callSX (M' := mL_edge) (hh := [(0, 12, 15, 13)]) (avs := [.ref 0, .int x1, .int x2, .int x3, .ref 261]) (st := st) hdec wm_L_edge hw wt_L_edge rfl (by decide) rfl (Nat.le_of_ble_eq_true rfl) hst ho1 ho2 ?_
    refine zj_aload dL_edge_0 rfl ?_
    refine zj_iconst (x := 0) dL_edge_2 rfl ?_
    refine zj_aload_n dL_edge_3 rfl rfl ?_
    refine zj_iload_n dL_edge_4 rfl rfl ?_
    refine zj_iload_n dL_edge_5 rfl rfl ?_
    refine zj_iload_n dL_edge_6 rfl rfl ?_
    refine zj_callV (M' := mX10_edge) (avs := [.int x1, .int x2, .int x3]) (st := [.int 0, .ref 261]) (ci := 10) dL_edge_7 wm_X10_edge wl_L_19 wi_X10_edge ws_X10_edge (by decide) (zk_0 hL) rfl rfl (by decide) rfl (Nat.le_of_ble_eq_true rfl) (Nat.le_of_ble_eq_true rfl) ⟨Or.inl (z_k0 (zk_0 hL)), Or.inl (z_k0 (zk_261 hL)), trivial⟩ ⟨Or.inl (z_k0 (zk_261 hL)), trivial⟩ ?_
    refine sp_X10_edgeR (by omega) hL hV hW hF hi (fun v1 f1 => ?_)
    refine zj_i2l dL_edge_10 ?_
    refine zj_lastore dL_edge_11 (zk_261 hL) (by rw [zl_261 hL]; exact z_vin (by decide)) ?_
    refine zj_goto (tgt := 19) dL_edge_12 (by decide) ?_
    refine zj_iconst (x := 0) dL_edge_19 rfl ?_
    exact zj_iret dL_edge_20 rfl rfl ⟨0, rfl, h1 i hi v1 f1⟩
  · refine zj_callSC (M' := mL_edge) (M'' := mX10_edge) (hh := [(0, 12, 15, 13)]) (avs := [.ref 0, .int x1, .int x2, .int x3, .ref 261]) (st := st) (as1 := [.int x1, .int x2, .int x3]) (ls1 := [.ref 0, .int x1, .int x2, .int x3, .ref 261, .null]) (st1 := [.int 0, .ref 261]) (pc1 := 7) (b1 := 0) (ci := 10) (hpc := 15) (hi9 := 5) (xe := ⟨0, 12, 15, 13⟩) hd hdec wm_L_edge rfl hw wt_L_edge rfl (by decide) rfl (Nat.le_of_ble_eq_true rfl) hst ho1 ho2 rfl rfl (by decide) rfl wk_L_13 ?_ dL_edge_7 wm_X10_edge wl_L_19 wi_X10_edge ws_X10_edge (by decide) (zk_0 hL) rfl rfl (by decide) rfl (Nat.le_of_ble_eq_true rfl) (Nat.le_of_ble_eq_true rfl) dL_edge_15 (by decide) dL_edge_17 dL_edge_18 rfl ?_
    · refine zt_aload dL_edge_0 rfl ?_
      refine zt_iconst (x := 0) dL_edge_2 rfl ?_
      refine zt_aload_n dL_edge_3 rfl rfl ?_
      refine zt_iload_n dL_edge_4 rfl rfl ?_
      refine zt_iload_n dL_edge_5 rfl rfl ?_
      refine zt_iload_n dL_edge_6 rfl rfl ?_
      exact ⟨_, rfl, z_R.rf⟩
    exact sp_X10_edgeT (by omega) hL hV hW hF hx (fun v1 f1 => h0 hx v1 f1)
end TL
