/-! EACH CALL ON BOTH SIDES: from the invariant to the invariant, with one answer -/
theorem g_vi {x y : Int32} (h : x = y) : some (Value.int x) = some (Value.int y) := by rw [h]
theorem g_vl {x y : Int64} (h : x = y) : some (Value.long x) = some (Value.long y) := by rw [h]
section GX
variable {G : z_G} {d : Nat} {B : Nat × Nat × Nat} {σ : g_S} {S S1 : z_Shp} {v v1 v2 : z_Dat} {x1 x2 x3 x4 x5 x6 : Int32} {K : z_Shp → z_Dat → Prop} {T' : g_T}
theorem CI.tt (h : CI B σ S v) (hT : e_T B 47 56 S S1) (hv : ∀ b, b < 47 ∨ (57 ≤ b ∧ b < 141) ∨ (203 ≤ b ∧ b < 223) → v1 b = v b) (hTT : c_TT T' v1) : CI B (σ.1, σ.2.1, σ.2.2.1, T') S1 v1 := by
  obtain ⟨h1, h2, h3, h4, h5, h6⟩ := h
  exact ⟨hT.1, h2.fr (fun a _ _ => hv a (by omega)), hT.F zF_37 (by omega) (h3.fr (fun a _ _ => hv a (by omega))), h4.fr hT (by omega) (fun a _ _ => hv a (by omega)), h5.fr hT (by omega) (fun a _ => hv a (by omega)), hTT⟩
theorem MI.tt (h : MI σ v) (hv : ∀ b, (224 ≤ b ∧ b ≤ 226) ∨ b = 228 ∨ (230 ≤ b ∧ b ≤ 233) → v1 b = v b) (hj : ∀ j, j = 6 ∨ j = 14 → v1 223 j = v 223 j) (hTT : m_TT T' v1) : MI (σ.1, σ.2.1, σ.2.2.1, T') v1 := by
  obtain ⟨h1, h2, h3, h4, h5⟩ := h
  exact ⟨h1.fr (hv 224 (by omega)), h2.fr (hj 14 (by omega)) (fun a _ _ => hv a (by omega)), h3.fr (hj 6 (by omega)) (hv 226 (by omega)), h4.fr (hv 225 (by omega)) (hv 228 (by omega)), hTT⟩
theorem PI.undo (h : PI σ) : u_ρ σ.1 σ.2.1.1 σ.2.1.2 0 = σ.1 0 ∧ PI (u_ρ σ.1 σ.2.1.1 σ.2.1.2, (σ.2.1.1 - 1, u_r σ.2.1.1 σ.2.1.2), σ.2.2) := by
  obtain ⟨h1, h2, h3, h4⟩ := h
  by_cases e : σ.2.1.1 = 0
  · have e1 : u_ρ σ.1 σ.2.1.1 σ.2.1.2 = σ.1 := if_pos e
    refine ⟨by rw [e1], ?_, fun i hi => ?_, h3, h4⟩
    · show p_V (u_ρ _ _ _)
      rw [e1]; exact h1
    · have hi : i < σ.2.1.1 - 1 := hi
      omega
  · have e1 : u_ρ σ.1 σ.2.1.1 σ.2.1.2 = σ.2.1.2 0 := if_neg e
    have e2 : u_r σ.2.1.1 σ.2.1.2 = fun i => σ.2.1.2 (i + 1) := if_neg e
    have q := h2 0 (by omega)
    refine ⟨by rw [e1]; exact q.2, ?_, fun i hi => ?_, h3, h4⟩
    · show p_V (u_ρ _ _ _)
      rw [e1]; exact q.1
    · have hi : i < σ.2.1.1 - 1 := hi
      show p_V (u_r _ _ i) ∧ u_r _ _ i 0 = u_ρ _ _ _ 0
      rw [e1, e2]
      exact ⟨(h2 (i + 1) (by omega)).1, (h2 (i + 1) (by omega)).2.trans q.2.symm⟩
theorem PI.new {ρ' : Nat → Nat} {r' : Nat → Nat → Nat} (h : PI σ) (hV : p_V ρ') : PI (ρ', (0, r'), σ.2.2) := ⟨hV, fun i hi => absurd hi (Nat.not_lt_zero i), h.2.2.1, h.2.2.2⟩
theorem gx_events (hd : 30 ≤ d) (hB : B.1 ≤ 999000) (hI : g_I B S v) (h : ∀ S2 v2, g_I B S2 v2 → K S2 v2) : z_J G d mX10_events (0, [.ref 0, .int x1], [], S, v) (fun r S1 v1 => ∃ y : Int32, r = some (.int y) ∧ z_L S1 ∧ z_J G d mX11_events (0, [.ref 223, .int x1], [], S1, v1) (fun r S2 v2 => r = some (.int y) ∧ K S2 v2)) := by
  obtain ⟨σ, hC, hM, hP⟩ := hI
  have hL := hC.1.1
  have hV := hP.1
  have h108 := n_B_le hV.1 hV.2.1
  have hd25 : σ.1 0 * σ.1 0 ≤ 25 := by rcases hV.1 with e | e <;> rw [e] <;> decide
  refine sp_X10_events (by omega) hL hV hC.2.1 hC.2.2.1 (fun v1 y f1 a1 => ⟨y, rfl, hL, ?_⟩)
  have g1 : c_pk v v1 := f1.pk (by omega) (by omega)
  have hM1 := hM.of_c (v1 := v1) (fun b b1 b2 => g1 b (by omega))
  exact sp_X11_events (by omega) hL hV hM1.1 hM1.2.1 (fun v2 y2 f2 a2 => ⟨g_vi (a_evs_u a2 a1), h _ _ (g_pk hC hM hP (e_T.rf hC.1) g1 f2.pk)⟩)
theorem gx_event (hd : 30 ≤ d) (hB : B.1 ≤ 999000) (hI : g_I B S v) (h : ∀ S2 v2, g_I B S2 v2 → K S2 v2) : z_J G d mX10_event (0, [.ref 0, .int x1, .int x2, .int x3], [], S, v) (fun r S1 v1 => ∃ y : Int32, r = some (.int y) ∧ z_L S1 ∧ z_J G d mX11_event (0, [.ref 223, .int x1, .int x2, .int x3], [], S1, v1) (fun r S2 v2 => r = some (.int y) ∧ K S2 v2)) := by
  obtain ⟨σ, hC, hM, hP⟩ := hI
  have hL := hC.1.1
  have hV := hP.1
  have h108 := n_B_le hV.1 hV.2.1
  have hd25 : σ.1 0 * σ.1 0 ≤ 25 := by rcases hV.1 with e | e <;> rw [e] <;> decide
  refine sp_X10_event (by omega) hL hV hC.2.1 hC.2.2.1 (fun v1 y f1 a1 => ⟨y, rfl, hL, ?_⟩)
  have g1 : c_pk v v1 := f1.pk (by omega) (by omega)
  have hM1 := hM.of_c (v1 := v1) (fun b b1 b2 => g1 b (by omega))
  exact sp_X11_event (by omega) hL hV hM1.1 hM1.2.1 (fun v2 y2 f2 a2 => ⟨g_vi (a_evn_u h108 a2 a1), h _ _ (g_pk hC hM hP (e_T.rf hC.1) g1 f2.pk)⟩)
theorem gx_far (hd : 30 ≤ d) (hB : B.1 ≤ 999000) (hI : g_I B S v) (h : ∀ S2 v2, g_I B S2 v2 → K S2 v2) : z_J G d mX10_far (0, [.ref 0, .int x1, .int x2, .int x3], [], S, v) (fun r S1 v1 => ∃ y : Int32, r = some (.int y) ∧ z_L S1 ∧ z_J G d mX11_far (0, [.ref 223, .int x1, .int x2, .int x3], [], S1, v1) (fun r S2 v2 => r = some (.int y) ∧ K S2 v2)) := by
  obtain ⟨σ, hC, hM, hP⟩ := hI
  have hL := hC.1.1
  have hV := hP.1
  have h108 := n_B_le hV.1 hV.2.1
  have hd25 : σ.1 0 * σ.1 0 ≤ 25 := by rcases hV.1 with e | e <;> rw [e] <;> decide
  refine sp_X10_far (by omega) hL hV hC.2.1 hC.2.2.1 (fun v1 y f1 a1 => ⟨y, rfl, hL, ?_⟩)
  have g1 : c_pk v v1 := f1.pk (by omega) (by omega)
  have hM1 := hM.of_c (v1 := v1) (fun b b1 b2 => g1 b (by omega))
  exact sp_X11_far (by omega) hL hV hM1.1 hM1.2.1 (fun v2 y2 f2 a2 => ⟨g_vi (a_far_u h108 a2 a1), h _ _ (g_pk hC hM hP (e_T.rf hC.1) g1 f2.pk)⟩)
theorem gx_way (hd : 30 ≤ d) (hB : B.1 ≤ 999000) (hI : g_I B S v) (h : ∀ S2 v2, g_I B S2 v2 → K S2 v2) : z_J G d mX10_way (0, [.ref 0, .int x1, .int x2, .int x3, .int x4], [], S, v) (fun r S1 v1 => ∃ y : Int32, r = some (.int y) ∧ z_L S1 ∧ z_J G d mX11_way (0, [.ref 223, .int x1, .int x2, .int x3, .int x4], [], S1, v1) (fun r S2 v2 => r = some (.int y) ∧ K S2 v2)) := by
  obtain ⟨σ, hC, hM, hP⟩ := hI
  have hL := hC.1.1
  have hV := hP.1
  have h108 := n_B_le hV.1 hV.2.1
  have hd25 : σ.1 0 * σ.1 0 ≤ 25 := by rcases hV.1 with e | e <;> rw [e] <;> decide
  refine sp_X10_way (by omega) hL hV hC.2.1 hC.2.2.1 (fun v1 y f1 a1 => ⟨y, rfl, hL, ?_⟩)
  have g1 : c_pk v v1 := f1.pk (by omega) (by omega)
  have hM1 := hM.of_c (v1 := v1) (fun b b1 b2 => g1 b (by omega))
  exact sp_X11_way (by omega) hL hV hM1.1 hM1.2.1 (fun v2 y2 f2 a2 => ⟨g_vi (a_way_u h108 a2 a1), h _ _ (g_pk hC hM hP (e_T.rf hC.1) g1 f2.pk)⟩)
theorem gx_edges (hd : 30 ≤ d) (hB : B.1 ≤ 999000) (hI : g_I B S v) (h : ∀ S2 v2, g_I B S2 v2 → K S2 v2) : z_J G d mX10_edges (0, [.ref 0, .int x1], [], S, v) (fun r S1 v1 => ∃ y : Int32, r = some (.int y) ∧ z_L S1 ∧ z_J G d mX11_edges (0, [.ref 223, .int x1], [], S1, v1) (fun r S2 v2 => r = some (.int y) ∧ K S2 v2)) := by
  obtain ⟨σ, hC, hM, hP⟩ := hI
  have hL := hC.1.1
  have hV := hP.1
  have h108 := n_B_le hV.1 hV.2.1
  have hd25 : σ.1 0 * σ.1 0 ≤ 25 := by rcases hV.1 with e | e <;> rw [e] <;> decide
  refine sp_X10_edges (by omega) hL hV hC.2.1 hC.2.2.1 (fun v1 y f1 a1 => ⟨y, rfl, hL, ?_⟩)
  have g1 : c_pk v v1 := f1.pk (by omega) (by omega)
  have hM1 := hM.of_c (v1 := v1) (fun b b1 b2 => g1 b (by omega))
  exact sp_X11_edges (by omega) hL hV hM1.1 hM1.2.1 (fun v2 y2 f2 a2 => ⟨g_vi (a_eds_u a2 a1), h _ _ (g_pk hC hM hP (e_T.rf hC.1) g1 f2.pk)⟩)
theorem gx_pairings (hd : 30 ≤ d) (hB : B.1 ≤ 999000) (hI : g_I B S v) (h : ∀ S2 v2, g_I B S2 v2 → K S2 v2) : z_J G d mX10_pairings (0, [.ref 0, .int x1], [], S, v) (fun r S1 v1 => ∃ y : Int32, r = some (.int y) ∧ z_L S1 ∧ z_J G d mX11_pairings (0, [.ref 223, .int x1], [], S1, v1) (fun r S2 v2 => r = some (.int y) ∧ K S2 v2)) := by
  obtain ⟨σ, hC, hM, hP⟩ := hI
  have hL := hC.1.1
  have hV := hP.1
  have h108 := n_B_le hV.1 hV.2.1
  have hd25 : σ.1 0 * σ.1 0 ≤ 25 := by rcases hV.1 with e | e <;> rw [e] <;> decide
  refine sp_X10_pairings (by omega) hC.1 hB hV hC.2.1 hC.2.2.1 (fun S1 v1 y i1 R1 a1 f1 => ⟨y, rfl, i1.1, ?_⟩)
  have g1 : c_pk v v1 := fun b hb => f1 b (by omega)
  have hM1 := hM.of_c (v1 := v1) (fun b b1 b2 => g1 b (by omega))
  exact sp_X11_pairings (by omega) i1.1 hV hM1.1 hM1.2.1 (fun v2 y2 f2 a2 => ⟨g_vi (a_prs_u a2 a1), h _ _ (g_pk hC hM hP (R1.T i1) g1 f2)⟩)
theorem gx_blame (hd : 30 ≤ d) (hB : B.1 ≤ 999000) (hI : g_I B S v) (h : ∀ S2 v2, g_I B S2 v2 → K S2 v2) : z_J G d mX10_blame (0, [.ref 0, .int x1, .int x2, .int x3], [], S, v) (fun r S1 v1 => ∃ y : Int32, r = some (.int y) ∧ z_L S1 ∧ z_J G d mX11_blame (0, [.ref 223, .int x1, .int x2, .int x3], [], S1, v1) (fun r S2 v2 => r = some (.int y) ∧ K S2 v2)) := by
  obtain ⟨σ, hC, hM, hP⟩ := hI
  have hL := hC.1.1
  have hV := hP.1
  have h108 := n_B_le hV.1 hV.2.1
  have hd25 : σ.1 0 * σ.1 0 ≤ 25 := by rcases hV.1 with e | e <;> rw [e] <;> decide
  refine sp_X10_blame (by omega) hC.1 hB hV hC.2.1 hC.2.2.1 (fun S1 v1 y i1 R1 a1 f1 => ⟨y, rfl, i1.1, ?_⟩)
  have g1 : c_pk v v1 := fun b hb => f1 b (by omega)
  have hM1 := hM.of_c (v1 := v1) (fun b b1 b2 => g1 b (by omega))
  exact sp_X11_blame (by omega) i1.1 hV hM1.1 hM1.2.1 (fun v2 y2 f2 a2 => ⟨g_vi (a_kd_u (fun _ _ p q => a_bl_u hV p q) a2 a1), h _ _ (g_pk hC hM hP (R1.T i1) g1 f2)⟩)
theorem gx_correction (hd : 30 ≤ d) (hB : B.1 ≤ 999000) (hI : g_I B S v) (h : ∀ S2 v2, g_I B S2 v2 → K S2 v2) : z_J G d mX10_correction (0, [.ref 0, .int x1, .int x2], [], S, v) (fun r S1 v1 => ∃ y : Int32, r = some (.int y) ∧ z_L S1 ∧ z_J G d mX11_correction (0, [.ref 223, .int x1, .int x2], [], S1, v1) (fun r S2 v2 => r = some (.int y) ∧ K S2 v2)) := by
  obtain ⟨σ, hC, hM, hP⟩ := hI
  have hL := hC.1.1
  have hV := hP.1
  have h108 := n_B_le hV.1 hV.2.1
  have hd25 : σ.1 0 * σ.1 0 ≤ 25 := by rcases hV.1 with e | e <;> rw [e] <;> decide
  refine sp_X10_correction (by omega) hC.1 hB hV hC.2.1 hC.2.2.1 (fun S1 v1 y i1 R1 a1 f1 => ⟨y, rfl, i1.1, ?_⟩)
  have g1 : c_pk v v1 := fun b hb => f1 b (by omega)
  have hM1 := hM.of_c (v1 := v1) (fun b b1 b2 => g1 b (by omega))
  exact sp_X11_correction (by omega) i1.1 hV hM1.1 hM1.2.1 (fun v2 y2 f2 a2 => ⟨g_vi (a_kd_u (fun _ _ p q => a_co_u p q) a2 a1), h _ _ (g_pk hC hM hP (R1.T i1) g1 f2)⟩)
theorem gx_result (hd : 30 ≤ d) (hB : B.1 ≤ 999000) (hI : g_I B S v) (h : ∀ S2 v2, g_I B S2 v2 → K S2 v2) : z_J G d mX10_result (0, [.ref 0, .int x1, .int x2], [], S, v) (fun r S1 v1 => ∃ y : Int32, r = some (.int y) ∧ z_L S1 ∧ z_J G d mX11_result (0, [.ref 223, .int x1, .int x2], [], S1, v1) (fun r S2 v2 => r = some (.int y) ∧ K S2 v2)) := by
  obtain ⟨σ, hC, hM, hP⟩ := hI
  have hL := hC.1.1
  have hV := hP.1
  have h108 := n_B_le hV.1 hV.2.1
  have hd25 : σ.1 0 * σ.1 0 ≤ 25 := by rcases hV.1 with e | e <;> rw [e] <;> decide
  refine sp_X10_result (by omega) hC.1 hB hV hC.2.1 hC.2.2.1 (fun S1 v1 y i1 R1 a1 f1 => ⟨y, rfl, i1.1, ?_⟩)
  have g1 : c_pk v v1 := fun b hb => f1 b (by omega)
  have hM1 := hM.of_c (v1 := v1) (fun b b1 b2 => g1 b (by omega))
  exact sp_X11_result (by omega) i1.1 hV hM1.1 hM1.2.1 (fun v2 y2 f2 a2 => ⟨g_vi (a_kd_u (fun _ _ p q => a_re_u p q) a2 a1), h _ _ (g_pk hC hM hP (R1.T i1) g1 f2)⟩)
theorem gx_distance (hd : 30 ≤ d) (hB : B.1 ≤ 999000) (hI : g_I B S v) (h : ∀ S2 v2, g_I B S2 v2 → K S2 v2) : z_J G d mX10_distance (0, [.ref 0, .int x1], [], S, v) (fun r S1 v1 => ∃ y : Int32, r = some (.int y) ∧ z_L S1 ∧ z_J G d mX11_distance (0, [.ref 223, .int x1], [], S1, v1) (fun r S2 v2 => r = some (.int y) ∧ K S2 v2)) := by
  obtain ⟨σ, hC, hM, hP⟩ := hI
  have hL := hC.1.1
  have hV := hP.1
  have h108 := n_B_le hV.1 hV.2.1
  have hd25 : σ.1 0 * σ.1 0 ≤ 25 := by rcases hV.1 with e | e <;> rw [e] <;> decide
  refine sp_X10_distance (by omega) hL hV hC.2.1 hC.2.2.1 (fun v1 y g1 a1 => ⟨y, rfl, hL, ?_⟩)
  have hM1 := hM.of_c (v1 := v1) (fun b b1 b2 => g1 b (by omega))
  exact sp_X11_distance (by omega) hL hV hM1.1 hM1.2.1 (fun v2 y2 f2 a2 => ⟨g_vi (a_dst_u a2 a1), h _ _ (g_pk hC hM hP (e_T.rf hC.1) g1 f2)⟩)
theorem gx_like (hd : 30 ≤ d) (hB : B.1 ≤ 999000) (hI : g_I B S v) (h : ∀ S2 v2, g_I B S2 v2 → K S2 v2) : z_J G d mX10_like (0, [.ref 0, .int x1, .int x2, .int x3], [], S, v) (fun r S1 v1 => ∃ y : Int32, r = some (.int y) ∧ z_L S1 ∧ z_J G d mX11_like (0, [.ref 223, .int x1, .int x2, .int x3], [], S1, v1) (fun r S2 v2 => r = some (.int y) ∧ K S2 v2)) := by
  obtain ⟨σ, hC, hM, hP⟩ := hI
  have hL := hC.1.1
  have hV := hP.1
  have h108 := n_B_le hV.1 hV.2.1
  have hd25 : σ.1 0 * σ.1 0 ≤ 25 := by rcases hV.1 with e | e <;> rw [e] <;> decide
  refine sp_X10_like (by omega) hL hV hC.2.1 hC.2.2.1 (fun v1 y g1 a1 => ⟨y, rfl, hL, ?_⟩)
  have hM1 := hM.of_c (v1 := v1) (fun b b1 b2 => g1 b (by omega))
  exact sp_X11_like (by omega) hL hV hM1.1 hM1.2.1 (fun v2 y2 f2 a2 => ⟨g_vi (a_like_u hd25 a2 a1), h _ _ (g_pk hC hM hP (e_T.rf hC.1) g1 f2)⟩)
theorem gx_fewest (hd : 30 ≤ d) (hB : B.1 ≤ 999000) (hI : g_I B S v) (h : ∀ S2 v2, g_I B S2 v2 → K S2 v2) : z_J G d mX10_fewest (0, [.ref 0, .int x1, .int x2], [], S, v) (fun r S1 v1 => ∃ y : Int32, r = some (.int y) ∧ z_L S1 ∧ z_J G d mX11_fewest (0, [.ref 223, .int x1, .int x2, .null], [], S1, v1) (fun r S2 v2 => r = some (.int y) ∧ K S2 v2)) := by
  obtain ⟨σ, hC, hM, hP⟩ := hI
  have hL := hC.1.1
  have hV := hP.1
  have h108 := n_B_le hV.1 hV.2.1
  have hd25 : σ.1 0 * σ.1 0 ≤ 25 := by rcases hV.1 with e | e <;> rw [e] <;> decide
  refine sp_X10_fewest (by omega) hL hV hC.2.1 hC.2.2.1 (fun v1 y g1 a1 => ⟨y, rfl, hL, ?_⟩)
  have hM1 := hM.of_c (v1 := v1) (fun b b1 b2 => g1 b (by omega))
  exact sp_X11_fewest (by omega) hL hV hM1.1 hM1.2.1 (fun v2 y2 f2 a2 => ⟨g_vi (a_few_u a2 a1), h _ _ (g_pk hC hM hP (e_T.rf hC.1) g1 f2)⟩)
theorem gx_odds (hd : 30 ≤ d) (hB : B.1 ≤ 999000) (hI : g_I B S v) (h : ∀ S2 v2, g_I B S2 v2 → K S2 v2) : z_J G d mX10_odds (0, [.ref 0, .int x1, .int x2, .int x3, .int x4], [], S, v) (fun r S1 v1 => ∃ y : Int64, r = some (.long y) ∧ z_L S1 ∧ z_J G d mX11_odds (0, [.ref 223, .int x1, .int x2, .int x3, .int x4, .null, .null, .null, .null, .null, .null], [], S1, v1) (fun r S2 v2 => r = some (.long y) ∧ K S2 v2)) := by
  obtain ⟨σ, hC, hM, hP⟩ := hI
  have hL := hC.1.1
  have hV := hP.1
  have h108 := n_B_le hV.1 hV.2.1
  have hd25 : σ.1 0 * σ.1 0 ≤ 25 := by rcases hV.1 with e | e <;> rw [e] <;> decide
  refine sp_X10_odds (by omega) hL hV hC.2.1 hC.2.2.1 (fun v1 y g1 a1 => ⟨y, rfl, hL, ?_⟩)
  have hM1 := hM.of_c (v1 := v1) (fun b b1 b2 => g1 b (by omega))
  exact sp_X11_odds (by omega) hL hV hM1.1 hM1.2.1 (fun v2 y2 f2 a2 => ⟨g_vl (a_odd_u a2 a1), h _ _ (g_pk hC hM hP (e_T.rf hC.1) g1 f2)⟩)
theorem gx_now (hd : 30 ≤ d) (hB : B.1 ≤ 999000) (hI : g_I B S v) (h : ∀ S2 v2, g_I B S2 v2 → K S2 v2) : z_J G d mX10_now (0, [.ref 0, .int x1], [], S, v) (fun r S1 v1 => ∃ y : Int32, r = some (.int y) ∧ z_L S1 ∧ z_J G d mX11_now (0, [.ref 223, .int x1], [], S1, v1) (fun r S2 v2 => r = some (.int y) ∧ K S2 v2)) := by
  obtain ⟨σ, hC, hM, hP⟩ := hI
  have hL := hC.1.1
  have hV := hP.1
  have h108 := n_B_le hV.1 hV.2.1
  have hd25 : σ.1 0 * σ.1 0 ≤ 25 := by rcases hV.1 with e | e <;> rw [e] <;> decide
  refine sp_X10_now (by omega) hL hV hC.2.1 hC.2.2.1 hC.2.2.2.2.2.1.1 (fun y a1 => ⟨y, rfl, hL, ?_⟩)
  exact sp_X11_now (by omega) hL hV hM.1 hM.2.1 hM.2.2.2.2.1.1 (fun v2 y2 f2 a2 => ⟨g_vi (a_o_u a_nw_u a2 a1), h _ _ (g_pk hC hM hP (e_T.rf hC.1) c_pk.rf f2)⟩)
theorem gx_reading (hd : 30 ≤ d) (hB : B.1 ≤ 999000) (hI : g_I B S v) (h : ∀ S2 v2, g_I B S2 v2 → K S2 v2) : z_J G d mX10_reading (0, [.ref 0, .int x1, .int x2], [], S, v) (fun r S1 v1 => ∃ y : Int32, r = some (.int y) ∧ z_L S1 ∧ z_J G d mX11_reading (0, [.ref 223, .int x1, .int x2], [], S1, v1) (fun r S2 v2 => r = some (.int y) ∧ K S2 v2)) := by
  obtain ⟨σ, hC, hM, hP⟩ := hI
  have hL := hC.1.1
  have hV := hP.1
  have h108 := n_B_le hV.1 hV.2.1
  have hd25 : σ.1 0 * σ.1 0 ≤ 25 := by rcases hV.1 with e | e <;> rw [e] <;> decide
  refine sp_X10_reading (by omega) hL hV hC.2.2.1 (fun y a1 => ⟨y, rfl, hL, ?_⟩)
  exact sp_X11_reading (by omega) hL hV hM.1 (fun v2 y2 f2 a2 => ⟨g_vi (a_o_u (a_rdi_u hV.2.1) a2 a1), h _ _ (g_pk hC hM hP (e_T.rf hC.1) c_pk.rf f2)⟩)
theorem gx_fault (hd : 30 ≤ d) (hB : B.1 ≤ 999000) (hI : g_I B S v) (h : ∀ S2 v2, g_I B S2 v2 → K S2 v2) : z_J G d mX10_fault (0, [.ref 0], [], S, v) (fun r S1 v1 => ∃ y : Int32, r = some (.int y) ∧ z_L S1 ∧ z_J G d mX11_fault (0, [.ref 223], [], S1, v1) (fun r S2 v2 => r = some (.int y) ∧ K S2 v2)) := by
  obtain ⟨σ, hC, hM, hP⟩ := hI
  have hL := hC.1.1
  have hV := hP.1
  have h108 := n_B_le hV.1 hV.2.1
  have hd25 : σ.1 0 * σ.1 0 ≤ 25 := by rcases hV.1 with e | e <;> rw [e] <;> decide
  refine sp_X10_fault hL hC.2.2.2.2.2.2.1 ⟨_, rfl, hL, ?_⟩
  exact sp_X11_fault hL hM.2.2.2.2.2.1 (fun v2 e2 => ⟨rfl, h _ _ (g_pk hC hM hP (e_T.rf hC.1) c_pk.rf (by rw [e2]; exact m_f6.u0.pk))⟩)
theorem gx_partner (hd : 30 ≤ d) (hB : B.1 ≤ 999000) (hI : g_I B S v) (h : ∀ S2 v2, g_I B S2 v2 → K S2 v2) : z_J G d mX10_partner (0, [.ref 0, .int x1], [], S, v) (fun r S1 v1 => ∃ y : Int32, r = some (.int y) ∧ z_L S1 ∧ z_J G d mX11_partner (0, [.ref 223, .int x1], [], S1, v1) (fun r S2 v2 => r = some (.int y) ∧ K S2 v2)) := by
  obtain ⟨σ, hC, hM, hP⟩ := hI
  have hL := hC.1.1
  have hV := hP.1
  have h108 := n_B_le hV.1 hV.2.1
  have hd25 : σ.1 0 * σ.1 0 ≤ 25 := by rcases hV.1 with e | e <;> rw [e] <;> decide
  refine sp_X10_partner hL hC.2.2.2.2.2.2.2.1 (fun y a1 => ⟨y, rfl, hL, ?_⟩)
  exact sp_X11_partner (by omega) hL hM.2.2.2.2.2.2.1 (fun v2 y2 a2 e2 => ⟨g_vi (a_ix_u (by have := hC.2.2.2.2.2.2.2.1.2.1; omega) a2 a1), h _ _ (g_pk hC hM hP (e_T.rf hC.1) c_pk.rf (by rw [e2]; exact m_f6.u0.pk))⟩)
theorem gx_grown (hd : 30 ≤ d) (hB : B.1 ≤ 999000) (hI : g_I B S v) (h : ∀ S2 v2, g_I B S2 v2 → K S2 v2) : z_J G d mX10_grown (0, [.ref 0, .int x1], [], S, v) (fun r S1 v1 => ∃ y : Int32, r = some (.int y) ∧ z_L S1 ∧ z_J G d mX11_grown (0, [.ref 223, .int x1], [], S1, v1) (fun r S2 v2 => r = some (.int y) ∧ K S2 v2)) := by
  obtain ⟨σ, hC, hM, hP⟩ := hI
  have hL := hC.1.1
  have hV := hP.1
  have h108 := n_B_le hV.1 hV.2.1
  have hd25 : σ.1 0 * σ.1 0 ≤ 25 := by rcases hV.1 with e | e <;> rw [e] <;> decide
  refine sp_X10_grown hL hC.2.2.2.2.2.2.2.2.1 (fun y a1 => ⟨y, rfl, hL, ?_⟩)
  exact sp_X11_grown (by omega) hL hM.2.2.2.2.2.2.2.1 (fun v2 y2 a2 e2 => ⟨g_vi (a_grn_u a2 a1), h _ _ (g_pk hC hM hP (e_T.rf hC.1) c_pk.rf (by rw [e2]; exact m_f6.u0.pk))⟩)
theorem gx_peeledAt (hd : 30 ≤ d) (hB : B.1 ≤ 999000) (hI : g_I B S v) (h : ∀ S2 v2, g_I B S2 v2 → K S2 v2) : z_J G d mX10_peeledAt (0, [.ref 0, .int x1], [], S, v) (fun r S1 v1 => ∃ y : Int32, r = some (.int y) ∧ z_L S1 ∧ z_J G d mX11_peeledAt (0, [.ref 223, .int x1], [], S1, v1) (fun r S2 v2 => r = some (.int y) ∧ K S2 v2)) := by
  obtain ⟨σ, hC, hM, hP⟩ := hI
  have hL := hC.1.1
  have hV := hP.1
  have h108 := n_B_le hV.1 hV.2.1
  have hd25 : σ.1 0 * σ.1 0 ≤ 25 := by rcases hV.1 with e | e <;> rw [e] <;> decide
  refine sp_X10_peeledAt hL hC.2.2.2.2.2.2.2.2.1 (fun y a1 => ⟨y, rfl, hL, ?_⟩)
  exact sp_X11_peeledAt (by omega) hL hM.2.2.2.2.2.2.2.1 (fun v2 y2 a2 e2 => ⟨g_vi (a_at_u (by have := hC.2.2.2.2.2.2.2.2.1.2.2.2.2.1; omega) a2 a1), h _ _ (g_pk hC hM hP (e_T.rf hC.1) c_pk.rf (by rw [e2]; exact m_f6.u0.pk))⟩)
theorem gx_byteAt (hd : 30 ≤ d) (hB : B.1 ≤ 999000) (hI : g_I B S v) (h : ∀ S2 v2, g_I B S2 v2 → K S2 v2) : z_J G d mX10_byteAt (0, [.ref 0, .int x1], [], S, v) (fun r S1 v1 => ∃ y : Int32, r = some (.int y) ∧ z_L S1 ∧ z_J G d mX11_byteAt (0, [.ref 223, .int x1], [], S1, v1) (fun r S2 v2 => r = some (.int y) ∧ K S2 v2)) := by
  obtain ⟨σ, hC, hM, hP⟩ := hI
  have hL := hC.1.1
  have hV := hP.1
  have h108 := n_B_le hV.1 hV.2.1
  have hd25 : σ.1 0 * σ.1 0 ≤ 25 := by rcases hV.1 with e | e <;> rw [e] <;> decide
  refine sp_X10_byteAt hL hC.2.2.2.2.2.2.2.2.2 (fun y a1 => ⟨y, rfl, hL, ?_⟩)
  exact sp_X11_byteAt (by omega) hL hM.2.2.2.2.2.2.2.2 (fun v2 y2 a2 e2 => ⟨g_vi (a_at_u (by have := hC.2.2.2.2.2.2.2.2.2.2.1; omega) a2 a1), h _ _ (g_pk hC hM hP (e_T.rf hC.1) c_pk.rf (by rw [e2]; exact m_f6.u0.pk))⟩)
theorem gx_often (hd : 30 ≤ d) (hB : B.1 ≤ 999000) (hI : g_I B S v) (h : ∀ S2 v2, g_I B S2 v2 → K S2 v2) : z_J G d mX10_often (0, [.ref 0, .int x1, .int x2, .int x3, .int x4, .int x5, .int x6, .null, .null], [], S, v) (fun r S1 v1 => ∃ y : Int32, r = some (.int y) ∧ z_L S1 ∧ z_J G d mX11_often (0, [.ref 223, .int x1, .int x2, .int x3, .int x4, .int x5, .int x6, .null, .null, .null], [], S1, v1) (fun r S2 v2 => r = some (.int y) ∧ K S2 v2)) := by
  obtain ⟨σ, hC, hM, hP⟩ := hI
  have hL := hC.1.1
  have hV := hP.1
  have h108 := n_B_le hV.1 hV.2.1
  have hd25 : σ.1 0 * σ.1 0 ≤ 25 := by rcases hV.1 with e | e <;> rw [e] <;> decide
  obtain ⟨N, hN⟩ := p_Nex
  refine sp_X10_often hN (by omega) hC.1 hB hV hC.2.1 hC.2.2.1 (fun S1 v1 y a1 hT f1 => ⟨y, rfl, hT.1.1, ?_⟩)
  have hM1 := hM.of_c (v1 := v1) (fun b b1 b2 => f1 b (by omega))
  exact sp_X11_often hN (by omega) hT.1.1 hV hM1.1 hM1.2.1 hM1.2.2.1 (fun v2 y2 a2 K2 => ⟨g_vi (a_o_u a_ofc_u a2 a1), h _ _ ⟨σ, (hC.pk hT f1).of_m (fun b hb => K2.2.2.1 b (by omega)), hM1.hk K2.1 rfl K2.2.1 K2.2.2, hP⟩⟩)
theorem gx_press (hd : 30 ≤ d) (hB : B.1 ≤ 999000) (hI : g_I B S v) (h : ∀ S2 v2, g_I B S2 v2 → K S2 v2) : z_J G d mX10_press (0, [.ref 0, .int x1, .int x2, .null], [], S, v) (fun r S1 v1 => ∃ y : Int32, r = some (.int y) ∧ z_L S1 ∧ z_J G d mX11_press (0, [.ref 223, .int x1, .int x2], [], S1, v1) (fun r S2 v2 => r = some (.int y) ∧ K S2 v2)) := by
  obtain ⟨σ, hC, hM, hP⟩ := hI
  have hL := hC.1.1
  have hV := hP.1
  have h108 := n_B_le hV.1 hV.2.1
  have hd25 : σ.1 0 * σ.1 0 ≤ 25 := by rcases hV.1 with e | e <;> rw [e] <;> decide
  refine sp_X10_press (by omega) hC.1 hV hC.2.1 hC.2.2.1 hC.2.2.2.1 (fun S1 v1 P a1 k1 => ⟨k_y P, rfl, k1.2.2.1.1.1, ?_⟩)
  have hM1 := hM.of_c (v1 := v1) (fun b b1 b2 => k1.2.2.2 b (by omega))
  refine sp_X11_press (by omega) k1.2.2.1.1.1 hV hM1.1 hM1.2.1 hM1.2.2.1 (fun v2 P2 a2 k2 => ?_)
  obtain rfl : P2 = P := a_o_u (a_ck_u hV.1) a2 a1
  have V := a_press_V hV a2
  exact ⟨rfl, h _ _ (g_ks hC hM hP V.1 V.2 k1 k2)⟩
theorem gx_chain (hd : 30 ≤ d) (hB : B.1 ≤ 999000) (hI : g_I B S v) (h : ∀ S2 v2, g_I B S2 v2 → K S2 v2) : z_J G d mX10_chain (0, [.ref 0, .int x1], [], S, v) (fun r S1 v1 => ∃ y : Int32, r = some (.int y) ∧ z_L S1 ∧ z_J G d mX11_chain (0, [.ref 223, .int x1], [], S1, v1) (fun r S2 v2 => r = some (.int y) ∧ K S2 v2)) := by
  obtain ⟨σ, hC, hM, hP⟩ := hI
  have hL := hC.1.1
  have hV := hP.1
  have h108 := n_B_le hV.1 hV.2.1
  have hd25 : σ.1 0 * σ.1 0 ≤ 25 := by rcases hV.1 with e | e <;> rw [e] <;> decide
  refine sp_X10_chain (by omega) hC.1 hV hC.2.1 hC.2.2.1 hC.2.2.2.1 (fun S1 v1 P a1 k1 => ⟨k_y P, rfl, k1.2.2.1.1.1, ?_⟩)
  have hM1 := hM.of_c (v1 := v1) (fun b b1 b2 => k1.2.2.2 b (by omega))
  refine sp_X11_chain (by omega) k1.2.2.1.1.1 hV hM1.1 hM1.2.2.1 (fun v2 P2 a2 k2 => ?_)
  obtain rfl : P2 = P := a_o_u (a_kd1_u) a2 a1
  have V := a_chain_V hV a2
  exact ⟨rfl, h _ _ (g_ks hC hM hP V.1 V.2 k1 k2)⟩
theorem gx_correct (hd : 30 ≤ d) (hB : B.1 ≤ 999000) (hI : g_I B S v) (h : ∀ S2 v2, g_I B S2 v2 → K S2 v2) : z_J G d mX10_correct (0, [.ref 0, .int x1, .int x2, .null], [], S, v) (fun r S1 v1 => ∃ y : Int32, r = some (.int y) ∧ z_L S1 ∧ z_J G d mX11_correct (0, [.ref 223, .int x1, .int x2], [], S1, v1) (fun r S2 v2 => r = some (.int y) ∧ K S2 v2)) := by
  obtain ⟨σ, hC, hM, hP⟩ := hI
  have hL := hC.1.1
  have hV := hP.1
  have h108 := n_B_le hV.1 hV.2.1
  have hd25 : σ.1 0 * σ.1 0 ≤ 25 := by rcases hV.1 with e | e <;> rw [e] <;> decide
  refine sp_X10_correct (by omega) hC.1 hB hV hC.2.1 hC.2.2.1 hC.2.2.2.1 (fun S1 v1 P a1 k1 => ⟨k_y P, rfl, k1.2.2.1.1.1, ?_⟩)
  have hM1 := hM.of_c (v1 := v1) (fun b b1 b2 => k1.2.2.2 b (by omega))
  refine sp_X11_correct (by omega) k1.2.2.1.1.1 hV hM1.1 hM1.2.1 hM1.2.2.1 (fun v2 P2 a2 k2 => ?_)
  obtain rfl : P2 = P := a_o_u (a_khw_u) a2 a1
  have V := a_corr_V hV a2
  exact ⟨rfl, h _ _ (g_ks hC hM hP V.1 V.2 k1 k2)⟩
theorem gx_drawn (hd : 30 ≤ d) (hB : B.1 ≤ 999000) (hI : g_I B S v) (h : ∀ S2 v2, g_I B S2 v2 → K S2 v2) : z_J G d mX10_drawn (0, [.ref 0, .int x1, .int x2, .int x3], [], S, v) (fun r S1 v1 => ∃ y : Int32, r = some (.int y) ∧ z_L S1 ∧ z_J G d mX11_drawn (0, [.ref 223, .int x1, .int x2, .int x3], [], S1, v1) (fun r S2 v2 => r = some (.int y) ∧ K S2 v2)) := by
  obtain ⟨σ, hC, hM, hP⟩ := hI
  have hL := hC.1.1
  have hV := hP.1
  have h108 := n_B_le hV.1 hV.2.1
  have hd25 : σ.1 0 * σ.1 0 ≤ 25 := by rcases hV.1 with e | e <;> rw [e] <;> decide
  obtain ⟨N, hN⟩ := p_Nex
  refine sp_X10_drawn hN (by omega) hC.1 hV hC.2.1 hC.2.2.1 hC.2.2.2.1 (fun S1 v1 P a1 k1 => ⟨k_y P, rfl, k1.2.2.1.1.1, ?_⟩)
  have hM1 := hM.of_c (v1 := v1) (fun b b1 b2 => k1.2.2.2 b (by omega))
  refine sp_X11_drawn hN (by omega) k1.2.2.1.1.1 hV hM1.1 hM1.2.1 hM1.2.2.1 (fun v2 P2 a2 k2 => ?_)
  obtain rfl : P2 = P := a_o_u (a_cd_u) a2 a1
  have V := a_drawn_V hV a2
  exact ⟨rfl, h _ _ (g_ks hC hM hP V.1 V.2 k1 k2)⟩
theorem gx_undo (hd : 30 ≤ d) (hB : B.1 ≤ 999000) (hI : g_I B S v) (h : ∀ S2 v2, g_I B S2 v2 → K S2 v2) : z_J G d mX10_undo (0, [.ref 0], [], S, v) (fun r S1 v1 => ∃ y : Int32, r = some (.int y) ∧ z_L S1 ∧ z_J G d mX11_undo (0, [.ref 223], [], S1, v1) (fun r S2 v2 => r = some (.int y) ∧ K S2 v2)) := by
  obtain ⟨σ, hC, hM, hP⟩ := hI
  have hL := hC.1.1
  have hV := hP.1
  have h108 := n_B_le hV.1 hV.2.1
  have hd25 : σ.1 0 * σ.1 0 ≤ 25 := by rcases hV.1 with e | e <;> rw [e] <;> decide
  refine sp_X10_undo (by omega) hC.1 hC.2.2.1 hC.2.2.2.1 (fun S1 v1 F1 H1 T1 f1 => ⟨_, rfl, T1.1.1, ?_⟩)
  have hM1 := hM.of_c (v1 := v1) (fun b b1 b2 => f1 b (by omega))
  exact sp_X11_undo (by omega) T1.1.1 hM1.1 hM1.2.2.1 (fun v2 M2 H2 f2 => ⟨rfl, h _ _ ⟨_, (hC.hk F1 H1 T1 (fun b hb => f1 b (by omega))).of_m (fun b hb => f2.1 b (by omega)), hM1.hk M2 hP.undo.1 H2 f2, hP.undo.2⟩⟩)
theorem gx_code (hd : 30 ≤ d) (hB : B.1 ≤ 999000) (hI : g_I B S v) (h : ∀ S2 v2, g_I B S2 v2 → K S2 v2) : z_J G d mX10_code (0, [.ref 0, .int x1], [], S, v) (fun r S1 v1 => ∃ y : Int32, r = some (.int y) ∧ z_L S1 ∧ z_J G d mX11_code (0, [.ref 223, .int x1], [], S1, v1) (fun r S2 v2 => r = some (.int y) ∧ K S2 v2)) := by
  obtain ⟨σ, hC, hM, hP⟩ := hI
  have hL := hC.1.1
  have hV := hP.1
  have h108 := n_B_le hV.1 hV.2.1
  have hd25 : σ.1 0 * σ.1 0 ≤ 25 := by rcases hV.1 with e | e <;> rw [e] <;> decide
  refine sp_X10_code (by omega) hC.1 hC.2.1 hC.2.2.2.1 (fun S1 v1 D aD F1 H1 T1 f1 => ⟨_, rfl, T1.1.1, ?_⟩) (fun hn => ⟨_, rfl, hL, ?_⟩)
  · have hM1 := hM.of_c (v1 := v1) (fun b b1 b2 => f1 b (by omega))
    refine sp_X11_code (by omega) T1.1.1 hM1.2.2.1 (fun v2 D2 aD2 M2 T2 H2 f2 => ?_) (fun v2 hn _ => absurd ⟨D, aD⟩ hn)
    obtain rfl : D2 = D := a_szs_u _ _ aD2 aD
    exact ⟨rfl, h _ _ ⟨_, (hC.hk F1 H1 T1 (fun b hb => f1 b (by omega))).of_m (fun b hb => f2.1 b (by omega)), hM1.ck M2 T2 H2 f2, hP.new (p_nw_V aD.1)⟩⟩
  · exact sp_X11_code (by omega) hL hM.2.2.1 (fun v2 D2 aD2 _ _ _ _ => absurd ⟨D2, aD2⟩ hn) (fun v2 _ f2 => ⟨rfl, h _ _ (g_pk hC hM hP (e_T.rf hC.1) c_pk.rf f2)⟩)
theorem gx_restore (hd : 30 ≤ d) (hB : B.1 ≤ 999000) (hI : g_I B S v) (h : ∀ S2 v2, g_I B S2 v2 → K S2 v2) : z_J G d mX10_restore (0, [.ref 0, .int x1], [], S, v) (fun r S1 v1 => ∃ y : Int32, r = some (.int y) ∧ z_L S1 ∧ z_J G d mX11_restore (0, [.ref 223, .int x1], [], S1, v1) (fun r S2 v2 => r = some (.int y) ∧ K S2 v2)) := by
  obtain ⟨σ, hC, hM, hP⟩ := hI
  have hL := hC.1.1
  have hV := hP.1
  have h108 := n_B_le hV.1 hV.2.1
  have hd25 : σ.1 0 * σ.1 0 ≤ 25 := by rcases hV.1 with e | e <;> rw [e] <;> decide
  refine sp_X10_restore (by omega) hC.1 hC.2.2.2.1 hC.2.2.2.2.1 (fun S1 v1 k aD F1 H1 T1 f1 => ⟨_, rfl, T1.1.1, ?_⟩) (fun hn => ⟨_, rfl, hL, ?_⟩)
  · have hM1 := hM.of_c (v1 := v1) (fun b b1 b2 => f1 b (by omega))
    refine sp_X11_restore (by omega) T1.1.1 hM1.2.2.1 hM1.2.2.2.1 hP.2.2.1 (fun v2 k2 aD2 M2 T2 H2 f2 => ?_) (fun v2 hn _ => absurd ⟨k, aD⟩ hn)
    obtain rfl : k2 = k := (nI_eq (by have := aD2.1; omega) (by have := aD.1; omega)).mp (aD2.2.1.symm.trans aD.2.1)
    exact ⟨rfl, h _ _ ⟨_, (hC.hk F1 H1 T1 (fun b hb => f1 b (by omega))).of_m (fun b hb => f2.1 b (by omega)), hM1.ck M2 T2 H2 f2, hP.new ((hP.2.2.1 k2 aD2.1).2 aD2.2.2)⟩⟩
  · exact sp_X11_restore (by omega) hL hM.2.2.1 hM.2.2.2.1 hP.2.2.1 (fun v2 k2 aD2 _ _ _ _ => absurd ⟨k2, aD2⟩ hn) (fun v2 _ f2 => ⟨rfl, h _ _ (g_pk hC hM hP (e_T.rf hC.1) c_pk.rf f2)⟩)
theorem gx_feed (hd : 30 ≤ d) (hB : B.1 ≤ 999000) (hI : g_I B S v) (h : ∀ S2 v2, g_I B S2 v2 → K S2 v2) : z_J G d mX10_feed (0, [.ref 0, .int x1, .int x2, .int x3, .int x4, .int x5], [], S, v) (fun r S1 v1 => ∃ y : Int32, r = some (.int y) ∧ z_L S1 ∧ z_J G d mX11_feed (0, [.ref 223, .int x1, .int x2, .int x3, .int x4, .int x5], [], S1, v1) (fun r S2 v2 => r = some (.int y) ∧ K S2 v2)) := by
  obtain ⟨σ, hC, hM, hP⟩ := hI
  have hL := hC.1.1
  have hV := hP.1
  have h108 := n_B_le hV.1 hV.2.1
  have hd25 : σ.1 0 * σ.1 0 ≤ 25 := by rcases hV.1 with e | e <;> rw [e] <;> decide
  refine sp_X10_feed (by omega) hL hC.2.2.2.2.2.1 (fun v1 t1 f1 => ⟨_, rfl, hL, ?_⟩)
  have hM1 := hM.of_c (v1 := v1) (fun b b1 b2 => f1.1 b (by omega) (by omega))
  refine sp_X11_feed (by omega) hL hM1.2.2.2.2.1 (fun v2 t2 f2 => ⟨rfl, h _ _ ?_⟩)
  obtain ⟨-, c2, c3, c4, c5⟩ := hC.2.2.2.2.2
  obtain ⟨-, m2, m3, m4, m5⟩ := hM1.2.2.2.2
  have e198 := f1.1 198 (by omega) (by omega)
  refine ⟨(σ.1, σ.2.1, σ.2.2.1, (f_t σ.2.2.2.1 σ.2.2.2.2.1 x1 x2 x3 x4 x5, f_L σ.2.2.2.2.1, σ.2.2.2.2.2)), (hC.tt (T' := (f_t σ.2.2.2.1 σ.2.2.2.2.1 x1 x2 x3 x4 x5, f_L σ.2.2.2.2.1, σ.2.2.2.2.2)) (e_T.rf hC.1) (fun b hb => f1.1 b (by omega) (by omega)) ⟨t1, by rw [f1.2 1 (by omega)]; exact c2, c3.fr (by rw [e198]) (f1.1 _ (by omega) (by omega)), c4.fr (by rw [e198]) (by rw [e198]) (f1.1 _ (by omega) (by omega)) (f1.1 _ (by omega) (by omega)), c5.fr (by rw [e198]) (f1.1 _ (by omega) (by omega))⟩).of_m (fun b hb => f2.1 b (by omega) (by omega)), hM1.tt (T' := (f_t σ.2.2.2.1 σ.2.2.2.2.1 x1 x2 x3 x4 x5, f_L σ.2.2.2.2.1, σ.2.2.2.2.2)) (fun b hb => f2.1 b (by omega) (by omega)) (fun j hj => f2.2 j (by omega) (by omega)) ⟨t2, by rw [f2.2 20 (by omega) (by omega)]; exact m2, m3.fr (f2.2 _ (by omega) (by omega)) (f2.1 _ (by omega) (by omega)), m4.fr (f2.2 _ (by omega) (by omega)) (f2.1 _ (by omega) (by omega)) (f2.1 _ (by omega) (by omega)), m5.fr (f2.2 _ (by omega) (by omega)) (f2.1 _ (by omega) (by omega))⟩, hP.1, hP.2.1, hP.2.2.1, ?_⟩
  show ∀ i, f_t _ _ _ _ _ _ _ i < 256
  unfold f_t
  split
  · exact t_fd_lt hP.2.2.2
  · exact hP.2.2.2
theorem gx_end (hd : 30 ≤ d) (hB : B.1 ≤ 999000) (hI : g_I B S v) (h : ∀ S2 v2, g_I B S2 v2 → K S2 v2) : z_J G d mX10_end (0, [.ref 0, .int x1], [], S, v) (fun r S1 v1 => ∃ y : Int32, r = some (.int y) ∧ z_L S1 ∧ z_J G d mX11_end (0, [.ref 223, .int x1], [], S1, v1) (fun r S2 v2 => r = some (.int y) ∧ K S2 v2)) := by
  obtain ⟨σ, hC, hM, hP⟩ := hI
  have hL := hC.1.1
  have hV := hP.1
  have h108 := n_B_le hV.1 hV.2.1
  have hd25 : σ.1 0 * σ.1 0 ≤ 25 := by rcases hV.1 with e | e <;> rw [e] <;> decide
  refine sp_X10_end hL hC.2.2.2.2.2.1 (fun v1 n a1 t1 f1 => ⟨_, rfl, hL, ?_⟩) (fun hn => ⟨_, rfl, hL, ?_⟩)
  · have hM1 := hM.of_c (v1 := v1) (fun b b1 b2 => f1.1 b (by omega) (by omega))
    have hLl := hC.2.2.2.2.2.1.2.1
    refine sp_X11_end hL hM1.2.2.2.2.1 (fun v2 n2 a2 t2 f2 => ⟨rfl, h _ _ ?_⟩) (fun v2 hn _ => absurd ⟨n, a1⟩ hn)
    obtain rfl : n2 = n := (nI_eq (by have := a2.1; omega) (by have := a1.1; omega)).mp (a2.2.symm.trans a1.2)
    obtain ⟨-, c2, c3, c4, c5⟩ := hC.2.2.2.2.2
    obtain ⟨-, m2, m3, m4, m5⟩ := hM1.2.2.2.2
    have e198 := f1.1 198 (by omega) (by omega)
    exact ⟨(σ.1, σ.2.1, σ.2.2.1, (σ.2.2.2.1, n2, σ.2.2.2.2.2)), (hC.tt (T' := (σ.2.2.2.1, n2, σ.2.2.2.2.2)) (e_T.rf hC.1) (fun b hb => f1.1 b (by omega) (by omega)) ⟨t1, by rw [f1.2 1 (by omega)]; exact c2, c3.fr (by rw [e198]) (f1.1 _ (by omega) (by omega)), c4.fr (by rw [e198]) (by rw [e198]) (f1.1 _ (by omega) (by omega)) (f1.1 _ (by omega) (by omega)), c5.fr (by rw [e198]) (f1.1 _ (by omega) (by omega))⟩).of_m (fun b hb => f2.1 b (by omega) (by omega)), hM1.tt (T' := (σ.2.2.2.1, n2, σ.2.2.2.2.2)) (fun b hb => f2.1 b (by omega) (by omega)) (fun j hj => f2.2 j (by omega) (by omega)) ⟨t2, by rw [f2.2 20 (by omega) (by omega)]; exact m2, m3.fr (f2.2 _ (by omega) (by omega)) (f2.1 _ (by omega) (by omega)), m4.fr (f2.2 _ (by omega) (by omega)) (f2.1 _ (by omega) (by omega)) (f2.1 _ (by omega) (by omega)), m5.fr (f2.2 _ (by omega) (by omega)) (f2.1 _ (by omega) (by omega))⟩, hP⟩
  · exact sp_X11_end hL hM.2.2.2.2.1 (fun v2 n2 a2 _ _ => absurd ⟨n2, a2⟩ hn) (fun v2 _ e2 => ⟨rfl, h _ _ (g_pk hC hM hP (e_T.rf hC.1) c_pk.rf (by rw [e2]; exact m_f6.u0.pk))⟩)
theorem gx_work (hd : 30 ≤ d) (hB : B.1 ≤ 999000) (hI : g_I B S v) (h : ∀ S2 v2, g_I B S2 v2 → K S2 v2) : z_J G d mX10_work (0, [.ref 0, .null], [], S, v) (fun r S1 v1 => ∃ y : Int32, r = some (.int y) ∧ z_L S1 ∧ z_J G d mX11_work (0, [.ref 223], [], S1, v1) (fun r S2 v2 => r = some (.int y) ∧ K S2 v2)) := by
  obtain ⟨σ, hC, hM, hP⟩ := hI
  have hL := hC.1.1
  have hV := hP.1
  have h108 := n_B_le hV.1 hV.2.1
  have hd25 : σ.1 0 * σ.1 0 ≤ 25 := by rcases hV.1 with e | e <;> rw [e] <;> decide
  refine sp_X10_work (by omega) hC.1 hV hC.2.1 hC.2.2.1 hC.2.2.2.1 hP.2.2.2 hC.2.2.2.2.2.1 (fun S1 v1 F1 H1 V1 Z1 T1 l1 k1 f1 => ⟨_, rfl, T1.1.1, ?_⟩)
  have hM1 := hM.of_c (v1 := v1) (fun b b1 b2 => f1 b (by omega))
  refine sp_X11_work (by omega) T1.1.1 hV hM1.1 hM1.2.1 hM1.2.2.1 hP.2.2.2 hM1.2.2.2.2.1 (fun v2 M2 H2 l2 k2 f2 => ⟨rfl, h _ _ ?_⟩)
  obtain ⟨-, -, c3, c4, c5⟩ := hC.2.2.2.2.2
  obtain ⟨-, -, m3, m4, m5⟩ := hM1.2.2.2.2
  have e198 := f1 198 (by omega)
  generalize wk_r σ.2.2.2.1 σ.2.2.2.2.1 σ.1 = W at *
  have q := hP.ks V1 Z1
  refine ⟨(k_ρ (wk_P σ.1 W) σ.1, (k_n (wk_P σ.1 W) σ.2.1.1, k_r (wk_P σ.1 W) σ.1 σ.2.1.2), σ.2.2.1, (σ.2.2.2.1, 0, wk_f W, σ.2.2.2.2.2.2)), CI.of_m (v := v1) ⟨T1.1, hC.2.1.fr (fun a _ _ => f1 a (by omega)), F1, H1, hC.2.2.2.2.1.fr T1 (by omega) (fun a _ => f1 a (by omega)), ⟨l1, Nat.zero_le _, fun i hi => absurd hi (Nat.not_lt_zero i)⟩, k1, c3.fr (by rw [e198]) (f1 _ (by omega)), c4.fr (by rw [e198]) (by rw [e198]) (f1 _ (by omega)) (f1 _ (by omega)), c5.fr (by rw [e198]) (f1 _ (by omega))⟩ (fun b hb => f2.1 b (by omega)), ⟨M2, ?_, H2, hM1.2.2.2.1.fr (f2.1 225 (by omega)) (f2.1 228 (by omega)), ⟨l2, Nat.zero_le _, fun i hi => absurd hi (Nat.not_lt_zero i)⟩, k2, m3.fr (f2.2 _ (by omega)) (f2.1 _ (by omega)), m4.fr (f2.2 _ (by omega)) (f2.1 _ (by omega)) (f2.1 _ (by omega)), m5.fr (f2.2 _ (by omega)) (f2.1 _ (by omega))⟩, q⟩
  show p_MT v2 (k_ρ (wk_P σ.1 W) σ.1 0)
  rw [Z1]
  exact hM1.2.1.fr (f2.2 14 (by omega)) (fun a _ _ => f2.1 a (by omega))
theorem gx_pair (hd : 30 ≤ d) (hB : B.1 ≤ 999000) (hI : g_I B S v) (h : ∀ S2 v2, g_I B S2 v2 → K S2 v2) : z_J G d mX10_pair (0, [.ref 0, .int x1], [], S, v) (fun r S1 v1 => ∃ y : Int32, r = some (.int y) ∧ z_L S1 ∧ z_J G d mX11_pair (0, [.ref 223, .int x1, .null], [], S1, v1) (fun r S2 v2 => r = some (.int y) ∧ K S2 v2)) := by
  obtain ⟨σ, hC, hM, hP⟩ := hI
  have hL := hC.1.1
  have hV := hP.1
  have h108 := n_B_le hV.1 hV.2.1
  have hd25 : σ.1 0 * σ.1 0 ≤ 25 := by rcases hV.1 with e | e <;> rw [e] <;> decide
  refine sp_X10_pair (by omega) hC.1 hB hV hC.2.1 hC.2.2.1 hC.2.2.2.2.2.2.2.1 (fun S1 v1 y n1 m1 i1 R1 a1 t1 f1 j1 => ⟨y, rfl, i1.1, ?_⟩)
  have hM1 := hM.of_c (v1 := v1) (fun b b1 b2 => f1 b (by omega))
  refine sp_X11_pair (by omega) i1.1 hV hM1.1 hM1.2.1 hM1.2.2.2.2.2.2.1 (fun v2 y2 n2 m2 a2 t2 f2 j2 => ?_)
  obtain ⟨rfl, rfl, rfl⟩ := a_pair_u a2 a1
  obtain ⟨c1, c2, -, c4, c5⟩ := hC.2.2.2.2.2
  obtain ⟨q1, q2, -, q4, q5⟩ := hM1.2.2.2.2
  have e141 := f1 141 (by omega)
  exact ⟨rfl, h _ _ ⟨(σ.1, σ.2.1, σ.2.2.1, (σ.2.2.2.1, σ.2.2.2.2.1, σ.2.2.2.2.2.1, (n2, m2), σ.2.2.2.2.2.2.2)), (hC.tt (T' := (σ.2.2.2.1, σ.2.2.2.2.1, σ.2.2.2.2.2.1, (n2, m2), σ.2.2.2.2.2.2.2)) (R1.T i1) (fun b hb => f1 b (by omega)) ⟨c1.fr (by rw [e141]) (f1 _ (by omega)), by rw [e141]; exact c2, t1, c4.fr (j1 _ (by omega)) (j1 _ (by omega)) (f1 _ (by omega)) (f1 _ (by omega)), c5.fr (j1 _ (by omega)) (f1 _ (by omega))⟩).of_m (fun b hb => f2 b (by omega)), hM1.tt (T' := (σ.2.2.2.1, σ.2.2.2.2.1, σ.2.2.2.2.2.1, (n2, m2), σ.2.2.2.2.2.2.2)) (fun b hb => f2 b (by omega)) (fun j hj => j2 j (by unfold m_pf; omega) (by omega)) ⟨q1.fr (j2 _ (by unfold m_pf; omega) (by omega)) (f2 _ (by omega)), by rw [j2 20 (by unfold m_pf; omega) (by omega)]; exact q2, t2, q4.fr (j2 _ (by unfold m_pf; omega) (by omega)) (f2 _ (by omega)) (f2 _ (by omega)), q5.fr (j2 _ (by unfold m_pf; omega) (by omega)) (f2 _ (by omega))⟩, hP⟩⟩
theorem gx_grow (hd : 30 ≤ d) (hB : B.1 ≤ 999000) (hI : g_I B S v) (h : ∀ S2 v2, g_I B S2 v2 → K S2 v2) : z_J G d mX10_grow (0, [.ref 0, .int x1], [], S, v) (fun r S1 v1 => ∃ y : Int32, r = some (.int y) ∧ z_L S1 ∧ z_J G d mX11_grow (0, [.ref 223, .int x1, .null, .null], [], S1, v1) (fun r S2 v2 => r = some (.int y) ∧ K S2 v2)) := by
  obtain ⟨σ, hC, hM, hP⟩ := hI
  have hL := hC.1.1
  have hV := hP.1
  have h108 := n_B_le hV.1 hV.2.1
  have hd25 : σ.1 0 * σ.1 0 ≤ 25 := by rcases hV.1 with e | e <;> rw [e] <;> decide
  refine sp_X10_grow (by omega) hL hV hC.2.1 hC.2.2.1 hC.2.2.2.2.2.2.2.2.1 (fun v1 y g1 t1 l1 a1 T1 f1 j1 => ⟨y, rfl, hL, ?_⟩)
  have hM1 := hM.of_c (v1 := v1) (fun b b1 b2 => f1 b (by omega))
  refine sp_X11_grow (by omega) hL hV hM1.1 hM1.2.1 hM1.2.2.2.2.2.2.2.1 (fun v2 y2 g2 t2 l2 a2 T2 f2 j2 => ?_)
  obtain ⟨rfl, rfl, rfl, rfl⟩ := a_grow_u a2 a1
  obtain ⟨c1, c2, c3, -, c5⟩ := hC.2.2.2.2.2
  obtain ⟨q1, q2, q3, -, q5⟩ := hM1.2.2.2.2
  have e141 := f1 141 (by omega)
  exact ⟨rfl, h _ _ ⟨(σ.1, σ.2.1, σ.2.2.1, (σ.2.2.2.1, σ.2.2.2.2.1, σ.2.2.2.2.2.1, σ.2.2.2.2.2.2.1, (g2, t2, l2), σ.2.2.2.2.2.2.2.2)), (hC.tt (T' := (σ.2.2.2.1, σ.2.2.2.2.1, σ.2.2.2.2.2.1, σ.2.2.2.2.2.2.1, (g2, t2, l2), σ.2.2.2.2.2.2.2.2)) (e_T.rf hC.1) (fun b hb => f1 b (by omega)) ⟨c1.fr (by rw [e141]) (f1 _ (by omega)), by rw [e141]; exact c2, c3.fr (j1 _ (by omega) (by omega)) (f1 _ (by omega)), T1, c5.fr (j1 _ (by omega) (by omega)) (f1 _ (by omega))⟩).of_m (fun b hb => f2 b (by omega)), hM1.tt (T' := (σ.2.2.2.1, σ.2.2.2.2.1, σ.2.2.2.2.2.1, σ.2.2.2.2.2.2.1, (g2, t2, l2), σ.2.2.2.2.2.2.2.2)) (fun b hb => f2 b (by omega)) (fun j hj => j2 j (by unfold m_pf; omega) (by omega)) ⟨q1.fr (j2 _ (by unfold m_pf; omega) (by omega)) (f2 _ (by omega)), by rw [j2 20 (by unfold m_pf; omega) (by omega)]; exact q2, q3.fr (j2 _ (by unfold m_pf; omega) (by omega)) (f2 _ (by omega)), T2, q5.fr (j2 _ (by unfold m_pf; omega) (by omega)) (f2 _ (by omega))⟩, hP⟩⟩
theorem gx_line (hd : 30 ≤ d) (hB : B.1 ≤ 999000) (hI : g_I B S v) (h : ∀ S2 v2, g_I B S2 v2 → K S2 v2) : z_J G d mX10_line (0, [.ref 0, .int x1], [], S, v) (fun r S1 v1 => ∃ y : Int32, r = some (.int y) ∧ z_L S1 ∧ z_J G d mX11_line (0, [.ref 223, .int x1, .null], [], S1, v1) (fun r S2 v2 => r = some (.int y) ∧ K S2 v2)) := by
  obtain ⟨σ, hC, hM, hP⟩ := hI
  have hL := hC.1.1
  have hV := hP.1
  have h108 := n_B_le hV.1 hV.2.1
  have hd25 : σ.1 0 * σ.1 0 ≤ 25 := by rcases hV.1 with e | e <;> rw [e] <;> decide
  refine sp_X10_line (by omega) hL hV hC.2.1 hC.2.2.1 (fun v1 r a1 t1 f1 j1 => ⟨_, rfl, hL, ?_⟩) (fun hn => ⟨_, rfl, hL, ?_⟩)
  · have hM1 := hM.of_c (v1 := v1) (fun b b1 b2 => f1 b (by omega) (by omega))
    refine sp_X11_line (by omega) hL hV hM1.1 (fun v2 r2 a2 t2 f2 j2 => ⟨rfl, h _ _ ?_⟩) (fun v2 hn _ => absurd ⟨r, a1⟩ hn)
    obtain rfl : r2 = r := a_ln_u hV.1 _ _ a2 a1
    obtain ⟨c1, c2, c3, c4, -⟩ := hC.2.2.2.2.2
    obtain ⟨q1, q2, q3, q4, -⟩ := hM1.2.2.2.2
    have e141 := f1 141 (by omega) (by omega)
    exact ⟨(σ.1, σ.2.1, σ.2.2.1, (σ.2.2.2.1, σ.2.2.2.2.1, σ.2.2.2.2.2.1, σ.2.2.2.2.2.2.1, σ.2.2.2.2.2.2.2.1, s_ls σ.1 r2)), (hC.tt (T' := (σ.2.2.2.1, σ.2.2.2.2.1, σ.2.2.2.2.2.1, σ.2.2.2.2.2.2.1, σ.2.2.2.2.2.2.2.1, s_ls σ.1 r2)) (e_T.rf hC.1) (fun b hb => f1 b (by omega) (by omega)) ⟨c1.fr (by rw [e141]) (f1 _ (by omega) (by omega)), by rw [e141]; exact c2, c3.fr (j1 _ (by omega)) (f1 _ (by omega) (by omega)), c4.fr (j1 _ (by omega)) (j1 _ (by omega)) (f1 _ (by omega) (by omega)) (f1 _ (by omega) (by omega)), t1⟩).of_m (fun b hb => f2 b (by omega) (by omega)), hM1.tt (T' := (σ.2.2.2.1, σ.2.2.2.2.1, σ.2.2.2.2.2.1, σ.2.2.2.2.2.2.1, σ.2.2.2.2.2.2.2.1, s_ls σ.1 r2)) (fun b hb => f2 b (by omega) (by omega)) (fun j hj => j2 j (by omega) (by omega)) ⟨q1.fr (j2 _ (by omega) (by omega)) (f2 _ (by omega) (by omega)), by rw [j2 20 (by omega) (by omega)]; exact q2, q3.fr (j2 _ (by omega) (by omega)) (f2 _ (by omega) (by omega)), q4.fr (j2 _ (by omega) (by omega)) (f2 _ (by omega) (by omega)) (f2 _ (by omega) (by omega)), t2⟩, hP⟩
  · exact sp_X11_line (by omega) hL hV hM.1 (fun v2 r2 a2 _ _ _ => absurd ⟨r2, a2⟩ hn) (fun v2 _ e2 => ⟨rfl, h _ _ (g_pk hC hM hP (e_T.rf hC.1) c_pk.rf (by rw [e2]; exact m_f6.u0.pk))⟩)
theorem gx_image (hd : 30 ≤ d) (hB : B.1 ≤ 999000) (hI : g_I B S v) (h : ∀ S2 v2, g_I B S2 v2 → K S2 v2) : z_J G d mX10_image (0, [.ref 0, .int x1], [], S, v) (fun r S1 v1 => ∃ y : Int32, r = some (.int y) ∧ z_L S1 ∧ z_J G d mX11_image (0, [.ref 223, .int x1], [], S1, v1) (fun r S2 v2 => r = some (.int y) ∧ K S2 v2)) := by
  obtain ⟨σ, hC, hM, hP⟩ := hI
  have hL := hC.1.1
  have hV := hP.1
  have h108 := n_B_le hV.1 hV.2.1
  have hd25 : σ.1 0 * σ.1 0 ≤ 25 := by rcases hV.1 with e | e <;> rw [e] <;> decide
  refine sp_X10_image (by omega) hC.1 hC.2.2.1 (fun v1 k hk e1 F1 i1 o1 f1 => ⟨_, rfl, (hC.1.cp (zF_img hk)).1, ?_⟩) (fun hn => ⟨_, rfl, hL, ?_⟩)
  · have hM1 := hM.of_c (v1 := v1) (fun b b1 b2 => f1 b (by omega) (by omega))
    have hT : e_T B (203 + 10 * k) (203 + 10 * k) S (e_Cp S (203 + 10 * k) 37) := hC.1.T (zF_img hk) (Nat.le_refl _) (Nat.le_refl _)
    refine sp_X11_image (by omega) hT.1.1 hM1.1 (fun v2 k2 hk2 e2 p2 r2 i2 o2 f2 j2 => ⟨rfl, h _ _ ?_⟩) (fun v2 hn _ => absurd ⟨k, hk, e1⟩ hn)
    obtain rfl : k2 = k := (nI_eq (by omega) (by omega)).mp (e2.symm.trans e1)
    refine ⟨(σ.1, σ.2.1, ((fun i => if i = k2 then 1 else σ.2.2.1.1 i), (fun i => if i = k2 then σ.1 else σ.2.2.1.2 i)), σ.2.2.2), CI.of_m (v := v1) ⟨hT.1, hC.2.1.fr (fun a _ _ => f1 a (by omega) (by omega)), hT.F zF_37 (by omega) (hC.2.2.1.fr (fun a _ _ => f1 a (by omega) (by omega))), hC.2.2.2.1.fr hT (by omega) (fun a _ _ => f1 a (by omega) (by omega)), fun k3 hk3 => ?_, hC.2.2.2.2.2.fr (fun b _ => f1 b (by omega) (by omega))⟩ (fun b hb => f2 b (by omega) (by omega) (by omega)), ⟨hM1.1.fr (f2 224 (by omega) (by omega) (by omega)), hM1.2.1.fr (j2 14 (by omega)) (fun a _ _ => f2 a (by omega) (by omega) (by omega)), hM1.2.2.1.fr (j2 6 (by omega)) (f2 226 (by omega) (by omega) (by omega)), fun k3 hk3 => ?_, hM1.2.2.2.2.fr (fun b _ => f2 b (by omega) (by omega) (by omega)) (fun j _ => j2 j (by omega))⟩, hP.1, hP.2.1, fun k3 hk3 => ?_, hP.2.2.2⟩
    · by_cases e : k3 = k2
      · subst e
        show (if k3 = k3 then 1 else _) ≤ 1 ∧ v1 58 k3 = nI (if k3 = k3 then 1 else _) ∧ ((if k3 = k3 then 1 else _) = 1 → p_F _ v1 _ (if k3 = k3 then σ.1 else _))
        rw [if_pos rfl, if_pos rfl]
        exact ⟨Nat.le_refl _, i1, fun _ => F1⟩
      · obtain ⟨c1, c2, c3⟩ := hC.2.2.2.2.1 k3 hk3
        show (if k3 = k2 then 1 else _) ≤ 1 ∧ v1 58 k3 = nI (if k3 = k2 then 1 else _) ∧ ((if k3 = k2 then 1 else _) = 1 → p_F _ v1 _ (if k3 = k2 then σ.1 else _))
        rw [if_neg e, if_neg e, o1 k3 e]
        exact ⟨c1, c2, fun z => hT.F (zF_img hk3) (by omega) ((c3 z).fr (fun a _ _ => f1 a (by omega) (by omega)))⟩
    · by_cases e : k3 = k2
      · subst e
        show v2 228 k3 = nI (if k3 = k3 then 1 else _) ∧ ((if k3 = k3 then 1 else _) = 1 → ∀ j, j < 71 → v2 225 _ = nI ((if k3 = k3 then σ.1 else _) j))
        rw [if_pos rfl, if_pos rfl]
        exact ⟨i2, fun _ => p2⟩
      · obtain ⟨c2, c3⟩ := hM1.2.2.2.1 k3 hk3
        show v2 228 k3 = nI (if k3 = k2 then 1 else _) ∧ ((if k3 = k2 then 1 else _) = 1 → ∀ j, j < 71 → v2 225 _ = nI ((if k3 = k2 then σ.1 else _) j))
        rw [if_neg e, if_neg e, o2 k3 e]
        exact ⟨c2, fun z j hj => by rw [r2 (71 * k3 + j) (by omega)]; exact c3 z j hj⟩
    · show (if k3 = k2 then 1 else _) ≤ 1 ∧ ((if k3 = k2 then 1 else _) = 1 → p_V (if k3 = k2 then σ.1 else _))
      by_cases e : k3 = k2
      · rw [if_pos e, if_pos e]; exact ⟨Nat.le_refl _, fun _ => hV⟩
      · rw [if_neg e, if_neg e]; exact hP.2.2.1 k3 hk3
  · exact sp_X11_image (by omega) hL hM.1 (fun v2 k2 hk2 e2 _ _ _ _ _ _ => absurd ⟨k2, hk2, e2⟩ hn) (fun v2 _ e2 => ⟨rfl, h _ _ (g_pk hC hM hP (e_T.rf hC.1) c_pk.rf (by rw [e2]; exact m_f6.u0.pk))⟩)
end GX
