/-! rows stay valid over every call that changes them -/
theorem p_V_up22 {ρ : Nat → Nat} {q x : Nat} (h : p_V ρ) (hq : q < 25) (hx : 1 ≤ x ∧ x ≤ 9) : p_V (p_up ρ (22 + q) x) := by
  obtain ⟨h0, h1, h2, h3⟩ := h
  have e0 : p_up ρ (22 + q) x 0 = ρ 0 := p_un (by omega)
  refine ⟨by rw [e0]; exact h0, by rw [p_un (by omega)]; exact h1, fun c hc => ?_, fun k hk => ?_⟩
  · rw [e0]
    obtain ⟨a1, a2, a3, a4⟩ := h2 c hc
    exact ⟨by rw [p_un (by omega)]; exact a1, by rw [p_un (by omega)]; exact a2, fun t ht => by rw [p_un (by omega)]; exact a3 t ht, fun k hk => by rw [p_un (by omega)]; exact a4 k hk⟩
  · by_cases e : k = q
    · rw [p_ue (by omega)]; exact hx
    · rw [p_un (by omega)]; exact h3 k hk
theorem p_V_up47 {ρ : Nat → Nat} {κ k x : Nat} (h : p_V ρ) (hκ : κ < 2) (hk : k < 12) (hx : 1 ≤ x ∧ x ≤ 9) : p_V (p_up ρ (47 + 12 * κ + k) x) := by
  obtain ⟨h0, h1, h2, h3⟩ := h
  have e0 : p_up ρ (47 + 12 * κ + k) x 0 = ρ 0 := p_un (by omega)
  refine ⟨by rw [e0]; exact h0, by rw [p_un (by omega)]; exact h1, fun c hc => ?_, fun q hq => by rw [p_un (by omega)]; exact h3 q hq⟩
  rw [e0]
  obtain ⟨a1, a2, a3, a4⟩ := h2 c hc
  refine ⟨by rw [p_un (by omega)]; exact a1, by rw [p_un (by omega)]; exact a2, fun t ht => by rw [p_un (by omega)]; exact a3 t ht, fun k' hk' => ?_⟩
  by_cases e : c = κ ∧ k' = k
  · rw [p_ue (by omega)]; exact hx
  · rw [p_un (by omega)]; exact a4 k' hk'
theorem d_r_V {ρ : Nat → Nat} {s : Nat × Nat × Nat × Nat} (hV : p_V ρ) (hs : d_ok (ρ 0) s) : p_V (d_r ρ s) ∧ d_r ρ s 0 = ρ 0 := by
  have hK := t_Kle hV.1
  obtain ⟨s1, s2, s3, s4⟩ := hs
  unfold d_r
  by_cases e0 : s.1 = 0
  · rw [if_pos e0]
    exact ⟨p_V_sl hV (by omega) (d_q_lt hV.1 (s2 (by omega))).1, p_sl_o (by omega)⟩
  rw [if_neg e0]
  by_cases e1 : s.1 = 1
  · rw [if_pos e1]
    exact ⟨p_V_sl hV (by omega) (d_q_lt hV.1 (s2 (by omega))).1, p_sl_o (by omega)⟩
  rw [if_neg e1]
  by_cases e2 : s.1 = 2
  · rw [if_pos e2]
    have hq := (d_q_lt hV.1 (s2 (by omega))).1
    have z : p_sl ρ 0 (d_q ρ s) 0 = ρ 0 := p_sl_o (by omega)
    exact ⟨p_V_sl (p_V_sl hV (by omega) hq) (by omega) (by rw [z]; exact hq), (p_sl_o (by omega)).trans z⟩
  rw [if_neg e2]
  by_cases e3 : s.1 = 3
  · rw [if_pos e3]
    obtain ⟨b1, b2⟩ := s3 (by omega)
    exact ⟨p_V_up4 hV b1 (Nat.xor_lt_two_pow (hV.2.2.1 _ b1).2.1 (Nat.pow_lt_pow_right (by omega) b2)), p_un (by omega)⟩
  rw [if_neg e3]
  by_cases e4 : s.1 = 4
  · rw [if_pos e4]
    by_cases l8 : ρ 1 < 8
    · rw [if_pos l8]
      refine ⟨p_rnd_V hV l8, ?_⟩
      unfold p_rnd
      simp (disch := omega) only [p_un]
    · rw [if_neg l8]; exact ⟨hV, rfl⟩
  rw [if_neg e4]
  by_cases e5 : s.1 = 5
  · rw [if_pos e5]
    exact ⟨p_V_up22 hV (d_q_lt hV.1 (s2 (by omega))).2 (s4 (by omega)), p_un (by omega)⟩
  rw [if_neg e5]
  obtain ⟨b1, b2⟩ := s3 (by omega)
  exact ⟨p_V_up47 hV b1 (by omega) (s4 (by omega)), p_un (by omega)⟩
theorem a_press_V {ρ : Nat → Nat} {x1 x2 : Int32} {P : k_P} (hV : p_V ρ) (h : a_press ρ x1 x2 P) : p_V (k_ρ P ρ) ∧ k_ρ P ρ 0 = ρ 0 := by
  rcases h with ⟨i, q, rfl⟩ | ⟨_, rfl⟩
  · exact k_sl_V hV (by omega) (t_fb_ld hV.1 q.1 q.2.1)
  · exact ⟨hV, rfl⟩
theorem a_chain_V {ρ : Nat → Nat} {x1 : Int32} {P : k_P} (hV : p_V ρ) (h : a_chain ρ x1 P) : p_V (k_ρ P ρ) ∧ k_ρ P ρ 0 = ρ 0 := by
  rcases h with ⟨i, q, rfl⟩ | ⟨_, rfl⟩
  · exact k_sl_V hV q.1 (t_lb_ld hV.1 (by omega))
  · exact ⟨hV, rfl⟩
theorem a_corr_V {ρ : Nat → Nat} {x1 x2 : Int32} {P : k_P} (hV : p_V ρ) (h : a_corr ρ x1 x2 P) : p_V (k_ρ P ρ) ∧ k_ρ P ρ 0 = ρ 0 := by
  rcases h with ⟨i, q, rfl⟩ | ⟨_, rfl⟩
  · exact k_sl_V hV q.1 (n_co_lt hV q.1)
  · exact ⟨hV, rfl⟩
theorem a_drawn_V {N : p_N} {ρ : Nat → Nat} {x1 x2 x3 : Int32} {P : k_P} (hV : p_V ρ) (h : a_drawn N ρ x1 x2 x3 P) : p_V (k_ρ P ρ) ∧ k_ρ P ρ 0 = ρ 0 := by
  rcases h with ⟨i, q, rfl⟩ | ⟨_, rfl⟩
  · exact ⟨p_V_rn (st := (ρ, x3, 0)) hV i.1 q.2.1, p_rn_0 (st := (ρ, x3, 0)) i.1⟩
  · exact ⟨hV, rfl⟩
