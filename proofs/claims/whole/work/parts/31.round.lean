/-! ROUNDS: what a round makes of a row; Fabric.readAll and the reference's round -/
theorem z_ue {v : z_Dat} {a i : Nat} {x : Int32} {b j : Nat} (h : b = a) (h2 : j = i) : z_u v a i x b j = x := by subst h; subst h2; rw [z_u_eq]; simp [upd]
theorem z_un {v : z_Dat} {a i : Nat} {x : Int32} {b j : Nat} (h : b ≠ a ∨ j ≠ i) : z_u v a i x b j = v b j := by
  by_cases e : b = a
  · subst e
    rw [z_u_eq]
    have : j ≠ i := h.resolve_left (fun q => q rfl)
    simp [upd, this]
  · rw [z_u_ne e]
/-- nothing but cells lo to hi has changed -/
def z_fr (lo hi : Nat) (v v1 : z_Dat) : Prop := ∀ a, a < lo ∨ hi < a → v1 a = v a
theorem z_fr.rf {lo hi : Nat} {v : z_Dat} : z_fr lo hi v v := fun _ _ => rfl
theorem z_fr.tr {lo hi : Nat} {v v1 v2 : z_Dat} (h1 : z_fr lo hi v v1) (h2 : z_fr lo hi v1 v2) : z_fr lo hi v v2 := fun a h => (h2 a h).trans (h1 a h)
theorem z_fr.u {lo hi a i : Nat} {v v1 : z_Dat} {x : Int32} (h : z_fr lo hi v v1) (h1 : lo ≤ a) (h2 : a ≤ hi) : z_fr lo hi v (z_u v1 a i x) := fun b hb => by
  rw [z_u_ne (by omega)]
  exact h b hb
theorem z_fr.wd {lo hi lo' hi' : Nat} {v v1 : z_Dat} (h : z_fr lo hi v v1) (h1 : lo' ≤ lo) (h2 : hi ≤ hi') : z_fr lo' hi' v v1 := fun a ha => h a (by omega)
def p_up (ρ : Nat → Nat) (i x : Nat) : Nat → Nat := fun j => if j = i then x else ρ j
theorem p_ue {ρ : Nat → Nat} {i x j : Nat} (h : j = i) : p_up ρ i x j = x := if_pos h
theorem p_un {ρ : Nat → Nat} {i x j : Nat} (h : j ≠ i) : p_up ρ i x j = ρ j := if_neg h
/-- behind a round -/
def p_rnd (ρ : Nat → Nat) : Nat → Nat := p_up (p_up (p_up (p_up (p_up ρ (6 + ρ 1) (p_lo (ρ 0) 0 (ρ 2) ^^^ ρ 4)) 4 0) (14 + ρ 1) (p_lo (ρ 0) 1 (ρ 3) ^^^ ρ 5)) 5 0) 1 (ρ 1 + 1)
theorem p_rnd_V {ρ : Nat → Nat} (h : p_V ρ) (h8 : ρ 1 < 8) : p_V (p_rnd ρ) := by
  obtain ⟨h0, h1, h2, h3⟩ := h
  have e0 : p_rnd ρ 0 = ρ 0 := by unfold p_rnd; simp (disch := omega) only [p_ue, p_un]
  refine ⟨by rw [e0]; exact h0, by unfold p_rnd; simp (disch := omega) only [p_ue, p_un]; omega, fun κ hκ => ?_, fun q hq => ?_⟩
  · rw [e0]
    have hx : ∀ κ, κ < 2 → p_lo (ρ 0) κ (ρ (2 + κ)) ^^^ ρ (4 + κ) < 2 ^ t_K (ρ 0) := fun κ hκ => Nat.xor_lt_two_pow (p_lo_lt _ _ _) (h2 κ hκ).2.1
    have hx0 := hx 0 (by omega)
    have hx1 := hx 1 (by omega)
    obtain ⟨a1, a2, a3, a4⟩ := h2 κ hκ
    refine ⟨?_, ?_, fun t ht => ?_, fun k hk => ?_⟩
    · unfold p_rnd; simp (disch := omega) only [p_ue, p_un]; exact a1
    · unfold p_rnd
      rcases (show κ = 0 ∨ κ = 1 by omega) with rfl | rfl <;> simp (disch := omega) only [p_ue, p_un] <;> exact Nat.two_pow_pos _
    · unfold p_rnd
      rcases (show κ = 0 ∨ κ = 1 by omega) with rfl | rfl
      · by_cases e : t = ρ 1
        · simp (disch := omega) only [p_ue, p_un]; exact hx0
        · simp (disch := omega) only [p_ue, p_un]; exact a3 t ht
      · by_cases e : t = ρ 1
        · simp (disch := omega) only [p_ue, p_un]; exact hx1
        · simp (disch := omega) only [p_ue, p_un]; exact a3 t ht
    · unfold p_rnd; simp (disch := omega) only [p_ue, p_un]; exact a4 k hk
  · unfold p_rnd; simp (disch := omega) only [p_ue, p_un]; exact h3 q hq
section RD
variable {G : z_G} {d : Nat} {S : z_Shp} {v : z_Dat} {Q : Option Value → z_Shp → z_Dat → Prop} {f κ : Nat} {ρ : Nat → Nat}
/-- loudOnes, by what it reads alone -/
theorem sp_X0_loud {w dd sl : Nat} (hd : 1 ≤ d) (hL : z_L S) (hW : p_W v w dd) (hf : z_isF f) (hr : z_r S f 0 = some w) (hwd : p_wd w dd) (hs : v (f + 1) κ = nI sl) (hκ : κ < 2) (h : Q (some (.int (nI (p_lo dd κ sl)))) S v) : z_J G d mX0_loudOnes (0, [.ref f, .int (nI κ), .null, .null], [], S, v) Q := by
  obtain ⟨d, rfl⟩ : ∃ e, d = e + 1 := ⟨d - 1, by omega⟩
  obtain ⟨h0, h1, h2, h3⟩ := hW
  have hK := t_Kle (p_wdd hwd)
  have key : ∀ j k, k + j = t_K dd → z_J G (d + 1) mX0_loudOnes (4, [.ref f, .int (nI κ), .int (nI (p_ld dd κ sl k)), .int (nI k)], [], S, v) Q := by
    intro j
    induction j with
    | zero =>
      intro k hk
      have hk : k = t_K dd := by omega
      subst hk
      refine sg_X0_loudOnes_4 hL hf hr (p_wdW hwd) ⟨fun _ => h, fun c => absurd ?_ c⟩
      rw [h2]
      exact nI_le (Nat.le_refl _) (by omega)
    | succ j ih =>
      intro k hk
      refine sg_X0_loudOnes_4 hL hf hr (p_wdW hwd) ⟨fun c => ?_, fun _ => ⟨vp_in_nI hκ (by omega), vp_in_nI hκ (by omega), vp_in_nI (by omega) (by omega), ?_⟩⟩
      · rw [h2] at c
        exact absurd c (nI_ge (by omega) (by omega))
      · rw [nI_clamp (by omega), nI_clamp (by omega), hs, ((h3 κ hκ).2.2.1 k (by omega)).2.2, nx_and, p_pc_nI (Nat.lt_trans (p_and_lt (t_fb_lt _ _ _)) (by decide)), zb_a1 (by have := p_pc_le (sl &&& t_fb dd κ k); omega), zb_put (p_ld_lt _ _ _ _) (by omega) (by omega), nI_1]
        exact ih (k + 1) (by omega)
  exact sg_X0_loudOnes_0 hf (key (t_K dd) 0 (by omega))
theorem p_W.fr {v v1 : z_Dat} {w dd : Nat} (h : p_W v w dd) (hv : ∀ a, w ≤ a → a ≤ w + 17 → v1 a = v a) : p_W v1 w dd := by
  obtain ⟨h0, h1, h2, h3⟩ := h
  refine ⟨by rw [hv w (by omega) (by omega)]; exact h0, by rw [hv w (by omega) (by omega)]; exact h1, by rw [hv w (by omega) (by omega)]; exact h2, fun κ hκ => ?_⟩
  rw [hv (w + 16) (by omega) (by omega), hv (w + 17) (by omega) (by omega), hv (w + 2 + κ) (by omega) (by omega), hv (w + 5 + κ) (by omega) (by omega), hv (w + 8 + κ) (by omega) (by omega), hv (w + 11 + κ) (by omega) (by omega), hv (w + 14 + κ) (by omega) (by omega)]
  exact h3 κ hκ
theorem p_Ws.fr {v v1 : z_Dat} (h : p_Ws v) (hv : ∀ a, 1 ≤ a → a ≤ 36 → v1 a = v a) : p_Ws v1 := ⟨h.1.fr (fun a h1 h2 => hv a (by omega) (by omega)), h.2.fr (fun a h1 h2 => hv a (by omega) (by omega))⟩
theorem p_F.fr {S : z_Shp} {v v1 : z_Dat} {f : Nat} {ρ : Nat → Nat} (h : p_F S v f ρ) (hv : ∀ a, f ≤ a → a ≤ f + 9 → v1 a = v a) : p_F S v1 f ρ := by
  obtain ⟨h0, h1, h2, h3⟩ := h
  refine ⟨h0, by rw [hv f (by omega) (by omega)]; exact h1, fun κ hκ => ?_, ?_⟩
  · rw [hv (f + 1) (by omega) (by omega), hv (f + 2) (by omega) (by omega), hv (f + 4 + κ) (by omega) (by omega), hv (f + 8 + κ) (by omega) (by omega)]
    exact h2 κ hκ
  · rw [hv (f + 6) (by omega) (by omega)]; exact h3
theorem zF_ge {f : Nat} (hf : z_isF f) : 37 ≤ f := by
  simp only [z_isF, List.mem_cons, List.not_mem_nil, or_false] at hf
  omega
/-- Fabric.readAll -/
theorem sp_X0_readAll (hd : 2 ≤ d) (hL : z_L S) (hW : p_Ws v) (hf : z_isF f) (hF : p_F S v f ρ) (h8 : ρ 1 ≤ 8)
    (h1 : ρ 1 < 8 → ∀ v1, p_F S v1 f (p_rnd ρ) → z_fr f (f + 9) v v1 → Q (some (.int 1)) S v1) (h0 : ρ 1 = 8 → Q (some (.int 0)) S v) : z_J G d mX0_readAll (0, [.ref f, .null], [], S, v) Q := by
  obtain ⟨d, rfl⟩ : ∃ e, d = e + 1 := ⟨d - 1, by omega⟩
  have hge := zF_ge hf
  obtain ⟨⟨w, hr, hwd⟩, g1, g2, g3⟩ := hF
  have hwP := p_wdP hW hwd
  have hw36 : w + 17 ≤ 36 := by rcases hwd with ⟨rfl, -⟩ | ⟨rfl, -⟩ <;> omega
  refine sg_X0_readAll_0 hL hf ⟨fun c => ?_, fun c => ?_⟩
  · rw [g1] at c
    have h8' : ρ 1 < 8 := (nI_ltI (b := 8) (by omega) (by omega)).mp c
    have k0 := g2 0 (by omega)
    have k1 := g2 1 (by omega)
    have c0 : (0 : Int32).toNatClampNeg = 0 := by decide
    have c1 : (0 + 1 : Int32).toNatClampNeg = 1 := by decide
    have cR : (nI (ρ 1)).toNatClampNeg = ρ 1 := nI_clamp (by omega)
    refine sg_X0_readAll_13 hL hf ⟨fun c => absurd c (by decide), fun _ => ⟨z_vin (by decide), ?_⟩⟩
    refine sp_X0_loud (κ := 0) (by omega) hL hwP hf hr hwd k0.1 (by omega) ⟨_, rfl, rfl, z_vin (by decide), by rw [g1]; exact vp_in_nI h8' (by omega), fun v3 e3 => ⟨z_vin (by decide), fun v4 e4 => ?_⟩⟩
    rw [g1, c0, cR] at e3
    rw [c0, e3] at e4
    rw [Nat.add_zero, k0.2.1, nx_xor] at e4
    have hv4 : z_fr f (f + 9) v v4 := by rw [e4]; exact (z_fr.rf.u (by omega) (by omega)).u (by omega) (by omega)
    have r4 : v4 f 1 = nI (ρ 1) := by rw [e4]; simp (disch := omega) only [z_ue, z_un]; exact g1
    have s4 : v4 (f + 1) 1 = nI (ρ 3) := by rw [e4]; simp (disch := omega) only [z_ue, z_un]; exact k1.1
    have m4 : v4 (f + 2) 1 = nI (ρ 5) := by rw [e4]; simp (disch := omega) only [z_ue, z_un]; exact k1.2.1
    refine sg_X0_readAll_13 hL hf ⟨fun c => absurd c (by decide), fun _ => ⟨z_vin (by decide), ?_⟩⟩
    refine sp_X0_loud (κ := 1) (by omega) hL (hwP.fr (fun a _ _ => hv4 a (by omega))) hf hr hwd s4 (by omega) ⟨_, rfl, rfl, z_vin (by decide), by rw [r4]; exact vp_in_nI h8' (by omega), fun v5 e5 => ⟨z_vin (by decide), fun v6 e6 => ?_⟩⟩
    rw [r4, c1, cR, m4, nx_xor] at e5
    rw [c1, e5] at e6
    refine sg_X0_readAll_13 hL hf ⟨fun _ v7 e7 => ?_, fun c => absurd (by decide) c⟩
    have r6 : v6 f 1 = nI (ρ 1) := by rw [e6]; simp (disch := omega) only [z_ue, z_un]; exact r4
    rw [r6, nI_1, e6, e4] at e7
    refine h1 h8' v7 ⟨⟨w, hr, ?_⟩, ?_, fun κ hκ => ⟨?_, ?_, fun t ht => ?_, fun k hk => ?_⟩, fun q hq => ?_⟩ ?_
    · unfold p_rnd; simp (disch := omega) only [p_ue, p_un]; exact hwd
    · rw [e7]; unfold p_rnd; simp (disch := omega) only [p_ue, p_un, z_ue, z_un]
    · rw [e7]; unfold p_rnd; simp (disch := omega) only [p_ue, p_un, z_ue, z_un]; exact (g2 κ hκ).1
    · rw [e7]; unfold p_rnd
      rcases (show κ = 0 ∨ κ = 1 by omega) with rfl | rfl <;> simp (disch := omega) only [p_ue, p_un, z_ue, z_un] <;> rfl
    · rw [e7]; unfold p_rnd
      rcases (show κ = 0 ∨ κ = 1 by omega) with rfl | rfl
      · by_cases e : t = ρ 1
        · simp (disch := omega) only [p_ue, p_un, z_ue, z_un]
        · simp (disch := omega) only [p_ue, p_un, z_ue, z_un]; exact (g2 0 hκ).2.2.1 t ht
      · by_cases e : t = ρ 1
        · simp (disch := omega) only [p_ue, p_un, z_ue, z_un]
        · simp (disch := omega) only [p_ue, p_un, z_ue, z_un]; exact (g2 1 hκ).2.2.1 t ht
    · rw [e7]; unfold p_rnd; simp (disch := omega) only [p_ue, p_un, z_ue, z_un]; exact (g2 κ hκ).2.2.2 k hk
    · rw [e7]; unfold p_rnd; simp (disch := omega) only [p_ue, p_un, z_ue, z_un]; exact g3 q hq
    · rw [e7]; exact ((((z_fr.rf.u (by omega) (by omega)).u (by omega) (by omega)).u (by omega) (by omega)).u (by omega) (by omega)).u (by omega) (by omega)
  · rw [g1] at c
    exact h0 (by
      rcases Nat.lt_or_ge (ρ 1) 8 with q | q
      · exact absurd (nI_lt (b := 8) q (by omega)) c
      · omega)
end RD
