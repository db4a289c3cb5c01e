/-! DRAWS of the reference -/
/-- the reference's row and seed are so; nothing else has changed -/
def p_DI (v v1 : z_Dat) (st : p_st) : Prop := p_M v1 st.1 ∧ v1 223 63 = st.2.1 ∧ (∀ j, j ≠ 63 → v1 223 j = v 223 j) ∧ ∀ a, a < 223 ∨ 224 < a → v1 a = v a
theorem p_DI.T {v v1 : z_Dat} {st : p_st} {D : Nat} (h : p_DI v v1 st) (hT : p_MT v D) : p_MT v1 D := hT.fr (h.2.2.1 14 (by omega)) (fun a _ _ => h.2.2.2 a (by omega))
theorem p_DI.up {v v1 : z_Dat} {st : p_st} {i x : Nat} (h : p_DI v v1 st) : p_DI v (z_u v1 224 i (nI x)) (p_up st.1 i x, st.2) := by
  obtain ⟨h1, h2, h3, h4⟩ := h
  exact ⟨h1.up, by rw [z_un (by omega)]; exact h2, fun j hj => by rw [z_un (by omega)]; exact h3 j hj, fun a ha => by rw [z_u_ne (by omega)]; exact h4 a ha⟩
section D2
variable {G : z_G} {d : Nat} {S : z_Shp} {v v1 : z_Dat} {Q : Option Value → z_Shp → z_Dat → Prop} {κ : Nat} {ρ : Nat → Nat} {N : p_N}
theorem sp_X11_draw {st : p_st} (hN : p_Nok N) (hL : z_L S) (hI : p_DI v v1 st) (h : ∀ v2, p_DI v v2 (st.1, N.1 st.2.1, st.2.2) → Q (some (.int (nI (N.2 (N.1 st.2.1))))) S v2) : z_J G d mX11_draw (0, [.ref 223, .int 64], [], S, v1) Q := by
  obtain ⟨h1, h2, h3, h4⟩ := hI
  refine sg_X11_draw_0 hL (fun v2 e2 => ⟨by decide, ?_⟩)
  rw [h2, hN.1] at e2
  have e3 : v2 223 63 = N.1 st.2.1 := by rw [e2, z_ue rfl rfl]
  rw [e3, hN.2.1]
  refine h v2 ⟨fun i hi => by rw [e2, z_un (by omega)]; exact h1 i hi, e3, fun j hj => by rw [e2, z_un (by omega)]; exact h3 j hj, fun a ha => by rw [e2, z_u_ne (by omega)]; exact h4 a ha⟩
theorem sp_X11_draws {E T : Nat} {sd : Int32} (hN : p_Nok N) (hd : 3 ≤ d) (hL : z_L S) (hM : p_M v ρ) (hMT : p_MT v (ρ 0)) (h35 : ρ 0 = 3 ∨ ρ 0 = 5) (hE : E ≤ 21) (hT : ρ 1 + T ≤ 8)
    (h : ∀ v1, p_DI v v1 (p_rn N E (ρ 0) (ρ, sd, 0) T) → Q (some (.int (nI (p_rn N E (ρ 0) (ρ, sd, 0) T).2.2))) S v1) : z_J G d mX11_draws (0, [.ref 223, .int (nI T), .int (nI E), .int sd, .null, .null, .null, .null], [], S, v) Q := by
  obtain ⟨d, rfl⟩ : ∃ e, d = e + 1 := ⟨d - 1, by omega⟩
  generalize hDD : ρ 0 = D at *
  have hD25 : D * D ≤ 25 := by rcases h35 with rfl | rfl <;> omega
  have hK := t_Kle h35
  have e3 : (3 : Int32) * nI E = nI (3 * E) := nI_m E 3 rfl
  have e2 : (2 : Int32) * nI E = nI (2 * E) := nI_m E 2 rfl
  -- marks of a kind
  have marks : ∀ (κ : Nat), κ < 2 → ∀ (st : p_st) (t : Nat) (K : ∀ v1, p_DI v v1 (p_mn N E κ st (t_K D)) → z_J G (d + 1) mX11_draws (121, [.ref 223, .int (nI T), .int (nI E), .int sd, .int (nI (p_mn N E κ st (t_K D)).2.2), .int (nI t), .int (nI (κ + 1)), .null], [], S, v1) Q),
      ∀ j k v1, k + j = t_K D → p_DI v v1 (p_mn N E κ st k) → z_J G (d + 1) mX11_draws (130, [.ref 223, .int (nI T), .int (nI E), .int sd, .int (nI (p_mn N E κ st k).2.2), .int (nI t), .int (nI κ), .int (nI k)], [], S, v1) Q := by
    intro κ hκ st t K j
    induction j with
    | zero =>
      intro k v1 hk hI
      have hk : k = t_K D := by omega
      subst hk
      refine sg_X11_draws_130 hL ⟨fun _ => ?_, fun c => absurd ?_ c⟩
      · rw [nI_1]; exact K v1 hI
      · rw [(hI.T hMT).1]; exact nI_le (Nat.le_refl _) (by omega)
    | succ j ih =>
      intro k v1 hk hI
      refine sg_X11_draws_130 hL ⟨fun c => ?_, fun _ => ?_⟩
      · rw [(hI.T hMT).1] at c; exact absurd c (nI_ge (by omega) (by omega))
      · refine sp_X11_draw hN hL hI (fun v2 hI2 => ⟨_, rfl, rfl, fun c => ?_, fun c => ⟨by rw [nI_4]; exact vp_in_nI (by omega) (by omega), by rw [nI_4]; exact vp_in_nI (by omega) (by omega), fun v3 e3 => ?_⟩⟩)
        · have hlt := hN.2.2 (N.1 (p_mn N E κ st k).2.1)
          have c := (nI_leI (by omega) (by omega)).mp c
          have em : p_mn N E κ st (k + 1) = ((p_mn N E κ st k).1, N.1 (p_mn N E κ st k).2.1, (p_mn N E κ st k).2.2) := by
            show p_m1 N E κ k (p_mn N E κ st k) = _
            unfold p_m1
            rw [if_neg (by omega)]
          have I := ih (k + 1) v2 (by omega) (by rw [em]; exact hI2)
          rw [em] at I
          rw [nI_1]
          exact I
        · have hlt := hN.2.2 (N.1 (p_mn N E κ st k).2.1)
          have c : ¬ E ≤ N.2 (N.1 (p_mn N E κ st k).2.1) := fun q => c (nI_le q (by omega))
          have em : p_mn N E κ st (k + 1) = (p_up (p_mn N E κ st k).1 (4 + κ) ((p_mn N E κ st k).1 (4 + κ) ^^^ 2 ^ k), N.1 (p_mn N E κ st k).2.1, (p_mn N E κ st k).2.2) := by
            show p_m1 N E κ k (p_mn N E κ st k) = _
            unfold p_m1
            rw [if_pos (by omega)]
          rw [nI_4, nI_clamp (by omega), hI2.1 (4 + κ) (by omega), zb_1 (by omega), nx_xor] at e3
          have I := ih (k + 1) v3 (by omega) (by rw [em, e3]; exact hI2.up)
          rw [em] at I
          rw [nI_1]
          exact I
  -- slips of the qubits
  have slips : ∀ (st : p_st) (t : Nat) (_ : st.1 0 = D) (K : ∀ v1, p_DI v v1 (p_qn N E st (D * D)) → z_J G (d + 1) mX11_draws (121, [.ref 223, .int (nI T), .int (nI E), .int sd, .int (nI (p_qn N E st (D * D)).2.2), .int (nI t), .int 0, .null], [], S, v1) Q),
      ∀ j q v1, q + j = D * D → p_DI v v1 (p_qn N E st q) → z_J G (d + 1) mX11_draws (20, [.ref 223, .int (nI T), .int (nI E), .int sd, .int (nI (p_qn N E st q).2.2), .int (nI t), .int (nI q), .null], [], S, v1) Q := by
    intro st t h0 K j
    induction j with
    | zero =>
      intro q v1 hq hI
      have hq : q = D * D := by omega
      subst hq
      have hc : v1 224 0 = nI D := by rw [hI.1 0 (by omega), p_qn_o (by omega) (by omega), h0]
      refine sg_X11_draws_20 hL ?_
      rw [hc, pk_mul]
      exact ⟨fun _ => K v1 hI, fun c => absurd (nI_le (Nat.le_refl _) (by omega)) c⟩
    | succ j ih =>
      intro q v1 hq hI
      have hc : v1 224 0 = nI D := by rw [hI.1 0 (by omega), p_qn_o (by omega) (by omega), h0]
      refine sg_X11_draws_20 hL ?_
      rw [hc, pk_mul]
      refine ⟨fun c => absurd c (nI_ge (by omega) (by omega)), fun _ => ?_⟩
      refine sp_X11_draw hN hL hI (fun v2 hI2 => ⟨_, rfl, rfl, ?_⟩)
      have hX := hN.2.2 (N.1 (p_qn N E st q).2.1)
      have eq1 : p_qn N E st (q + 1) = ((p_sd E (N.2 (N.1 (p_qn N E st q).2.1)) q (p_qn N E st q).1).1, N.1 (p_qn N E st q).2.1, (p_qn N E st q).2.2 + (p_sd E (N.2 (N.1 (p_qn N E st q).2.1)) q (p_qn N E st q).1).2) := rfl
      have I := fun v3 => ih (q + 1) v3 (by omega)
      rw [eq1] at I
      generalize N.2 (N.1 (p_qn N E st q).2.1) = X at hX I ⊢
      have l3 : nI X < nI (3 * E) ↔ X < 3 * E := nI_ltI (by omega) (by omega)
      have l2 : nI X < nI (2 * E) ↔ X < 2 * E := nI_ltI (by omega) (by omega)
      have l1 : nI X < nI E ↔ X < E := nI_ltI (by omega) (by omega)
      have s0 : v2 224 2 = nI ((p_qn N E st q).1 2) := hI2.1 2 (by omega)
      have s1 : v2 224 3 = nI ((p_qn N E st q).1 3) := hI2.1 3 (by omega)
      rw [e3, e2, l3, l2, l1, zb_1 (by omega), s0, s1, nx_xor, nx_xor]
      have F0 : ∀ v3, v3 = z_u v2 224 2 (nI ((p_qn N E st q).1 2 ^^^ 2 ^ q)) → p_DI v v3 (p_sl (p_qn N E st q).1 0 q, N.1 (p_qn N E st q).2.1, (p_qn N E st q).2.2) := fun v3 e => by rw [e]; exact hI2.up
      have F1 : ∀ v3, v3 = z_u v2 224 3 (nI ((p_qn N E st q).1 3 ^^^ 2 ^ q)) → p_DI v v3 (p_sl (p_qn N E st q).1 1 q, N.1 (p_qn N E st q).2.1, (p_qn N E st q).2.2) := fun v3 e => by rw [e]; exact hI2.up
      have ret : ∀ (v3 : z_Dat) (ρ3 : Nat → Nat) (c : Nat), p_sd E X q (p_qn N E st q).1 = (ρ3, c) → p_DI v v3 (ρ3, N.1 (p_qn N E st q).2.1, (p_qn N E st q).2.2) → z_J G (d + 1) mX11_draws (20, [.ref 223, .int (nI T), .int (nI E), .int sd, .int (nI ((p_qn N E st q).2.2 + c)), .int (nI t), .int (nI (q + 1)), .null], [], S, v3) Q := by
        intro v3 ρ3 c he hI3
        have := I v3
        rw [he] at this
        exact this hI3
      rw [nI_1, show (2 : Int32) = nI 2 from rfl, nI_add, nI_1]
      refine ⟨fun c3 => ⟨fun c1 v3 e3 => ⟨fun _ => ⟨fun _ => ?_, fun c => by omega⟩, fun c => absurd c1 c⟩, fun c1 => ⟨fun c2 => ⟨fun c => absurd c c1, fun _ v4 e4 => ⟨fun _ => ?_, fun c => absurd c2 c⟩⟩, fun c2 v5 e5 => ⟨fun c => absurd c c1, fun _ v6 e6 => ⟨fun c => absurd c c2, fun _ => ?_⟩⟩⟩⟩, fun c3 => ?_⟩
      · exact ret v3 _ 1 (by unfold p_sd; rw [if_pos c3, if_pos c1]) (F0 v3 e3)
      · exact ret v4 _ 1 (by unfold p_sd; rw [if_pos c3, if_neg c1, if_pos c2]) (F1 v4 e4)
      · refine ret v6 _ 2 (by unfold p_sd; rw [if_pos c3, if_neg c1, if_neg c2]) ?_
        have I5 := F0 v5 e5
        have s5 : v5 224 3 = nI ((p_qn N E st q).1 3) := by rw [e5, z_un (by omega)]; exact s1
        rw [s5, nx_xor] at e6
        have := I5.up (i := 3) (x := (p_qn N E st q).1 3 ^^^ 2 ^ q)
        rw [← e6] at this
        have e9 : p_sl (p_sl (p_qn N E st q).1 0 q) 1 q = p_up (p_sl (p_qn N E st q).1 0 q) 3 ((p_qn N E st q).1 3 ^^^ 2 ^ q) := by
          show p_up (p_sl (p_qn N E st q).1 0 q) (2 + 1) (p_sl (p_qn N E st q).1 0 q (2 + 1) ^^^ 2 ^ q) = _
          rw [p_sl_o (by omega)]
        rw [e9]
        exact this
      · have := ret v2 (p_qn N E st q).1 0 (by unfold p_sd; rw [if_neg c3]) hI2
        exact this
  -- rounds
  have rounds : ∀ j t v1, t + j = T → p_DI v v1 (p_rn N E D (ρ, sd, 0) t) → z_J G (d + 1) mX11_draws (11, [.ref 223, .int (nI T), .int (nI E), .int sd, .int (nI (p_rn N E D (ρ, sd, 0) t).2.2), .int (nI t), .null, .null], [], S, v1) Q := by
    intro j
    induction j with
    | zero =>
      intro t v1 ht hI
      have ht : t = T := by omega
      subst ht
      exact sg_X11_draws_11 ⟨fun _ => h v1 hI, fun c => absurd (nI_le (Nat.le_refl _) (by omega)) c⟩
    | succ j ih =>
      intro t v1 ht hI
      refine sg_X11_draws_11 ⟨fun c => absurd c (nI_ge (by omega) (by omega)), fun _ => ?_⟩
      refine slips (p_rn N E D (ρ, sd, 0) t) t (by rw [p_rn_0]; exact hDD) (fun v2 I2 => ?_) (D * D) 0 v1 (by omega) hI
      refine sg_X11_draws_121 hL ⟨fun c => absurd c (by decide), fun _ => ?_⟩
      refine marks 0 (by omega) (p_qn N E (p_rn N E D (ρ, sd, 0) t) (D * D)) t (fun v3 I3 => ?_) (t_K D) 0 v2 (by omega) I2
      refine sg_X11_draws_121 hL ⟨fun c => absurd c (by decide), fun _ => ?_⟩
      refine marks 1 (by omega) (p_mn N E 0 (p_qn N E (p_rn N E D (ρ, sd, 0) t) (D * D)) (t_K D)) t (fun v4 I4 => ?_) (t_K D) 0 v3 (by omega) I3
      have e0 : (p_md N E D (p_rn N E D (ρ, sd, 0) t)).1 0 = D := by
        rw [p_md_o (by omega) (by omega) (by omega) (by omega), p_rn_0]; exact hDD
      have e1 : (p_md N E D (p_rn N E D (ρ, sd, 0) t)).1 1 = ρ 1 + t := by
        rw [p_md_o (by omega) (by omega) (by omega) (by omega), p_rn_1]
      have I4 : p_DI v v4 (p_md N E D (p_rn N E D (ρ, sd, 0) t)) := I4
      refine sg_X11_draws_121 hL ⟨fun _ => ?_, fun c => absurd (by decide) c⟩
      refine sp_X11_round (by omega) hL I4.1 (by rw [e0]; exact I4.T hMT) (by rw [e0]; exact h35) (by omega) (fun v5 M5 f5 => ⟨rfl, rfl, ?_⟩)
      rw [nI_1]
      have f5' : v5 223 = v4 223 := f5 223 (by omega)
      exact ih (t + 1) v5 (by omega) ⟨M5, by rw [f5']; exact I4.2.1, fun j hj => by rw [f5']; exact I4.2.2.1 j hj, fun a ha => (f5 a (by omega)).trans (I4.2.2.2 a ha)⟩
  refine sg_X11_draws_0 hL (fun v1 e1 => rounds T 0 v1 (by omega) ⟨fun i hi => by rw [e1, z_un (by omega)]; exact hM i hi, by rw [e1, z_ue rfl rfl]; rfl, fun j hj => by rw [e1, z_un (by omega)], fun a ha => by rw [e1, z_u_ne (by omega)]⟩)
end D2
