/-! THE REFERENCE: loud, rowOrColumn, logical, layer, round, copies -/
/-- the reference's tables for a size -/
def p_MT (v : z_Dat) (d : Nat) : Prop := v 223 14 = nI (t_K d) ∧ ∀ κ, κ < 2 → ((∀ k, k < t_K d → v 230 (12 * κ + k) = nI (t_fi d κ k) ∧ v 231 (12 * κ + k) = nI (t_fj d κ k) ∧ v 232 (12 * κ + k) = nI (t_fb d κ k)) ∧ ∀ q, q < d * d → v 233 (25 * κ + q) = nI (t_co d κ q))
/-- the reference's row -/
def p_M (v : z_Dat) (ρ : Nat → Nat) : Prop := ∀ i, i < 71 → v 224 i = nI (ρ i)
theorem p_MT.fr {v v1 : z_Dat} {d : Nat} (h : p_MT v d) (h1 : v1 223 14 = v 223 14) (hv : ∀ a, 230 ≤ a → a ≤ 233 → v1 a = v a) : p_MT v1 d := by
  unfold p_MT
  rw [h1, hv 230 (by omega) (by omega), hv 231 (by omega) (by omega), hv 232 (by omega) (by omega), hv 233 (by omega) (by omega)]
  exact h
/-- the logical of slips -/
def p_lg (d κ sl : Nat) : Nat := p_pc (sl &&& t_lb d κ) % 2
theorem t_lb_lt (d κ : Nat) : t_lb d κ < 2 ^ 25 := by
  unfold t_lb
  split <;> split <;> decide
def p_rc (d r : Nat) : Nat → Nat
  | 0 => 0
  | k + 1 => p_rc d r k ||| 2 ^ (if r = 0 then d * k else k)
section M1
variable {G : z_G} {d : Nat} {S : z_Shp} {v : z_Dat} {Q : Option Value → z_Shp → z_Dat → Prop} {κ dd sl : Nat} {ρ : Nat → Nat}
theorem nI_12 (κ k : Nat) : (12 : Int32) * nI κ + nI k = nI (12 * κ + k) := by
  rw [show (12 : Int32) = nI 12 from rfl, pk_mul, nI_add]
theorem sp_X11_loud (hd : 1 ≤ d) (hL : z_L S) (hT : p_MT v dd) (h35 : dd = 3 ∨ dd = 5) (hκ : κ < 2) (h : Q (some (.int (nI (p_lo dd κ sl)))) S v) : z_J G d mX11_loud (0, [.ref 223, .int (nI κ), .int (nI sl), .null, .null], [], S, v) Q := by
  obtain ⟨d, rfl⟩ : ∃ e, d = e + 1 := ⟨d - 1, by omega⟩
  have hK := t_Kle h35
  have key : ∀ j k, k + j = t_K dd → z_J G (d + 1) mX11_loud (5, [.ref 223, .int (nI κ), .int (nI sl), .int (nI (p_ld dd κ sl k)), .int (nI k)], [], S, v) Q := by
    intro j
    induction j with
    | zero =>
      intro k hk
      have hk : k = t_K dd := by omega
      subst hk
      refine sg_X11_loud_5 hL ⟨fun _ => h, fun c => absurd ?_ c⟩
      rw [hT.1]
      exact nI_le (Nat.le_refl _) (by omega)
    | succ j ih =>
      intro k hk
      refine sg_X11_loud_5 hL ⟨fun c => ?_, fun _ => ⟨?_, ?_⟩⟩
      · rw [hT.1] at c
        exact absurd c (nI_ge (by omega) (by omega))
      · rw [nI_12]; exact vp_in_nI (by omega) (by omega)
      · rw [nI_12, nI_clamp (by omega), ((hT.2 κ hκ).1 k (by omega)).2.2, nx_and, Nat.and_comm, p_pc_nI (Nat.lt_trans (p_and_lt (t_fb_lt _ _ _)) (by decide)), zb_a1 (by have := p_pc_le (sl &&& t_fb dd κ k); omega), zb_put (p_ld_lt _ _ _ _) (by omega) (by omega), nI_1]
        exact ih (k + 1) (by omega)
  exact sg_X11_loud_0 (key (t_K dd) 0 (by omega))
theorem sp_X11_rowOrColumn {r : Nat} (hd : 1 ≤ d) (hL : z_L S) (h0 : v 224 0 = nI dd) (h35 : dd = 3 ∨ dd = 5) (hr : r < 2) (h : Q (some (.int (nI (t_lb dd (1 - r))))) S v) : z_J G d mX11_rowOrColumn (0, [.ref 223, .int (nI r), .null, .null], [], S, v) Q := by
  obtain ⟨d, rfl⟩ : ∃ e, d = e + 1 := ⟨d - 1, by omega⟩
  have key : ∀ j k, k + j = dd → z_J G (d + 1) mX11_rowOrColumn (4, [.ref 223, .int (nI r), .int (nI (p_rc dd r k)), .int (nI k)], [], S, v) Q := by
    intro j
    induction j with
    | zero =>
      intro k hk
      have hk : k = dd := by omega
      subst hk
      have e : p_rc k r k = t_lb k (1 - r) := by
        rcases h35 with rfl | rfl <;> rcases (show r = 0 ∨ r = 1 by omega) with rfl | rfl <;> decide
      rw [e]
      refine sg_X11_rowOrColumn_4 hL ⟨fun _ => h, fun c => absurd ?_ c⟩
      rw [h0]
      exact nI_le (Nat.le_refl _) (by omega)
    | succ j ih =>
      intro k hk
      refine sg_X11_rowOrColumn_4 hL ⟨fun c => ?_, fun _ => ⟨fun c => ?_, fun c => ?_⟩⟩
      · rw [h0] at c
        exact absurd c (nI_ge (by omega) (by omega))
      · have hr0 : r = 0 := by
          rcases (show r = 0 ∨ r = 1 by omega) with e | e
          · exact e
          · subst e; exact absurd c (by decide)
        subst hr0
        have h25 : dd * k < 32 := by
          have : k < dd := by omega
          rcases h35 with rfl | rfl <;> omega
        rw [h0, pk_mul, zb_1 h25, zb_or, nI_1]
        exact ih (k + 1) (by omega)
      · have hr1 : r = 1 := by
          rcases (show r = 0 ∨ r = 1 by omega) with e | e
          · subst e; exact absurd rfl c
          · exact e
        subst hr1
        rw [zb_1 (by omega), zb_or, nI_1]
        exact ih (k + 1) (by omega)
  exact sg_X11_rowOrColumn_0 (key dd 0 (by omega))
theorem p_lgI (sl : Nat) (dd κ : Nat) : z_pc (nI sl &&& nI (t_lb dd κ)) &&& 1 = nI (p_lg dd κ sl) := by
  rw [nx_and, p_pc_nI (Nat.lt_trans (p_and_lt (t_lb_lt _ _)) (by decide)), zb_a1 (by have := p_pc_le (sl &&& t_lb dd κ); omega)]
  rfl
theorem sp_X11_logical (hd : 2 ≤ d) (hL : z_L S) (h0 : v 224 0 = nI dd) (h35 : dd = 3 ∨ dd = 5) (hκ : κ < 2) (h : Q (some (.int (nI (p_lg dd κ sl)))) S v) : z_J G d mX11_logical (0, [.ref 223, .int (nI κ), .int (nI sl)], [], S, v) Q := by
  obtain ⟨d, rfl⟩ : ∃ e, d = e + 1 := ⟨d - 1, by omega⟩
  refine sg_X11_logical_0 hL ⟨fun c => ?_, fun c => ?_⟩
  · have e : κ = 1 := by
      rcases (show κ = 0 ∨ κ = 1 by omega) with e | e
      · subst e; exact absurd rfl c
      · exact e
    subst e
    exact sp_X11_rowOrColumn (r := 0) (by omega) hL h0 h35 (by omega) ⟨_, rfl, rfl, by rw [p_lgI]; exact h⟩
  · have e : κ = 0 := by
      rcases (show κ = 0 ∨ κ = 1 by omega) with e | e
      · exact e
      · subst e; exact absurd c (by decide)
    subst e
    exact sp_X11_rowOrColumn (r := 1) (by omega) hL h0 h35 (by omega) ⟨_, rfl, rfl, by rw [p_lgI]; exact h⟩
theorem sp_X9_logicalOf {w : Nat} (hL : z_L S) (hW : p_W v w dd) (hwd : p_wd w dd) (hκ : κ < 2) (h : Q (some (.int (nI (p_lg dd κ sl)))) S v) (hd : 1 ≤ d) : z_J G d mX9_logicalOf (0, [.ref w, .int (nI κ), .int (nI sl)], [], S, v) Q := by
  obtain ⟨d, rfl⟩ : ∃ e, d = e + 1 := ⟨d - 1, by omega⟩
  refine sg_X9_logicalOf_0 hL (p_wdW hwd) ⟨vp_in_nI hκ (by omega), ?_⟩
  rw [nI_clamp (by omega), (hW.2.2.2 κ hκ).1, p_lgI]
  exact h
/-- what a layer shows: a reading, or how it is now -/
def p_la (ρ : Nat → Nat) (κ t : Nat) : Nat := if t < ρ 1 then ρ (6 + 8 * κ + t) else p_lo (ρ 0) κ (ρ (2 + κ))
theorem nI_8 (κ t : Nat) : (6 : Int32) + (8 : Int32) * nI κ + nI t = nI (6 + 8 * κ + t) := by
  rw [show (8 : Int32) = nI 8 from rfl, show (6 : Int32) = nI 6 from rfl, pk_mul, nI_add, nI_add]
theorem nI_2 (κ : Nat) : (2 : Int32) + nI κ = nI (2 + κ) := by rw [show (2 : Int32) = nI 2 from rfl, nI_add]
theorem nI_4 (κ : Nat) : (4 : Int32) + nI κ = nI (4 + κ) := by rw [show (4 : Int32) = nI 4 from rfl, nI_add]
theorem sp_X11_layer {t : Nat} (hd : 2 ≤ d) (hL : z_L S) (hM : p_M v ρ) (hT : p_MT v (ρ 0)) (h35 : ρ 0 = 3 ∨ ρ 0 = 5) (h8 : ρ 1 ≤ 8) (hκ : κ < 2) (ht : t ≤ 8) (h : Q (some (.int (nI (p_la ρ κ t)))) S v) : z_J G d mX11_layer (0, [.ref 223, .int (nI κ), .int (nI t)], [], S, v) Q := by
  obtain ⟨d, rfl⟩ : ∃ e, d = e + 1 := ⟨d - 1, by omega⟩
  unfold p_la at h
  refine sg_X11_layer_0 hL ⟨fun c => ⟨by rw [nI_2]; exact vp_in_nI (by omega) (by omega), ?_⟩, fun c => ⟨by rw [nI_8]; exact vp_in_nI (by omega) (by omega), ?_⟩⟩
  · rw [hM 1 (by omega)] at c
    rw [if_neg (by have := (nI_leI (by omega) (by omega)).mp c; omega)] at h
    rw [nI_2, nI_clamp (by omega), hM (2 + κ) (by omega)]
    exact sp_X11_loud (by omega) hL hT h35 hκ ⟨_, rfl, rfl, h⟩
  · rw [hM 1 (by omega)] at c
    rw [if_pos (by rcases Nat.lt_or_ge t (ρ 1) with q | q; exact q; exact absurd (nI_le q (by omega)) c)] at h
    rw [nI_8, nI_clamp (by omega), hM _ (by omega)]
    exact h
theorem sp_X11_round (hd : 2 ≤ d) (hL : z_L S) (hM : p_M v ρ) (hT : p_MT v (ρ 0)) (h35 : ρ 0 = 3 ∨ ρ 0 = 5) (h8 : ρ 1 < 8) (h : ∀ v1, p_M v1 (p_rnd ρ) → z_fr 224 224 v v1 → Q none S v1) : z_J G d mX11_round (0, [.ref 223, .null], [], S, v) Q := by
  obtain ⟨d, rfl⟩ : ∃ e, d = e + 1 := ⟨d - 1, by omega⟩
  have cR : (nI (ρ 1)).toNatClampNeg = ρ 1 := nI_clamp (by omega)
  have i20 : ((2 : Int32) + 0).toNatClampNeg = 2 := by decide
  have i21 : ((2 : Int32) + (0 + 1)).toNatClampNeg = 3 := by decide
  have i40 : ((4 : Int32) + 0).toNatClampNeg = 4 := by decide
  have i41 : ((4 : Int32) + (0 + 1)).toNatClampNeg = 5 := by decide
  have i60 : (6 : Int32) + (8 : Int32) * 0 + nI (ρ 1) = nI (6 + ρ 1) := nI_8 0 (ρ 1)
  have i61 : (6 : Int32) + (8 : Int32) * (0 + 1) + nI (ρ 1) = nI (14 + ρ 1) := nI_8 1 (ρ 1)
  refine sg_X11_round_0 (sg_X11_round_2 hL ⟨fun c => absurd c (by decide), fun _ => ⟨z_vin (by decide), ?_⟩⟩)
  rw [i20, hM 2 (by omega), hM 1 (by omega)]
  refine sp_X11_loud (κ := 0) (by omega) hL hT h35 (by omega) ⟨_, rfl, rfl, z_vin (by decide), by rw [i60]; exact vp_in_nI (by omega) (by omega), fun v3 e3 => ⟨z_vin (by decide), fun v4 e4 => ?_⟩⟩
  rw [i60, nI_clamp (by omega), i40, hM 4 (by omega), nx_xor] at e3
  rw [i40, e3] at e4
  have f4 : z_fr 224 224 v v4 := by rw [e4]; exact (z_fr.rf.u (by omega) (by omega)).u (by omega) (by omega)
  refine sg_X11_round_2 hL ⟨fun c => absurd c (by decide), fun _ => ⟨z_vin (by decide), ?_⟩⟩
  have q1 : v4 224 1 = nI (ρ 1) := by rw [e4]; simp (disch := omega) only [z_ue, z_un]; exact hM 1 (by omega)
  have q3 : v4 224 3 = nI (ρ 3) := by rw [e4]; simp (disch := omega) only [z_ue, z_un]; exact hM 3 (by omega)
  have q5 : v4 224 5 = nI (ρ 5) := by rw [e4]; simp (disch := omega) only [z_ue, z_un]; exact hM 5 (by omega)
  rw [i21, q3, q1]
  refine sp_X11_loud (κ := 1) (by omega) hL (hT.fr (by rw [f4 223 (by omega)]) (fun a _ _ => f4 a (by omega))) h35 (by omega) ⟨_, rfl, rfl, z_vin (by decide), by rw [i61]; exact vp_in_nI (by omega) (by omega), fun v5 e5 => ⟨z_vin (by decide), fun v6 e6 => ?_⟩⟩
  rw [i61, nI_clamp (by omega), i41, q5, nx_xor] at e5
  rw [i41, e5] at e6
  refine sg_X11_round_2 hL ⟨fun _ v7 e7 => ?_, fun c => absurd (by decide) c⟩
  have r6 : v6 224 1 = nI (ρ 1) := by rw [e6]; simp (disch := omega) only [z_ue, z_un]; exact q1
  rw [r6, nI_1, e6, e4] at e7
  refine h v7 (fun i hi => ?_) ?_
  · rw [e7]
    unfold p_rnd
    by_cases h1 : i = 1
    · simp (disch := omega) only [p_ue, p_un, z_ue, z_un]
    by_cases h5 : i = 5
    · simp (disch := omega) only [p_ue, p_un, z_ue, z_un]; rfl
    by_cases h14 : i = 14 + ρ 1
    · simp (disch := omega) only [p_ue, p_un, z_ue, z_un]
    by_cases h4 : i = 4
    · simp (disch := omega) only [p_ue, p_un, z_ue, z_un]; rfl
    by_cases h6 : i = 6 + ρ 1
    · simp (disch := omega) only [p_ue, p_un, z_ue, z_un]
    · simp (disch := omega) only [p_ue, p_un, z_ue, z_un]; exact hM i hi
  · rw [e7]; exact ((((z_fr.rf.u (by omega) (by omega)).u (by omega) (by omega)).u (by omega) (by omega)).u (by omega) (by omega)).u (by omega) (by omega)
/-- copies of a row of 71 from one array to another -/
theorem sp_X11_copies {a b x y : Nat} (ha : z_k S a = 21) (hb : z_k S b = 21) (hab : a ≠ b) (hx : x + 71 ≤ z_l S a) (hy : y + 71 ≤ z_l S b) (la : z_l S a < 2 ^ 30) (lb : z_l S b < 2 ^ 30)
    (h : ∀ g, (∀ i, i < 71 → g (y + i) = v a (x + i)) → (∀ i, i < y ∨ y + 71 ≤ i → g i = v b i) → Q none S (z_ua v b g)) : z_J G d mX11_copies (0, [.ref 223, .ref a, .int (nI x), .ref b, .int (nI y), .null], [], S, v) Q := by
  have key : ∀ j k g, k + j = 71 → (∀ i, i < k → g (y + i) = v a (x + i)) → (∀ i, i < y ∨ y + k ≤ i → g i = v b i) → z_J G d mX11_copies (3, [.ref 223, .ref a, .int (nI x), .ref b, .int (nI y), .int (nI k)], [], S, z_ua v b g) Q := by
    intro j
    induction j with
    | zero =>
      intro k g hk h1 h2
      have hk : k = 71 := by omega
      subst hk
      exact sg_X11_copies_3 ha hb ⟨fun _ => h g h1 h2, fun c => absurd (by decide) c⟩
    | succ j ih =>
      intro k g hk h1 h2
      refine sg_X11_copies_3 ha hb ⟨fun c => absurd c (nI_ge (a := k) (b := 71) (by omega) (by omega)), fun _ => ⟨by rw [nI_add]; exact vp_in_nI (by omega) (by omega), by rw [nI_add]; exact vp_in_nI (by omega) (by omega), fun v1 e1 => ?_⟩⟩
      rw [nI_add, nI_add, nI_clamp (by omega), nI_clamp (by omega), z_ua_ne hab] at e1
      have e2 : v1 = z_ua v b (upd g (y + k) (v a (x + k))) := by
        rw [e1]
        funext q
        by_cases hq : q = b
        · subst hq; rw [z_u_eq, z_ua_eq, z_ua_eq]
        · rw [z_u_ne hq, z_ua_ne hq, z_ua_ne hq]
      rw [e2, nI_1]
      refine ih (k + 1) _ (by omega) (fun i hi => ?_) (fun i hi => ?_)
      · by_cases e : i = k
        · subst e; simp [upd]
        · have : ¬ y + i = y + k := by omega
          simp only [upd, if_neg this]
          exact h1 i (by omega)
      · have : ¬ i = y + k := by omega
        simp only [upd, if_neg this]
        exact h2 i (by omega)
  have e0 : v = z_ua v b (v b) := by
    funext q
    by_cases hq : q = b
    · subst hq; rw [z_ua_eq]
    · rw [z_ua_ne hq]
  have K := key 71 0 (v b) (by omega) (fun i hi => by omega) (fun i _ => rfl)
  rw [← e0] at K
  exact sg_X11_copies_0 ha hb K
end M1
