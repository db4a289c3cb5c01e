/-! DRAWS: rounds that are drawn, of the class and of the reference -/
abbrev p_st : Type := (Nat → Nat) × Int32 × Nat
/-- how seeds follow each other, what is drawn by one -/
abbrev p_N : Type := (Int32 → Int32) × (Int32 → Nat)
def p_dr (s : Int32) : Nat := s.toBitVec.toNat / 256 % 64
theorem p_us8 (x : Int32) : z_us x 8 = nI (x.toBitVec.toNat / 256) := by
  have h := pk_ushr x 8 8 (by decide)
  apply Int32.toBitVec_inj.1
  apply BitVec.eq_of_toNat_eq
  show (z_us x 8).toBitVec.toNat = (nI (x.toBitVec.toNat / 256)).toBitVec.toNat
  rw [pk_tn (by have := x.toBitVec.isLt; omega)]
  exact h
theorem p_drI (s : Int32) : z_us s 8 - z_us s 8 / 64 * 64 = nI (p_dr s) := by
  rw [p_us8, show (64 : Int32) = nI 64 from rfl, pk_rem (by have := s.toBitVec.isLt; omega) (by omega) (by omega)]
  rfl
theorem p_dr_lt (s : Int32) : p_dr s < 64 := Nat.mod_lt _ (by omega)
def p_Nok (N : p_N) : Prop := (∀ s, s * 1103515245 + 12345 = N.1 s) ∧ (∀ s, z_us s 8 - z_us s 8 / 64 * 64 = nI (N.2 s)) ∧ ∀ s, N.2 s < 64
theorem p_Nex : ∃ N, p_Nok N := ⟨(fun s => s * 1103515245 + 12345, p_dr), fun _ => rfl, p_drI, p_dr_lt⟩
def p_sl (ρ : Nat → Nat) (κ q : Nat) : Nat → Nat := p_up ρ (2 + κ) (ρ (2 + κ) ^^^ 2 ^ q)
/-- slips of a qubit by a draw: the row, how many came -/
def p_sd (E X q : Nat) (ρ : Nat → Nat) : (Nat → Nat) × Nat := if X < 3 * E then (if X < E then (p_sl ρ 0 q, 1) else if X < 2 * E then (p_sl ρ 1 q, 1) else (p_sl (p_sl ρ 0 q) 1 q, 2)) else (ρ, 0)
def p_q1 (N : p_N) (E q : Nat) (st : p_st) : p_st := ((p_sd E (N.2 (N.1 st.2.1)) q st.1).1, N.1 st.2.1, st.2.2 + (p_sd E (N.2 (N.1 st.2.1)) q st.1).2)
def p_qn (N : p_N) (E : Nat) (st : p_st) : Nat → p_st
  | 0 => st
  | q + 1 => p_q1 N E q (p_qn N E st q)
def p_m1 (N : p_N) (E κ k : Nat) (st : p_st) : p_st := (if N.2 (N.1 st.2.1) < E then p_up st.1 (4 + κ) (st.1 (4 + κ) ^^^ 2 ^ k) else st.1, N.1 st.2.1, st.2.2)
def p_mn (N : p_N) (E κ : Nat) (st : p_st) : Nat → p_st
  | 0 => st
  | k + 1 => p_m1 N E κ k (p_mn N E κ st k)
def p_md (N : p_N) (E d : Nat) (st : p_st) : p_st := p_mn N E 1 (p_mn N E 0 (p_qn N E st (d * d)) (t_K d)) (t_K d)
def p_r1 (N : p_N) (E d : Nat) (st : p_st) : p_st := (p_rnd (p_md N E d st).1, (p_md N E d st).2.1, (p_md N E d st).2.2)
def p_rn (N : p_N) (E d : Nat) (st : p_st) : Nat → p_st
  | 0 => st
  | t + 1 => p_r1 N E d (p_rn N E d st t)
theorem p_sl_o {ρ : Nat → Nat} {κ q i : Nat} (h : i ≠ 2 + κ) : p_sl ρ κ q i = ρ i := p_un h
theorem p_sd_o {E X q i : Nat} {ρ : Nat → Nat} (h2 : i ≠ 2) (h3 : i ≠ 3) : (p_sd E X q ρ).1 i = ρ i := by
  unfold p_sd
  split
  · split
    · exact p_sl_o h2
    · split
      · exact p_sl_o h3
      · exact (p_sl_o h3).trans (p_sl_o h2)
  · rfl
theorem p_qn_o {N : p_N} {E i : Nat} {st : p_st} (h2 : i ≠ 2) (h3 : i ≠ 3) : ∀ q, (p_qn N E st q).1 i = st.1 i
  | 0 => rfl
  | q + 1 => (p_sd_o h2 h3).trans (p_qn_o h2 h3 q)
theorem p_m1_o {N : p_N} {E κ k i : Nat} {st : p_st} (h : i ≠ 4 + κ) : (p_m1 N E κ k st).1 i = st.1 i := by
  unfold p_m1
  dsimp only
  split
  · exact p_un h
  · rfl
theorem p_mn_o {N : p_N} {E κ i : Nat} {st : p_st} (h : i ≠ 4 + κ) : ∀ k, (p_mn N E κ st k).1 i = st.1 i
  | 0 => rfl
  | k + 1 => (p_m1_o h).trans (p_mn_o h k)
theorem p_md_o {N : p_N} {E d i : Nat} {st : p_st} (h2 : i ≠ 2) (h3 : i ≠ 3) (h4 : i ≠ 4) (h5 : i ≠ 5) : (p_md N E d st).1 i = st.1 i := (p_mn_o (κ := 1) h5 _).trans ((p_mn_o (κ := 0) h4 _).trans (p_qn_o h2 h3 _))
theorem p_V_up2 {ρ : Nat → Nat} {κ x : Nat} (h : p_V ρ) (hκ : κ < 2) (hx : x < 2 ^ (ρ 0 * ρ 0)) : p_V (p_up ρ (2 + κ) x) := by
  obtain ⟨h0, h1, h2, h3⟩ := h
  have e0 : p_up ρ (2 + κ) x 0 = ρ 0 := p_un (by omega)
  refine ⟨by rw [e0]; exact h0, by rw [p_un (by omega)]; exact h1, fun c hc => ?_, fun q hq => by rw [p_un (by omega)]; exact h3 q hq⟩
  rw [e0]
  obtain ⟨a1, a2, a3, a4⟩ := h2 c hc
  refine ⟨?_, by rw [p_un (by omega)]; exact a2, fun t ht => by rw [p_un (by omega)]; exact a3 t ht, fun k hk => by rw [p_un (by omega)]; exact a4 k hk⟩
  by_cases e : c = κ
  · rw [p_ue (by omega)]; exact hx
  · rw [p_un (by omega)]; exact a1
theorem p_V_up4 {ρ : Nat → Nat} {κ x : Nat} (h : p_V ρ) (hκ : κ < 2) (hx : x < 2 ^ t_K (ρ 0)) : p_V (p_up ρ (4 + κ) x) := by
  obtain ⟨h0, h1, h2, h3⟩ := h
  have e0 : p_up ρ (4 + κ) x 0 = ρ 0 := p_un (by omega)
  refine ⟨by rw [e0]; exact h0, by rw [p_un (by omega)]; exact h1, fun c hc => ?_, fun q hq => by rw [p_un (by omega)]; exact h3 q hq⟩
  rw [e0]
  obtain ⟨a1, a2, a3, a4⟩ := h2 c hc
  refine ⟨by rw [p_un (by omega)]; exact a1, ?_, fun t ht => by rw [p_un (by omega)]; exact a3 t ht, fun k hk => by rw [p_un (by omega)]; exact a4 k hk⟩
  by_cases e : c = κ
  · rw [p_ue (by omega)]; exact hx
  · rw [p_un (by omega)]; exact a2
theorem p_V_sl {ρ : Nat → Nat} {κ q : Nat} (h : p_V ρ) (hκ : κ < 2) (hq : q < ρ 0 * ρ 0) : p_V (p_sl ρ κ q) := p_V_up2 h hκ (Nat.xor_lt_two_pow ((h.2.2.1 κ hκ).1) (Nat.pow_lt_pow_right (by omega) hq))
theorem p_V_sd {ρ : Nat → Nat} {E X q : Nat} (h : p_V ρ) (hq : q < ρ 0 * ρ 0) : p_V (p_sd E X q ρ).1 := by
  unfold p_sd
  split
  · split
    · exact p_V_sl h (by omega) hq
    · split
      · exact p_V_sl h (by omega) hq
      · exact p_V_sl (p_V_sl h (by omega) hq) (by omega) (by rw [p_sl_o (by omega)]; exact hq)
  · exact h
theorem p_V_qn {N : p_N} {E : Nat} {st : p_st} (h : p_V st.1) : ∀ q, q ≤ st.1 0 * st.1 0 → p_V (p_qn N E st q).1
  | 0, _ => h
  | q + 1, hq => p_V_sd (p_V_qn h q (by omega)) (by rw [p_qn_o (by omega) (by omega)]; omega)
theorem p_V_mn {N : p_N} {E κ : Nat} {st : p_st} (h : p_V st.1) (hκ : κ < 2) : ∀ k, k ≤ t_K (st.1 0) → p_V (p_mn N E κ st k).1
  | 0, _ => h
  | k + 1, hk => by
    have ih := p_V_mn (N := N) (E := E) h hκ k (by omega)
    show p_V (p_m1 N E κ k (p_mn N E κ st k)).1
    unfold p_m1
    dsimp only
    split
    · refine p_V_up4 ih hκ (Nat.xor_lt_two_pow ((ih.2.2.1 κ hκ).2.1) (Nat.pow_lt_pow_right (by omega) ?_))
      rw [p_mn_o (by omega)]; omega
    · exact ih
theorem p_V_md {N : p_N} {E : Nat} {st : p_st} (h : p_V st.1) : p_V (p_md N E (st.1 0) st).1 := by
  have h1 := p_V_qn (N := N) (E := E) h (st.1 0 * st.1 0) (Nat.le_refl _)
  have e1 : (p_qn N E st (st.1 0 * st.1 0)).1 0 = st.1 0 := p_qn_o (by omega) (by omega) _
  have h2 := p_V_mn (N := N) (E := E) (κ := 0) h1 (by omega) (t_K (st.1 0)) (by rw [e1]; exact Nat.le_refl _)
  have e2 : (p_mn N E 0 (p_qn N E st (st.1 0 * st.1 0)) (t_K (st.1 0))).1 0 = st.1 0 := (p_mn_o (by omega) _).trans e1
  exact p_V_mn (N := N) (E := E) (κ := 1) h2 (by omega) (t_K (st.1 0)) (by rw [e2]; exact Nat.le_refl _)
theorem p_rn_0 {N : p_N} {E d : Nat} {st : p_st} : ∀ t, (p_rn N E d st t).1 0 = st.1 0
  | 0 => rfl
  | t + 1 => by
    show p_rnd _ 0 = _
    unfold p_rnd
    simp (disch := omega) only [p_un]
    rw [p_md_o (by omega) (by omega) (by omega) (by omega)]
    exact p_rn_0 t
theorem p_rn_1 {N : p_N} {E d : Nat} {st : p_st} : ∀ t, (p_rn N E d st t).1 1 = st.1 1 + t
  | 0 => rfl
  | t + 1 => by
    show p_rnd _ 1 = _
    unfold p_rnd
    simp (disch := omega) only [p_ue]
    rw [p_md_o (by omega) (by omega) (by omega) (by omega), p_rn_1 t]
    rfl
theorem p_V_rn {N : p_N} {E : Nat} {st : p_st} (h : p_V st.1) : ∀ t, st.1 1 + t ≤ 8 → p_V (p_rn N E (st.1 0) st t).1
  | 0, _ => h
  | t + 1, ht => by
    have ih := p_V_rn (N := N) (E := E) h t (by omega)
    have e0 := p_rn_0 (N := N) (E := E) (d := st.1 0) (st := st) t
    have := p_V_md (N := N) (E := E) ih
    rw [e0] at this
    refine p_rnd_V this ?_
    rw [p_md_o (by omega) (by omega) (by omega) (by omega), p_rn_1]
    omega
theorem p_F.up2 {S : z_Shp} {v : z_Dat} {f κ x : Nat} {ρ : Nat → Nat} (h : p_F S v f ρ) (hκ : κ < 2) : p_F S (z_u v (f + 1) κ (nI x)) f (p_up ρ (2 + κ) x) := by
  obtain ⟨h0, h1, h2, h3⟩ := h
  refine ⟨by rw [p_un (by omega)]; exact h0, by rw [p_un (by omega), z_un (by omega)]; exact h1, fun c hc => ?_, fun q hq => by rw [p_un (by omega), z_un (by omega)]; exact h3 q hq⟩
  obtain ⟨a1, a2, a3, a4⟩ := h2 c hc
  refine ⟨?_, by rw [p_un (by omega), z_un (by omega)]; exact a2, fun t ht => by rw [p_un (by omega), z_un (by omega)]; exact a3 t ht, fun k hk => by rw [p_un (by omega), z_un (by omega)]; exact a4 k hk⟩
  by_cases e : c = κ
  · rw [p_ue (by omega), z_ue rfl e]
  · rw [p_un (by omega), z_un (by omega)]; exact a1
theorem p_F.up4 {S : z_Shp} {v : z_Dat} {f κ x : Nat} {ρ : Nat → Nat} (h : p_F S v f ρ) (hκ : κ < 2) : p_F S (z_u v (f + 2) κ (nI x)) f (p_up ρ (4 + κ) x) := by
  obtain ⟨h0, h1, h2, h3⟩ := h
  refine ⟨by rw [p_un (by omega)]; exact h0, by rw [p_un (by omega), z_un (by omega)]; exact h1, fun c hc => ?_, fun q hq => by rw [p_un (by omega), z_un (by omega)]; exact h3 q hq⟩
  obtain ⟨a1, a2, a3, a4⟩ := h2 c hc
  refine ⟨by rw [p_un (by omega), z_un (by omega)]; exact a1, ?_, fun t ht => by rw [p_un (by omega), z_un (by omega)]; exact a3 t ht, fun k hk => by rw [p_un (by omega), z_un (by omega)]; exact a4 k hk⟩
  by_cases e : c = κ
  · rw [p_ue (by omega), z_ue rfl e]
  · rw [p_un (by omega), z_un (by omega)]; exact a2
theorem p_M.up {v : z_Dat} {i x : Nat} {ρ : Nat → Nat} (h : p_M v ρ) : p_M (z_u v 224 i (nI x)) (p_up ρ i x) := fun j hj => by
  by_cases e : j = i
  · rw [p_ue e, z_ue rfl e]
  · rw [p_un e, z_un (by omega)]; exact h j hj
theorem p_M.fr {v v1 : z_Dat} {ρ : Nat → Nat} (h : p_M v ρ) (hv : v1 224 = v 224) : p_M v1 ρ := fun i hi => by rw [hv]; exact h i hi
section DR
variable {G : z_G} {d : Nat} {S : z_Shp} {v : z_Dat} {Q : Option Value → z_Shp → z_Dat → Prop} {f κ : Nat} {ρ : Nat → Nat}
theorem nI_m (a : Nat) (k : Int32) {n : Nat} (hk : k = nI n) : k * nI a = nI (n * a) := by rw [hk, pk_mul]
theorem sp_X0_slipByDraw {E X q : Nat} (hL : z_L S) (hf : z_isF f) (hF : p_F S v f ρ) (hE : E ≤ 21) (hX : X < 64) (hq : q < 25) (h : ∀ v1, p_F S v1 f (p_sd E X q ρ).1 → z_fr f (f + 9) v v1 → Q (some (.int (nI (p_sd E X q ρ).2))) S v1) : z_J G d mX0_slipByDraw (0, [.ref f, .int (nI X), .int (nI E), .int (nI q), .null], [], S, v) Q := by
  have e3 : (3 : Int32) * nI E = nI (3 * E) := nI_m E 3 rfl
  have e2 : (2 : Int32) * nI E = nI (2 * E) := nI_m E 2 rfl
  have l3 : nI X < nI (3 * E) ↔ X < 3 * E := nI_ltI (by omega) (by omega)
  have l2 : nI X < nI (2 * E) ↔ X < 2 * E := nI_ltI (by omega) (by omega)
  have l1 : nI X < nI E ↔ X < E := nI_ltI (by omega) (by omega)
  have g1 : nI E ≤ nI X ↔ E ≤ X := nI_leI (by omega) (by omega)
  have hs0 : v (f + 1) 0 = nI (ρ 2) := (hF.2.2.1 0 (by omega)).1
  have hs1 : v (f + 1) 1 = nI (ρ 3) := (hF.2.2.1 1 (by omega)).1
  unfold p_sd at h
  refine sg_X0_slipByDraw_0 hL hf ?_
  rw [e3, e2, l3, l2, l1, g1, zb_1 (by omega), hs0, hs1, nx_xor, nx_xor]
  refine ⟨fun c3 => ⟨fun c2 => ⟨fun c1 => ⟨fun c => by omega, fun _ v1 e1 => ?_⟩, fun c1 v2 e2 => ⟨fun _ => ?_, fun c => by omega⟩⟩, fun c2 v4 e4 v5 e5 => ?_⟩, fun c3 => ?_⟩
  · rw [if_pos c3, if_neg (by omega), if_pos c2] at h
    exact h v1 (by rw [e1]; exact hF.up2 (κ := 1) (by omega)) (by rw [e1]; exact z_fr.rf.u (by omega) (by omega))
  · rw [if_pos c3, if_pos (by omega)] at h
    exact h v2 (by rw [e2]; exact hF.up2 (κ := 0) (by omega)) (by rw [e2]; exact z_fr.rf.u (by omega) (by omega))
  · rw [if_pos c3, if_neg (by omega), if_neg c2] at h
    have F4 : p_F S v4 f (p_sl ρ 0 q) := by rw [e4]; exact hF.up2 (κ := 0) (by omega)
    have s4 : v4 (f + 1) 1 = nI (ρ 3) := by rw [e4, z_un (by omega)]; exact hs1
    rw [s4, nx_xor] at e5
    refine h v5 ?_ (by rw [e5, e4]; exact (z_fr.rf.u (by omega) (by omega)).u (by omega) (by omega))
    rw [e5]
    have := F4.up2 (κ := 1) (x := ρ 3 ^^^ 2 ^ q) (by omega)
    have e9 : p_sl (p_sl ρ 0 q) 1 q = p_up (p_sl ρ 0 q) (2 + 1) (ρ 3 ^^^ 2 ^ q) := by
      show p_up (p_sl ρ 0 q) (2 + 1) (p_sl ρ 0 q (2 + 1) ^^^ 2 ^ q) = _
      rw [p_sl_o (by omega)]
    rw [e9]
    exact this
  · rw [if_neg c3] at h
    exact h v hF z_fr.rf
/-- Fabric.drawRounds -/
theorem sp_X0_drawRounds {N : p_N} {E T : Nat} {sd : Int32} (hN : p_Nok N) (hd : 3 ≤ d) (hL : z_L S) (hW : p_Ws v) (hf : z_isF f) (hF : p_F S v f ρ) (hE : E ≤ 21) (hT : ρ 1 + T ≤ 8)
    (h : ∀ v1, p_F S v1 f (p_rn N E (ρ 0) (ρ, sd, 0) T).1 → z_fr f (f + 9) v v1 → Q (some (.int (nI (p_rn N E (ρ 0) (ρ, sd, 0) T).2.2))) S v1) : z_J G d mX0_drawRounds (0, [.ref f, .int (nI T), .int (nI E), .int sd, .null, .null, .null, .null, .null], [], S, v) Q := by
  obtain ⟨d, rfl⟩ : ∃ e, d = e + 1 := ⟨d - 1, by omega⟩
  have hge := zF_ge hf
  obtain ⟨w, hr, hwd⟩ := id hF.1
  have hw36 : w + 17 ≤ 36 := by rcases hwd with ⟨rfl, -⟩ | ⟨rfl, -⟩ <;> omega
  have hdd := p_wdd hwd
  have hwP := p_wdP hW hwd
  generalize hDD : ρ 0 = D at *
  have hD25 : D * D ≤ 25 := by rcases hdd with rfl | rfl <;> omega
  have hK := t_Kle hdd
  -- marks of a kind
  have marks : ∀ (κ : Nat), κ < 2 → ∀ (st : p_st) (t : Nat) (K : ∀ v1, p_F S v1 f (p_mn N E κ st (t_K D)).1 → z_fr f (f + 9) v v1 → z_J G (d + 1) mX0_drawRounds (63, [.ref f, .int (nI T), .int (nI E), .int sd, .int (p_mn N E κ st (t_K D)).2.1, .int (nI (p_mn N E κ st (t_K D)).2.2), .int (nI t), .int (nI (κ + 1)), .null], [], S, v1) Q),
      ∀ j k v1, k + j = t_K D → p_F S v1 f (p_mn N E κ st k).1 → z_fr f (f + 9) v v1 → z_J G (d + 1) mX0_drawRounds (72, [.ref f, .int (nI T), .int (nI E), .int sd, .int (p_mn N E κ st k).2.1, .int (nI (p_mn N E κ st k).2.2), .int (nI t), .int (nI κ), .int (nI k)], [], S, v1) Q := by
    intro κ hκ st t K j
    induction j with
    | zero =>
      intro k v1 hk hF1 hv1
      have hk : k = t_K D := by omega
      subst hk
      have hc : v1 w 2 = nI (t_K D) := by rw [hv1 w (by omega)]; exact hwP.2.2.1
      refine sg_X0_drawRounds_72 hL hf hr (p_wdW hwd) ⟨fun _ => ?_, fun c => absurd ?_ c⟩
      · rw [nI_1]; exact K v1 hF1 hv1
      · rw [hc]; exact nI_le (Nat.le_refl _) (by omega)
    | succ j ih =>
      intro k v1 hk hF1 hv1
      have hc : v1 w 2 = nI (t_K D) := by rw [hv1 w (by omega)]; exact hwP.2.2.1
      have hm : v1 (f + 2) κ = nI ((p_mn N E κ st k).1 (4 + κ)) := (hF1.2.2.1 κ hκ).2.1
      have hdr : z_dr (N.1 (p_mn N E κ st k).2.1) = nI (N.2 (N.1 (p_mn N E κ st k).2.1)) := hN.2.1 _
      have hlt := hN.2.2 (N.1 (p_mn N E κ st k).2.1)
      refine sg_X0_drawRounds_72 hL hf hr (p_wdW hwd) ?_
      rw [hN.1]
      refine ⟨fun c => ?_, fun _ => ⟨vp_in_nI hκ (by omega), fun c => ⟨vp_in_nI hκ (by omega), fun v2 e2 => ?_⟩, fun c => ⟨vp_in_nI hκ (by omega), fun v2 e2 => ?_⟩⟩⟩
      · rw [hc] at c; exact absurd c (nI_ge (by omega) (by omega))
      · rw [hdr] at c
        have c := (nI_leI (by omega) (by omega)).mp c
        rw [nI_clamp (by omega), hm, show (0 : Int32) = nI 0 from rfl, nx_xor, Nat.xor_zero] at e2
        have em : p_mn N E κ st (k + 1) = ((p_mn N E κ st k).1, N.1 (p_mn N E κ st k).2.1, (p_mn N E κ st k).2.2) := by
          show p_m1 N E κ k (p_mn N E κ st k) = _
          unfold p_m1
          rw [if_neg (by omega)]
        have F2 : p_F S v2 f (p_mn N E κ st (k + 1)).1 := by
          rw [em, e2]
          have := hF1.up4 (κ := κ) (x := (p_mn N E κ st k).1 (4 + κ)) hκ
          have e9 : p_up (p_mn N E κ st k).1 (4 + κ) ((p_mn N E κ st k).1 (4 + κ)) = (p_mn N E κ st k).1 := by
            funext i
            by_cases e : i = 4 + κ
            · rw [p_ue e, e]
            · rw [p_un e]
          rw [e9] at this
          exact this
        have I := ih (k + 1) v2 (by omega) F2 (by rw [e2]; exact hv1.u (by omega) (by omega))
        rw [em] at I
        rw [nI_1]
        exact I
      · rw [hdr] at c
        have c : ¬ E ≤ N.2 (N.1 (p_mn N E κ st k).2.1) := fun q => c (nI_le q (by omega))
        rw [nI_clamp (by omega), hm, zb_1 (by omega), nx_xor] at e2
        have em : p_mn N E κ st (k + 1) = (p_up (p_mn N E κ st k).1 (4 + κ) ((p_mn N E κ st k).1 (4 + κ) ^^^ 2 ^ k), N.1 (p_mn N E κ st k).2.1, (p_mn N E κ st k).2.2) := by
          show p_m1 N E κ k (p_mn N E κ st k) = _
          unfold p_m1
          rw [if_pos (by omega)]
        have F2 : p_F S v2 f (p_mn N E κ st (k + 1)).1 := by
          rw [em, e2]
          exact hF1.up4 hκ
        have I := ih (k + 1) v2 (by omega) F2 (by rw [e2]; exact hv1.u (by omega) (by omega))
        rw [em] at I
        rw [nI_1]
        exact I
  -- slips of the qubits
  have slips : ∀ (st : p_st) (t : Nat) (K : ∀ v1, p_F S v1 f (p_qn N E st (D * D)).1 → z_fr f (f + 9) v v1 → z_J G (d + 1) mX0_drawRounds (63, [.ref f, .int (nI T), .int (nI E), .int sd, .int (p_qn N E st (D * D)).2.1, .int (nI (p_qn N E st (D * D)).2.2), .int (nI t), .int 0, .null], [], S, v1) Q),
      ∀ j q v1, q + j = D * D → p_F S v1 f (p_qn N E st q).1 → z_fr f (f + 9) v v1 → z_J G (d + 1) mX0_drawRounds (18, [.ref f, .int (nI T), .int (nI E), .int sd, .int (p_qn N E st q).2.1, .int (nI (p_qn N E st q).2.2), .int (nI t), .int (nI q), .null], [], S, v1) Q := by
    intro st t K j
    induction j with
    | zero =>
      intro q v1 hq hF1 hv1
      have hq : q = D * D := by omega
      subst hq
      have hc : v1 w 1 = nI (D * D) := by rw [hv1 w (by omega)]; exact hwP.2.1
      refine sg_X0_drawRounds_18 hL hf hr (p_wdW hwd) ⟨fun _ => K v1 hF1 hv1, fun c => absurd ?_ c⟩
      rw [hc]; exact nI_le (Nat.le_refl _) (by omega)
    | succ j ih =>
      intro q v1 hq hF1 hv1
      have hc : v1 w 1 = nI (D * D) := by rw [hv1 w (by omega)]; exact hwP.2.1
      have hdr : z_dr (N.1 (p_qn N E st q).2.1) = nI (N.2 (N.1 (p_qn N E st q).2.1)) := hN.2.1 _
      refine sg_X0_drawRounds_18 hL hf hr (p_wdW hwd) ?_
      rw [hN.1]
      refine ⟨fun c => ?_, fun _ => ?_⟩
      · rw [hc] at c; exact absurd c (nI_ge (by omega) (by omega))
      · rw [hdr]
        refine sp_X0_slipByDraw hL hf hF1 hE (hN.2.2 _) (by omega) (fun v2 F2 f2 => ⟨_, rfl, rfl, ?_⟩)
        rw [nI_add, nI_1]
        exact ih (q + 1) v2 (by omega) F2 (hv1.tr f2)
  -- rounds
  have rounds : ∀ j t v1, t + j = T → p_F S v1 f (p_rn N E D (ρ, sd, 0) t).1 → z_fr f (f + 9) v v1 → z_J G (d + 1) mX0_drawRounds (9, [.ref f, .int (nI T), .int (nI E), .int sd, .int (p_rn N E D (ρ, sd, 0) t).2.1, .int (nI (p_rn N E D (ρ, sd, 0) t).2.2), .int (nI t), .null, .null], [], S, v1) Q := by
    intro j
    induction j with
    | zero =>
      intro t v1 ht hF1 hv1
      have ht : t = T := by omega
      subst ht
      exact sg_X0_drawRounds_9 hf ⟨fun _ => h v1 hF1 hv1, fun c => absurd (nI_le (Nat.le_refl _) (by omega)) c⟩
    | succ j ih =>
      intro t v1 ht hF1 hv1
      refine sg_X0_drawRounds_9 hf ⟨fun c => absurd c (nI_ge (by omega) (by omega)), fun _ => ?_⟩
      refine slips (p_rn N E D (ρ, sd, 0) t) t (fun v2 F2 f2 => ?_) (D * D) 0 v1 (by omega) hF1 hv1
      refine sg_X0_drawRounds_63 hL hf ⟨fun c => absurd c (by decide), fun _ => ?_⟩
      refine marks 0 (by omega) (p_qn N E (p_rn N E D (ρ, sd, 0) t) (D * D)) t (fun v3 F3 f3 => ?_) (t_K D) 0 v2 (by omega) F2 f2
      refine sg_X0_drawRounds_63 hL hf ⟨fun c => absurd c (by decide), fun _ => ?_⟩
      refine marks 1 (by omega) (p_mn N E 0 (p_qn N E (p_rn N E D (ρ, sd, 0) t) (D * D)) (t_K D)) t (fun v4 F4 f4 => ?_) (t_K D) 0 v3 (by omega) F3 f3
      have e0 : (p_md N E D (p_rn N E D (ρ, sd, 0) t)).1 0 = D := by
        rw [p_md_o (by omega) (by omega) (by omega) (by omega), p_rn_0]; exact hDD
      have e1 : (p_md N E D (p_rn N E D (ρ, sd, 0) t)).1 1 = ρ 1 + t := by
        rw [p_md_o (by omega) (by omega) (by omega) (by omega), p_rn_1]
      have F4 : p_F S v4 f (p_md N E D (p_rn N E D (ρ, sd, 0) t)).1 := F4
      refine sg_X0_drawRounds_63 hL hf ⟨fun _ => ?_, fun c => absurd (by decide) c⟩
      refine sp_X0_readAll (by omega) hL (hW.fr (fun a _ _ => f4 a (by omega))) hf F4 (by omega) (fun _ v5 F5 f5 => ⟨_, rfl, rfl, ?_⟩) (fun q => by omega)
      rw [nI_1]
      exact ih (t + 1) v5 (by omega) F5 (f4.tr f5)
  exact sg_X0_drawRounds_0 hf (rounds T 0 v (by omega) hF z_fr.rf)
end DR
