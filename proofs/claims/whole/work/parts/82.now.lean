/-! now, reading, image of both sides; check, qubit, edge of the reference -/
def n_now (ρ : Nat → Nat) (L i : Nat) : Nat := if i = 0 then ρ 0 else if i = 1 then ρ 1 else if i = 2 then t_K (ρ 0) else if i < 5 then ρ (2 + (i - 3)) else if i < 7 then p_lo (ρ 0) (i - 5) (ρ (2 + (i - 5))) else if i < 9 then ρ (4 + (i - 7)) else L
def a_nw (x : Int32) (i : Nat) : Prop := i < 10 ∧ x = nI i
theorem a_nw_u {x : Int32} (i j : Nat) (h : a_nw x i) (g : a_nw x j) : i = j := (nI_eq (by have := h.1; omega) (by have := g.1; omega)).mp (h.2.symm.trans g.2)
def a_now (ρ : Nat → Nat) (L : Nat) (x y : Int32) : Prop := a_o (a_nw x) (fun i => nI (n_now ρ L i)) (-1) y
def a_rdi (ρ : Nat → Nat) (x1 x2 : Int32) (i : Nat × Nat) : Prop := i.1 < 2 ∧ i.2 < ρ 1 ∧ x1 = nI i.1 ∧ x2 = nI i.2
theorem a_rdi_u {ρ : Nat → Nat} {x1 x2 : Int32} (h8 : ρ 1 ≤ 8) (i j : Nat × Nat) (h : a_rdi ρ x1 x2 i) (g : a_rdi ρ x1 x2 j) : i = j := by
  have e1 := (nI_eq (by have := h.1; omega) (by have := g.1; omega)).mp (h.2.2.1.symm.trans g.2.2.1)
  have e2 := (nI_eq (by have := h.2.1; omega) (by have := g.2.1; omega)).mp (h.2.2.2.symm.trans g.2.2.2)
  exact Prod.ext e1 e2
def a_read (ρ : Nat → Nat) (x1 x2 y : Int32) : Prop := a_o (a_rdi ρ x1 x2) (fun i => nI (ρ (6 + 8 * i.1 + i.2))) (-1) y
section NW
variable {G : z_G} {d : Nat} {S : z_Shp} {v v0 : z_Dat} {Q : Option Value → z_Shp → z_Dat → Prop} {ρ : Nat → Nat} {B : Nat × Nat × Nat} {n L : Nat} {r : Nat → Nat → Nat} {x1 x2 x3 : Int32}
theorem sp_X10_now (hd : 2 ≤ d) (hL : z_L S) (hV : p_V ρ) (hW : p_Ws v) (hF : p_F S v 37 ρ) (hl : v 141 0 = nI L) (h : ∀ y, a_now ρ L x1 y → Q (some (.int y)) S v) : z_J G d mX10_now (0, [.ref 0, .int x1], [], S, v) Q := by
  obtain ⟨d, rfl⟩ : ∃ e, d = e + 1 := ⟨d - 1, by omega⟩
  have hF0 := hF
  obtain ⟨⟨w, hw, hwd⟩, F1, F2, F3⟩ := hF
  have W := p_wdP hW hwd
  have yes : ∀ i, i < 10 → x1 = nI i → Q (some (.int (nI (n_now ρ L i)))) S v := fun i hi e => h _ (Or.inl ⟨i, ⟨hi, e⟩, rfl⟩)
  refine sg_X10_now_0 hL hw (p_wdW hwd) ⟨fun c => ?_, fun c => ?_, fun c => ?_, fun c => ?_, fun c => ?_, fun c => ?_, fun c => ?_, fun c => ?_, fun c => ?_, fun c => ?_, fun c0 c1 c2 c3 c4 c5 c6 c7 c8 c9 => ?_⟩
  · rw [W.1]; exact yes 0 (by omega) c
  · rw [F1]; exact yes 1 (by omega) c
  · rw [W.2.2.1]; exact yes 2 (by omega) c
  · subst c; exact ⟨by unfold vp_in; decide, by have := yes 3 (by omega) rfl; rw [show ((3 : Int32) - 3).toNatClampNeg = 0 from rfl, (F2 0 (by omega)).1]; exact this⟩
  · subst c; exact ⟨by unfold vp_in; decide, by have := yes 4 (by omega) rfl; rw [show ((4 : Int32) - 3).toNatClampNeg = 1 from rfl, (F2 1 (by omega)).1]; exact this⟩
  · subst c
    exact sp_X0_loudOnes (κ := 0) (by omega) hL hW zF_37 hF0 (by omega) ⟨_, rfl, rfl, yes 5 (by omega) rfl⟩
  · subst c
    exact sp_X0_loudOnes (κ := 1) (by omega) hL hW zF_37 hF0 (by omega) ⟨_, rfl, rfl, yes 6 (by omega) rfl⟩
  · subst c; exact ⟨by unfold vp_in; decide, by have := yes 7 (by omega) rfl; rw [show ((7 : Int32) - 7).toNatClampNeg = 0 from rfl, (F2 0 (by omega)).2.1]; exact this⟩
  · subst c; exact ⟨by unfold vp_in; decide, by have := yes 8 (by omega) rfl; rw [show ((8 : Int32) - 7).toNatClampNeg = 1 from rfl, (F2 1 (by omega)).2.1]; exact this⟩
  · rw [hl]; exact yes 9 (by omega) c
  · refine h _ (Or.inr ⟨fun ⟨i, hi, e⟩ => ?_, rfl⟩)
    rcases (show i = 0 ∨ i = 1 ∨ i = 2 ∨ i = 3 ∨ i = 4 ∨ i = 5 ∨ i = 6 ∨ i = 7 ∨ i = 8 ∨ i = 9 by omega) with rfl | rfl | rfl | rfl | rfl | rfl | rfl | rfl | rfl | rfl
    · exact c0 e
    · exact c1 e
    · exact c2 e
    · exact c3 e
    · exact c4 e
    · exact c5 e
    · exact c6 e
    · exact c7 e
    · exact c8 e
    · exact c9 e
theorem sp_X11_now (hd : 2 ≤ d) (hL : z_L S) (hV : p_V ρ) (hM : p_M v ρ) (hT : p_MT v (ρ 0)) (hl : v 223 8 = nI L) (h : ∀ v1 y, m_pk v v1 → a_now ρ L x1 y → Q (some (.int y)) S v1) : z_J G d mX11_now (0, [.ref 223, .int x1], [], S, v) Q := by
  obtain ⟨d, rfl⟩ : ∃ e, d = e + 1 := ⟨d - 1, by omega⟩
  refine sg_X11_now_0 hL (fun v1 e1 => ?_)
  have f0 : m_f6 v v1 := by rw [e1]; exact m_f6.u0
  have hM1 := f0.M hM
  have hT1 := f0.T hT
  have hl1 : v1 223 8 = nI L := by rw [f0.pk.2 8 (by unfold m_pf; omega)]; exact hl
  have yes : ∀ i, i < 10 → x1 = nI i → Q (some (.int (nI (n_now ρ L i)))) S v1 := fun i hi e => h v1 _ f0.pk (Or.inl ⟨i, ⟨hi, e⟩, rfl⟩)
  refine ⟨fun c => ?_, fun c => ?_, fun c => ?_, fun c => ?_, fun c => ?_, fun c => ?_, fun c => ?_, fun c => ?_, fun c => ?_, fun c => ?_, fun c0 c1 c2 c3 c4 c5 c6 c7 c8 c9 => ?_⟩
  · rw [hM1 0 (by omega)]; exact yes 0 (by omega) c
  · rw [hM1 1 (by omega)]; exact yes 1 (by omega) c
  · rw [hT1.1]; exact yes 2 (by omega) c
  · subst c; exact ⟨by unfold vp_in; decide, by have := yes 3 (by omega) rfl; rw [show ((2 : Int32) + 3 - 3).toNatClampNeg = 2 from rfl, hM1 2 (by omega)]; exact this⟩
  · subst c; exact ⟨by unfold vp_in; decide, by have := yes 4 (by omega) rfl; rw [show ((2 : Int32) + 4 - 3).toNatClampNeg = 3 from rfl, hM1 3 (by omega)]; exact this⟩
  · subst c
    refine ⟨by unfold vp_in; decide, ?_⟩
    rw [show ((2 : Int32) + 5 - 5).toNatClampNeg = 2 from rfl, hM1 2 (by omega)]
    exact sp_X11_loud (κ := 0) (by omega) hL hT1 hV.1 (by omega) ⟨_, rfl, rfl, yes 5 (by omega) rfl⟩
  · subst c
    refine ⟨by unfold vp_in; decide, ?_⟩
    rw [show ((2 : Int32) + 6 - 5).toNatClampNeg = 3 from rfl, hM1 3 (by omega)]
    exact sp_X11_loud (κ := 1) (by omega) hL hT1 hV.1 (by omega) ⟨_, rfl, rfl, yes 6 (by omega) rfl⟩
  · subst c; exact ⟨by unfold vp_in; decide, by have := yes 7 (by omega) rfl; rw [show ((4 : Int32) + 7 - 7).toNatClampNeg = 4 from rfl, hM1 4 (by omega)]; exact this⟩
  · subst c; exact ⟨by unfold vp_in; decide, by have := yes 8 (by omega) rfl; rw [show ((4 : Int32) + 8 - 7).toNatClampNeg = 5 from rfl, hM1 5 (by omega)]; exact this⟩
  · rw [hl1]; exact yes 9 (by omega) c
  · refine h v1 _ f0.pk (Or.inr ⟨fun ⟨i, hi, e⟩ => ?_, rfl⟩)
    rcases (show i = 0 ∨ i = 1 ∨ i = 2 ∨ i = 3 ∨ i = 4 ∨ i = 5 ∨ i = 6 ∨ i = 7 ∨ i = 8 ∨ i = 9 by omega) with rfl | rfl | rfl | rfl | rfl | rfl | rfl | rfl | rfl | rfl
    · exact c0 e
    · exact c1 e
    · exact c2 e
    · exact c3 e
    · exact c4 e
    · exact c5 e
    · exact c6 e
    · exact c7 e
    · exact c8 e
    · exact c9 e
theorem sp_X10_reading (hd : 2 ≤ d) (hL : z_L S) (hV : p_V ρ) (hF : p_F S v 37 ρ) (h : ∀ y, a_read ρ x1 x2 y → Q (some (.int y)) S v) : z_J G d mX10_reading (0, [.ref 0, .int x1, .int x2], [], S, v) Q := by
  obtain ⟨d, rfl⟩ : ∃ e, d = e + 1 := ⟨d - 1, by omega⟩
  have h8 := hV.2.1
  refine sg_X10_reading_0 hL ⟨fun c => ?_, fun c => h _ (Or.inr ⟨fun ⟨i, q⟩ => c (k_to q.1 q.2.2.1), rfl⟩)⟩
  obtain ⟨κ, hκ, rfl⟩ := k_of c
  refine sp_X10_isRound (ρ := ρ) hL hF.2.1 h8 (fun ⟨t, ht, e⟩ => ⟨_, rfl, rfl, fun _ => ?_, fun c => absurd c (by decide)⟩) (fun hn => ⟨_, rfl, rfl, fun c => absurd rfl c, fun _ => h _ (Or.inr ⟨fun ⟨i, q⟩ => hn ⟨i.2, q.2.1, q.2.2.2⟩, rfl⟩)⟩)
  subst e
  refine ⟨vp_in_nI (by omega) (by omega), vp_in_nI (by omega) (by omega), ?_⟩
  rw [nI_clamp (by omega), nI_clamp (by omega), show 37 + 4 + κ = 37 + 4 + κ from rfl, (hF.2.2.1 κ hκ).2.2.1 t (by omega)]
  exact h _ (Or.inl ⟨(κ, t), ⟨hκ, ht, rfl, rfl⟩, rfl⟩)
theorem sp_X11_reading (hd : 1 ≤ d) (hL : z_L S) (hV : p_V ρ) (hM : p_M v ρ) (h : ∀ v1 y, m_pk v v1 → a_read ρ x1 x2 y → Q (some (.int y)) S v1) : z_J G d mX11_reading (0, [.ref 223, .int x1, .int x2], [], S, v) Q := by
  obtain ⟨d, rfl⟩ : ∃ e, d = e + 1 := ⟨d - 1, by omega⟩
  have h8 := hV.2.1
  refine sg_X11_reading_0 hL (fun v1 e1 => ?_)
  have f0 : m_f6 v v1 := by rw [e1]; exact m_f6.u0
  have hM1 := f0.M hM
  rw [hM1 1 (by omega), ix_le (n := ρ 1) (by omega)]
  refine ⟨fun c => ?_, fun c => h v1 _ f0.pk (Or.inr ⟨fun ⟨i, q⟩ => c (k_to q.1 q.2.2.1), rfl⟩)⟩
  obtain ⟨κ, hκ, rfl⟩ := k_of c
  refine ⟨fun ⟨t, ht, e⟩ => ?_, fun c => h v1 _ f0.pk (Or.inr ⟨fun ⟨i, q⟩ => c ⟨i.2, q.2.1, q.2.2.2⟩, rfl⟩)⟩
  subst e
  rw [show (8 : Int32) = nI 8 from rfl, pk_mul, show (6 : Int32) = nI 6 from rfl, nI_add, nI_add, nI_clamp (by omega), hM1 _ (by omega)]
  exact ⟨vp_in_nI (by omega) (by omega), h v1 _ f0.pk (Or.inl ⟨(κ, t), ⟨hκ, ht, rfl, rfl⟩, rfl⟩)⟩
theorem sp_X10_image (hd : 2 ≤ d) (hI : e_I B S) (hF : p_F S v 37 ρ)
    (h1 : ∀ v1 k, k < 2 → x1 = nI k → p_F (e_Cp S (203 + 10 * k) 37) v1 (203 + 10 * k) ρ → v1 58 k = 1 → (∀ j, j ≠ k → v1 58 j = v 58 j) → (∀ b, b ≠ 58 → b < 203 + 10 * k ∨ 203 + 10 * k + 9 < b → v1 b = v b) → Q (some (.int 1)) (e_Cp S (203 + 10 * k) 37) v1)
    (h0 : (¬ ∃ k, k < 2 ∧ x1 = nI k) → Q (some (.int 0)) S v) : z_J G d mX10_image (0, [.ref 0, .int x1], [], S, v) Q := by
  obtain ⟨d, rfl⟩ : ∃ e, d = e + 1 := ⟨d - 1, by omega⟩
  refine sg_X10_image_0 hI.1 ⟨fun c => h0 (fun ⟨k, hk, e⟩ => nI_pos (n := k) (by omega) (by rw [← e]; exact c)), fun c => ?_⟩
  obtain ⟨k, hk, rfl⟩ := nI_of c
  refine ⟨fun c2 => ?_, fun c2 => h0 (fun ⟨k', hk', e⟩ => c2 (by rw [e]; exact nI_lt (b := 2) hk' (by omega)))⟩
  have c2 := (nI_ltI (b := 2) hk (by omega)).mp c2
  rw [nI_clamp (by omega)]
  refine ⟨vp_in_nI (by omega) (by omega), sp_X0_copyFrom (by omega) hI.1 (zF_img c2) zF_37 (by omega) hF (fun v1 F1 f1 => ⟨rfl, ?_⟩)⟩
  refine sg_X10_image_24 (hI.cp (g := 37) (zF_img c2)).1 ⟨vp_in_nI (by omega) (by omega), fun v2 e2 => ?_⟩
  rw [nI_clamp (by omega)] at e2
  refine h1 v2 k c2 rfl (F1.fr (fun a a1 a2 => by rw [e2, z_u_ne (by omega)])) (by rw [e2, z_ue rfl rfl]; decide) (fun j hj => by rw [e2, z_un (Or.inr hj), f1 58 (by omega)]) (fun b b1 b2 => by rw [e2, z_u_ne b1]; exact f1 b b2)
theorem sp_X11_image (hd : 1 ≤ d) (hL : z_L S) (hM : p_M v ρ)
    (h1 : ∀ v1 k, k < 2 → x1 = nI k → (∀ j, j < 71 → v1 225 (71 * k + j) = nI (ρ j)) → (∀ j, j < 71 * k ∨ 71 * k + 71 ≤ j → v1 225 j = v 225 j) → v1 228 k = 1 → (∀ j, j ≠ k → v1 228 j = v 228 j) → (∀ b, b ≠ 223 → b ≠ 225 → b ≠ 228 → v1 b = v b) → (∀ j, j ≠ 0 → v1 223 j = v 223 j) → Q (some (.int 1)) S v1)
    (h0 : ∀ v1, (¬ ∃ k, k < 2 ∧ x1 = nI k) → v1 = z_u v 223 0 0 → Q (some (.int 0)) S v1) : z_J G d mX11_image (0, [.ref 223, .int x1], [], S, v) Q := by
  obtain ⟨d, rfl⟩ : ∃ e, d = e + 1 := ⟨d - 1, by omega⟩
  have l1 : z_l S 224 = 71 := zl_224 hL
  have l2 : z_l S 225 = 142 := zl_225 hL
  refine sg_X11_image_0 hL (fun v1 e1 => ?_)
  rw [show (0 ≤ x1 ∧ x1 ≤ 1) ↔ ∃ i, i < 2 ∧ x1 = nI i from ix_le (n := 2) (by omega)]
  refine ⟨fun ⟨k, hk, e⟩ => ?_, fun c => h0 v1 c e1⟩
  subst e
  rw [show (71 : Int32) = nI 71 from rfl, pk_mul]
  refine sp_X11_copies (x := 0) (zk_224 hL) (zk_225 hL) (by omega) (by omega) (by omega) (by omega) (by omega) (fun g g1 g2 => ⟨rfl, rfl, vp_in_nI (by omega) (by omega), fun v3 e3 => ?_⟩)
  rw [nI_clamp (by omega)] at e3
  refine h1 v3 k hk rfl (fun j hj => ?_) (fun j hj => ?_) (by rw [e3, z_ue rfl rfl]; decide) (fun j hj => ?_) (fun b b1 b2 b3 => ?_) (fun j hj => ?_)
  · rw [e3, z_u_ne (by omega), z_uae rfl, g1 j hj, Nat.zero_add, e1, z_u_ne (by omega)]; exact hM j hj
  · rw [e3, z_u_ne (by omega), z_uae rfl, g2 j hj, e1, z_u_ne (by omega)]
  · rw [e3, z_un (Or.inr hj), z_uan (by omega), e1, z_u_ne (by omega)]
  · rw [e3, z_u_ne b3, z_ua_ne b2, e1, z_u_ne b1]
  · rw [e3, z_u_ne (by omega), z_uan (by omega), e1, z_un (Or.inr hj)]
end NW
