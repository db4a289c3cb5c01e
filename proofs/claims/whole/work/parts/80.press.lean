/-! press, chain, correct, drawn: both sides -/
theorem nI_3m {κ : Nat} (h : κ < 2) : (3 : Int32) - nI κ = nI (2 + (1 - κ)) := by
  rcases (show κ = 0 ∨ κ = 1 by omega) with rfl | rfl <;> rfl
theorem ix_1 {x : Int32} {n : Nat} (hn : n < 2 ^ 31) : (1 ≤ x ∧ x ≤ nI n) ↔ ∃ T, 1 ≤ T ∧ T ≤ n ∧ x = nI T := by
  constructor
  · rintro ⟨h1, h2⟩
    obtain ⟨T, hT, rfl⟩ := nI_of (x := x) (fun c => absurd (Int32.le_trans h1 (Int32.le_of_lt c)) (by decide))
    exact ⟨T, (nI_leI (a := 1) (by omega) hT).mp h1, (nI_leI hT hn).mp h2, rfl⟩
  · rintro ⟨T, h1, h2, rfl⟩
    exact ⟨nI_le (a := 1) h1 (by omega), nI_le h2 hn⟩
theorem t_fb_ld {d κ k : Nat} (h35 : d = 3 ∨ d = 5) (hκ : κ < 2) (hk : k < t_K d) : t_fb d κ k < 2 ^ (d * d) := by
  have := y_f_lt (κ := 1 - κ) (g := k) h35 (by omega) (by omega)
  unfold y_f at this
  rw [if_neg (by omega), show 1 - (1 - κ) = κ by omega] at this
  exact this
theorem t_lb_ld {d κ : Nat} (h35 : d = 3 ∨ d = 5) (hκ : κ < 2) : t_lb d κ < 2 ^ (d * d) := by
  have := y_f_lt (κ := 1 - κ) (g := t_K d) h35 (by omega) (Nat.le_refl _)
  unfold y_f at this
  rw [if_pos rfl, show 1 - (1 - κ) = κ by omega] at this
  exact this
def a_ck (ρ : Nat → Nat) (x1 x2 : Int32) (i : Nat × Nat) : Prop := i.1 < 2 ∧ i.2 < t_K (ρ 0) ∧ x1 = nI i.1 ∧ x2 = nI i.2
theorem a_ck_u {ρ : Nat → Nat} {x1 x2 : Int32} (h35 : ρ 0 = 3 ∨ ρ 0 = 5) (i j : Nat × Nat) (h : a_ck ρ x1 x2 i) (g : a_ck ρ x1 x2 j) : i = j := by
  have hK := t_Kle h35
  have e1 := (nI_eq (by have := h.1; omega) (by have := g.1; omega)).mp (h.2.2.1.symm.trans g.2.2.1)
  have e2 := (nI_eq (by have := h.2.1; omega) (by have := g.2.1; omega)).mp (h.2.2.2.symm.trans g.2.2.2)
  exact Prod.ext e1 e2
/-- slips of a kind changed by a set; the answer: its logical -/
def k_sl (ρ : Nat → Nat) (κ s : Nat) : Nat → Nat := p_up ρ (2 + κ) (ρ (2 + κ) ^^^ s)
theorem k_sl_V {ρ : Nat → Nat} {κ s : Nat} (hV : p_V ρ) (hκ : κ < 2) (hs : s < 2 ^ (ρ 0 * ρ 0)) : p_V (k_sl ρ κ s) ∧ k_sl ρ κ s 0 = ρ 0 := ⟨p_V_up2 hV hκ (Nat.xor_lt_two_pow (hV.2.2.1 κ hκ).1 hs), p_un (by omega)⟩
def k_lg (ρ : Nat → Nat) (κ s : Nat) : k_P := some (nI (p_lg (ρ 0) κ (ρ (2 + κ) ^^^ s)), k_sl ρ κ s)
def a_press (ρ : Nat → Nat) (x1 x2 : Int32) (P : k_P) : Prop := a_o (a_ck ρ x1 x2) (fun i => k_lg ρ (1 - i.1) (t_fb (ρ 0) i.1 i.2)) none P
def a_kd1 (x1 : Int32) (κ : Nat) : Prop := κ < 2 ∧ x1 = nI κ
theorem a_kd1_u {x1 : Int32} (i j : Nat) (h : a_kd1 x1 i) (g : a_kd1 x1 j) : i = j := (nI_eq (by have := h.1; omega) (by have := g.1; omega)).mp (h.2.symm.trans g.2)
def a_chain (ρ : Nat → Nat) (x1 : Int32) (P : k_P) : Prop := a_o (a_kd1 x1) (fun κ => k_lg ρ κ (t_lb (ρ 0) (1 - κ))) none P
def a_khw (ρ : Nat → Nat) (x1 x2 : Int32) (i : Nat × Nat) : Prop := i.1 < 2 ∧ x1 = nI i.1 ∧ a_how ρ i.1 x2 i.2
theorem a_khw_u {ρ : Nat → Nat} {x1 x2 : Int32} (i j : Nat × Nat) (h : a_khw ρ x1 x2 i) (g : a_khw ρ x1 x2 j) : i = j := by
  have e1 := (nI_eq (by have := h.1; omega) (by have := g.1; omega)).mp (h.2.1.symm.trans g.2.1)
  have g3 := g.2.2
  rw [← e1] at g3
  exact Prod.ext e1 (a_how_u h.2.2 g3)
noncomputable def k_co (ρ : Nat → Nat) (i : Nat × Nat) : k_P := some (nI (p_pc (n_co ρ i.1 i.2)), k_sl ρ i.1 (n_co ρ i.1 i.2))
noncomputable def a_corr (ρ : Nat → Nat) (x1 x2 : Int32) (P : k_P) : Prop := a_o (a_khw ρ x1 x2) (k_co ρ) none P
def a_cd (ρ : Nat → Nat) (x1 x2 : Int32) (i : Nat × Nat) : Prop := 1 ≤ i.1 ∧ ρ 1 + i.1 ≤ 8 ∧ i.2 ≤ 21 ∧ x1 = nI i.1 ∧ x2 = nI i.2
theorem a_cd_u {ρ : Nat → Nat} {x1 x2 : Int32} (i j : Nat × Nat) (h : a_cd ρ x1 x2 i) (g : a_cd ρ x1 x2 j) : i = j := by
  have e1 := (nI_eq (by have := h.2.1; omega) (by have := g.2.1; omega)).mp (h.2.2.2.1.symm.trans g.2.2.2.1)
  have e2 := (nI_eq (by have := h.2.2.1; omega) (by have := g.2.2.1; omega)).mp (h.2.2.2.2.symm.trans g.2.2.2.2)
  exact Prod.ext e1 e2
def a_drawn (N : p_N) (ρ : Nat → Nat) (x1 x2 x3 : Int32) (P : k_P) : Prop := a_o (a_cd ρ x1 x2) (fun i => some (nI (p_rn N i.2 (ρ 0) (ρ, x3, 0) i.1).2.2, (p_rn N i.2 (ρ 0) (ρ, x3, 0) i.1).1)) none P
section PS
variable {G : z_G} {d : Nat} {S : z_Shp} {v v0 : z_Dat} {Q : Option Value → z_Shp → z_Dat → Prop} {ρ : Nat → Nat} {B : Nat × Nat × Nat} {n : Nat} {r : Nat → Nat → Nat} {x1 x2 x3 : Int32}
theorem sp_X10_isCheck (hd : 1 ≤ d) (hL : z_L S) (hV : p_V ρ) (hW : p_Ws v) (hF : p_F S v 37 ρ) (h : (∃ i, a_ck ρ x1 x2 i) → Q (some (.int 1)) S v) (h0 : (¬ ∃ i, a_ck ρ x1 x2 i) → Q (some (.int 0)) S v) : z_J G d mX10_isCheck (0, [.ref 0, .int x1, .int x2], [], S, v) Q := by
  obtain ⟨d, rfl⟩ : ∃ e, d = e + 1 := ⟨d - 1, by omega⟩
  have hK := t_Kle hV.1
  obtain ⟨⟨w, hw, hwd⟩, -⟩ := hF
  refine sg_X10_isCheck_0 hL hw (p_wdW hwd) ?_
  rw [(p_wdP hW hwd).2.2.1]
  refine ⟨fun c => ?_, fun c => h0 (fun ⟨i, q⟩ => c (k_to q.1 q.2.2.1))⟩
  obtain ⟨κ, hκ, rfl⟩ := k_of c
  refine ⟨fun c => h0 (fun ⟨i, q⟩ => nI_pos (n := i.2) (by have := q.2.1; omega) (by rw [← q.2.2.2]; exact c)), fun c => ?_⟩
  obtain ⟨k, hk, rfl⟩ := nI_of c
  refine ⟨fun c2 => h0 (fun ⟨i, q⟩ => ?_), fun c2 => h ⟨(κ, k), hκ, ?_, rfl, rfl⟩⟩
  · have := (nI_eq hk (by have := q.2.1; omega)).mp q.2.2.2
    exact absurd c2 (nI_ge (by have := q.2.1; omega) (by omega))
  · exact Nat.not_le.mp (fun z => c2 (nI_le z (by omega)))
theorem sp_X11_isCheck (hd : 1 ≤ d) (hL : z_L S) (hV : p_V ρ) (hT : p_MT v (ρ 0)) (h : (∃ i, a_ck ρ x1 x2 i) → Q (some (.int 1)) S v) (h0 : (¬ ∃ i, a_ck ρ x1 x2 i) → Q (some (.int 0)) S v) : z_J G d mX11_isCheck (0, [.ref 223, .int x1, .int x2], [], S, v) Q := by
  obtain ⟨d, rfl⟩ : ∃ e, d = e + 1 := ⟨d - 1, by omega⟩
  have hK := t_Kle hV.1
  refine sg_X11_isCheck_0 hL ?_
  rw [hT.1, ix_le (by omega)]
  refine ⟨fun c => ?_, fun c => h0 (fun ⟨i, q⟩ => c (k_to q.1 q.2.2.1))⟩
  obtain ⟨κ, hκ, rfl⟩ := k_of c
  exact ⟨fun ⟨k, hk, e⟩ => h ⟨(κ, k), hκ, hk, rfl, e⟩, fun c => h0 (fun ⟨i, q⟩ => c ⟨i.2, q.2.1, q.2.2.2⟩)⟩
/-- behind keep: slips are changed -/
theorem c_Ks_sl {S1 S2 : z_Shp} {v1 v2 v3 : z_Dat} {κ s : Nat} {a : Int32} (hF : p_F S v 37 ρ) (hI : e_I B S) (he : e_R S S1) (hv : c_pw v v1) (H1 : c_H S2 v2 (h_n n) (h_ad ρ r)) (T1 : e_T B 61 140 S1 S2) (f1 : z_fr 59 140 v1 v2) (hκ : κ < 2) (e3 : v3 = z_u v2 38 κ (v2 38 κ ^^^ nI s)) : c_Ks B ρ n r S v (some (a, k_sl ρ κ s)) S2 v3 ∧ v3 38 κ = nI (ρ (2 + κ) ^^^ s) := by
  have F1 : p_F S2 v2 37 ρ := T1.F zF_37 (by omega) (he.F zF_37 (hF.fr (fun a a1 a2 => by rw [f1 a (by omega)]; exact hv a (by omega))))
  have e38 : v2 38 κ = nI (ρ (2 + κ)) := (F1.2.2.1 κ hκ).1
  rw [e38, nx_xor] at e3
  refine ⟨⟨?_, ?_, ?_, ?_⟩, by rw [e3, z_ue rfl rfl]⟩
  · show p_F S2 v3 37 (p_up ρ (2 + κ) (ρ (2 + κ) ^^^ s))
    rw [e3]; exact F1.up2 hκ
  · exact H1.fr (lo := 37) (hi := 46) (e_T.rf T1.1) (by omega) (fun a a1 a2 => by rw [e3, z_u_ne (by omega)])
  · exact ⟨T1.1, fun a a1 a2 a3 => (T1.2 a a1 a2 (by omega)).trans (he a a1 a2)⟩
  · exact fun b hb => by rw [e3, z_u_ne (by omega), f1 b (by omega)]; exact hv b (by omega)
theorem m_Ks_sl {v1 v2 v3 : z_Dat} {κ s : Nat} {a : Int32} (hM : p_M v ρ) (hv : m_pk v v1) (H1 : m_H v2 (h_n n) (h_ad ρ r)) (f1 : ∀ b, b ≠ 226 → b ≠ 223 → v2 b = v1 b) (g1 : ∀ j, j ≠ 6 → v2 223 j = v1 223 j) (hκ : κ < 2) (e3 : v3 = z_u v2 224 (2 + κ) (v2 224 (2 + κ) ^^^ nI s)) : m_Ks ρ n r v (some (a, k_sl ρ κ s)) v3 ∧ v3 224 (2 + κ) = nI (ρ (2 + κ) ^^^ s) := by
  have M1 : p_M v2 ρ := (hv.M hM).fr (f1 224 (by omega) (by omega))
  rw [M1 (2 + κ) (by omega), nx_xor] at e3
  refine ⟨⟨?_, ?_, ?_⟩, by rw [e3, z_ue rfl rfl]⟩
  · show p_M v3 (p_up ρ (2 + κ) (ρ (2 + κ) ^^^ s))
    rw [e3]; exact M1.up
  · exact H1.fr (by rw [e3, z_u_ne (by omega)]) (by rw [e3, z_u_ne (by omega)])
  · exact hv.hk.tr ⟨fun b hb => by rw [e3, z_u_ne (by omega)]; exact f1 b (by omega) (by omega), fun j hj => by rw [e3, z_u_ne (by omega)]; unfold m_hf at hj; exact g1 j (by omega)⟩
theorem c_Ks_no (hF : p_F S v 37 ρ) (hH : c_H S v n r) {S1 : z_Shp} {v1 : z_Dat} (hI : e_I B S1) (he : e_R S S1) (hv : c_pw v v1) : c_Ks B ρ n r S v none S1 v1 :=
  ⟨he.F zF_37 (hF.fr (fun a a1 a2 => hv a (by omega))), hH.fr (B := B) (lo := 200) (hi := 0) (he.T hI) (by omega) (fun a a1 a2 => hv a (by omega)), he.T hI, hv.hk⟩
theorem m_Ks_no (hM : p_M v ρ) (hH : m_H v n r) {v1 : z_Dat} (hv : m_pk v v1) : m_Ks ρ n r v none v1 :=
  ⟨hv.M hM, hH.fr (hv.2 6 (by unfold m_pf; omega)) (hv.1 226 (by omega)), hv.hk⟩
theorem sp_X10_press (hd : 3 ≤ d) (hI : e_I B S) (hV : p_V ρ) (hW : p_Ws v) (hF : p_F S v 37 ρ) (hH : c_H S v n r)
    (h : ∀ S1 v1 P, a_press ρ x1 x2 P → c_Ks B ρ n r S v P S1 v1 → Q (some (.int (k_y P))) S1 v1) : z_J G d mX10_press (0, [.ref 0, .int x1, .int x2, .null], [], S, v) Q := by
  obtain ⟨d, rfl⟩ : ∃ e, d = e + 1 := ⟨d - 1, by omega⟩
  have hK := t_Kle hV.1
  refine sg_X10_press_0 hI.1 ?_
  refine sp_X10_isCheck (by omega) hI.1 hV hW hF (fun ⟨i, q⟩ => ⟨_, rfl, rfl, fun _ => ?_, fun c => absurd c (by decide)⟩) (fun hn => ⟨_, rfl, rfl, fun c => absurd rfl c, fun _ => h S v none (Or.inr ⟨hn, rfl⟩) (c_Ks_no hF hH hI e_R.rf c_pw.rf)⟩)
  obtain ⟨κ, k⟩ := i
  obtain ⟨hκ, hk, rfl, rfl⟩ := id q
  dsimp only at hκ hk
  refine sp_X2_keep (by omega) hI hF hH (fun S1 v1 H1 T1 f1 => ⟨rfl, ?_⟩)
  have hF1 : p_F S1 v1 37 ρ := T1.F zF_37 (by omega) (hF.fr (fun a a1 a2 => f1 a (by omega)))
  have hW1 : p_Ws v1 := hW.fr (fun a a1 a2 => f1 a (by omega))
  obtain ⟨⟨w, hw, hwd⟩, -⟩ := hF1
  have hwl : w = 1 ∨ w = 19 := p_wdW hwd
  have hin : vp_in (nI (1 - κ)) 2 := vp_in_nI (by omega) (by omega)
  have hfb := (((p_wdP hW1 hwd).2.2.2 κ hκ).2.2.1 k hk).2.2
  refine sg_X10_press_22 T1.1.1 hw (p_wdW hwd) ?_
  rw [nI_1m hκ]
  refine ⟨hin, vp_in_nI hκ (by omega), vp_in_nI (by omega) (by omega), hin, fun v2 e2 => ⟨hin, ?_⟩⟩
  rw [nI_clamp (n := 1 - κ) (by omega), nI_clamp (n := κ) (by omega), nI_clamp (n := k) (by omega), hfb] at e2
  obtain ⟨K, e⟩ := c_Ks_sl (a := nI (p_lg (ρ 0) (1 - κ) (ρ (2 + (1 - κ)) ^^^ t_fb (ρ 0) κ k))) hF hI e_R.rf c_pw.rf H1 T1 f1 (show 1 - κ < 2 by omega) e2
  rw [nI_clamp (by omega), e]
  have hW2 : p_Ws v2 := hW1.fr (fun a a1 a2 => by rw [e2, z_u_ne (by omega)])
  refine sp_X9_logicalOf T1.1.1 (p_wdP hW2 hwd) hwd (by omega) ⟨_, rfl, rfl, ?_⟩ (by omega)
  exact h S1 v2 (k_lg ρ (1 - κ) (t_fb (ρ 0) κ k)) (Or.inl ⟨(κ, k), q, rfl⟩) K
theorem sp_X11_press (hd : 3 ≤ d) (hL : z_L S) (hV : p_V ρ) (hM : p_M v ρ) (hT : p_MT v (ρ 0)) (hH : m_H v n r)
    (h : ∀ v1 P, a_press ρ x1 x2 P → m_Ks ρ n r v P v1 → Q (some (.int (k_y P))) S v1) : z_J G d mX11_press (0, [.ref 223, .int x1, .int x2], [], S, v) Q := by
  obtain ⟨d, rfl⟩ : ∃ e, d = e + 1 := ⟨d - 1, by omega⟩
  have hK := t_Kle hV.1
  refine sg_X11_press_0 hL (fun v1 e1 => ?_)
  have f0 : m_f6 v v1 := by rw [e1]; exact m_f6.u0
  have hH1 : m_H v1 n r := hH.fr (f0.pk.2 6 (by unfold m_pf; omega)) (f0.pk.1 226 (by omega))
  refine sp_X11_isCheck (ρ := ρ) (by omega) hL hV (f0.T hT) (fun ⟨i, q⟩ => ⟨_, rfl, rfl, fun _ => ?_, fun c => absurd c (by decide)⟩) (fun hn => ⟨_, rfl, rfl, fun c => absurd rfl c, fun _ => h v1 none (Or.inr ⟨hn, rfl⟩) (m_Ks_no hM hH f0.pk)⟩)
  obtain ⟨κ, k⟩ := i
  obtain ⟨hκ, hk, rfl, rfl⟩ := id q
  dsimp only at hκ hk
  refine sp_X11_keeps (by omega) hL (f0.M hM) hH1 (fun v2 H2 f2 g2 => ⟨rfl, rfl, ?_⟩)
  have hin : vp_in (nI (2 + (1 - κ))) 71 := vp_in_nI (by omega) (by omega)
  have hfb : v2 232 (12 * κ + k) = nI (t_fb (ρ 0) κ k) := by rw [f2 232 (by omega) (by omega)]; exact (((f0.T hT).2 κ hκ).1 k hk).2.2
  rw [nI_3m hκ, nI_1m hκ, show (12 : Int32) = nI 12 from rfl, pk_mul, nI_add]
  refine ⟨hin, vp_in_nI (by omega) (by omega), hin, fun v3 e3 => ⟨hin, ?_⟩⟩
  rw [nI_clamp (n := 2 + (1 - κ)) (by omega), nI_clamp (n := 12 * κ + k) (by omega), hfb] at e3
  obtain ⟨K, e⟩ := m_Ks_sl (a := nI (p_lg (ρ 0) (1 - κ) (ρ (2 + (1 - κ)) ^^^ t_fb (ρ 0) κ k))) hM f0.pk H2 f2 g2 (show 1 - κ < 2 by omega) e3
  rw [nI_clamp (by omega), e]
  refine sp_X11_logical (dd := ρ 0) (by omega) hL ?_ hV.1 (by omega) ⟨_, rfl, rfl, ?_⟩
  · have := K.1 0 (by omega)
    rw [this]; exact congrArg nI (p_un (by omega))
  · exact h v3 (k_lg ρ (1 - κ) (t_fb (ρ 0) κ k)) (Or.inl ⟨(κ, k), q, rfl⟩) K
theorem sp_X10_chain (hd : 3 ≤ d) (hI : e_I B S) (hV : p_V ρ) (hW : p_Ws v) (hF : p_F S v 37 ρ) (hH : c_H S v n r)
    (h : ∀ S1 v1 P, a_chain ρ x1 P → c_Ks B ρ n r S v P S1 v1 → Q (some (.int (k_y P))) S1 v1) : z_J G d mX10_chain (0, [.ref 0, .int x1], [], S, v) Q := by
  obtain ⟨d, rfl⟩ : ∃ e, d = e + 1 := ⟨d - 1, by omega⟩
  refine sg_X10_chain_0 hI.1 ⟨fun c => ?_, fun c => h S v none (Or.inr ⟨fun ⟨κ, q⟩ => c (k_to q.1 q.2), rfl⟩) (c_Ks_no hF hH hI e_R.rf c_pw.rf)⟩
  obtain ⟨κ, hκ, rfl⟩ := k_of c
  refine sp_X2_keep (by omega) hI hF hH (fun S1 v1 H1 T1 f1 => ⟨rfl, ?_⟩)
  have hF1 : p_F S1 v1 37 ρ := T1.F zF_37 (by omega) (hF.fr (fun a a1 a2 => f1 a (by omega)))
  have hW1 : p_Ws v1 := hW.fr (fun a a1 a2 => f1 a (by omega))
  obtain ⟨⟨w, hw, hwd⟩, -⟩ := hF1
  have hwl : w = 1 ∨ w = 19 := p_wdW hwd
  have hin : vp_in (nI κ) 2 := vp_in_nI (by omega) (by omega)
  refine sg_X10_chain_20 T1.1.1 hw (p_wdW hwd) ⟨hin, hin, hin, fun v2 e2 => ⟨hin, ?_⟩⟩
  rw [nI_clamp (by omega), ((p_wdP hW1 hwd).2.2.2 κ hκ).2.1] at e2
  obtain ⟨K, e⟩ := c_Ks_sl (a := nI (p_lg (ρ 0) κ (ρ (2 + κ) ^^^ t_lb (ρ 0) (1 - κ)))) hF hI e_R.rf c_pw.rf H1 T1 f1 hκ e2
  rw [nI_clamp (by omega), e]
  have hW2 : p_Ws v2 := hW1.fr (fun a a1 a2 => by rw [e2, z_u_ne (by omega)])
  refine sp_X9_logicalOf T1.1.1 (p_wdP hW2 hwd) hwd (by omega) ⟨_, rfl, rfl, ?_⟩ (by omega)
  exact h S1 v2 (k_lg ρ κ (t_lb (ρ 0) (1 - κ))) (Or.inl ⟨κ, ⟨hκ, rfl⟩, rfl⟩) K
theorem sp_X11_chain (hd : 3 ≤ d) (hL : z_L S) (hV : p_V ρ) (hM : p_M v ρ) (hH : m_H v n r)
    (h : ∀ v1 P, a_chain ρ x1 P → m_Ks ρ n r v P v1 → Q (some (.int (k_y P))) S v1) : z_J G d mX11_chain (0, [.ref 223, .int x1], [], S, v) Q := by
  obtain ⟨d, rfl⟩ : ∃ e, d = e + 1 := ⟨d - 1, by omega⟩
  refine sg_X11_chain_0 hL (fun v1 e1 => ?_)
  have f0 : m_f6 v v1 := by rw [e1]; exact m_f6.u0
  have hH1 : m_H v1 n r := hH.fr (f0.pk.2 6 (by unfold m_pf; omega)) (f0.pk.1 226 (by omega))
  refine ⟨fun c => ?_, fun c => h v1 none (Or.inr ⟨fun ⟨κ, q⟩ => c (k_to q.1 q.2), rfl⟩) (m_Ks_no hM hH f0.pk)⟩
  obtain ⟨κ, hκ, rfl⟩ := k_of c
  refine sp_X11_keeps (by omega) hL (f0.M hM) hH1 (fun v2 H2 f2 g2 => ⟨rfl, rfl, ?_⟩)
  have hin : vp_in (nI (2 + κ)) 71 := vp_in_nI (by omega) (by omega)
  rw [nI_2]
  refine ⟨hin, ?_⟩
  have e20 : v2 224 0 = nI (ρ 0) := by rw [f2 224 (by omega) (by omega)]; exact f0.M hM 0 (by omega)
  refine sp_X11_chainOf (by omega) hL e20 hV.1 hκ ⟨_, rfl, rfl, hin, fun v3 e3 => ⟨hin, ?_⟩⟩
  rw [nI_clamp (n := 2 + κ) (by omega)] at e3
  obtain ⟨K, e⟩ := m_Ks_sl (a := nI (p_lg (ρ 0) κ (ρ (2 + κ) ^^^ t_lb (ρ 0) (1 - κ)))) hM f0.pk H2 f2 g2 hκ e3
  rw [nI_clamp (by omega), e]
  refine sp_X11_logical (dd := ρ 0) (by omega) hL ?_ hV.1 (by omega) ⟨_, rfl, rfl, ?_⟩
  · have := K.1 0 (by omega)
    rw [this]; exact congrArg nI (p_un (by omega))
  · exact h v3 (k_lg ρ κ (t_lb (ρ 0) (1 - κ))) (Or.inl ⟨κ, ⟨hκ, rfl⟩, rfl⟩) K
theorem sp_X10_correct (hd : 20 ≤ d) (hI : e_I B S) (hB : B.1 ≤ 999000) (hV : p_V ρ) (hW : p_Ws v) (hF : p_F S v 37 ρ) (hH : c_H S v n r)
    (h : ∀ S1 v1 P, a_corr ρ x1 x2 P → c_Ks B ρ n r S v P S1 v1 → Q (some (.int (k_y P))) S1 v1) : z_J G d mX10_correct (0, [.ref 0, .int x1, .int x2, .null], [], S, v) Q := by
  obtain ⟨d, rfl⟩ : ∃ e, d = e + 1 := ⟨d - 1, by omega⟩
  refine sg_X10_correct_0 hI.1 ⟨fun c => ?_, fun c => h S v none (Or.inr ⟨fun ⟨i, q⟩ => c (k_to q.1 q.2.1), rfl⟩) (c_Ks_no hF hH hI e_R.rf c_pw.rf)⟩
  obtain ⟨κ, hκ, rfl⟩ := k_of c
  refine sp_X10_correctionOf (by omega) hI hB hV hW zF_37 hF hκ (fun S1 v1 y i1 r1 a1 f1 => ⟨_, rfl, ?_⟩)
  rcases a1 with ⟨j, q1, rfl⟩ | ⟨q1, rfl⟩
  · have hco := n_co_l (ρ := ρ) (κ := κ) (h := j) hV hκ
    refine sg_X10_correct_17 i1.1 ⟨fun _ => ?_, fun c => absurd (by rw [c]; decide) (nI_pos (n := n_co ρ κ j) (by omega))⟩
    have hF1 : p_F S1 v1 37 ρ := r1.F zF_37 (hF.fr (fun a a1 a2 => f1 a (by omega)))
    have hH1 : c_H S1 v1 n r := hH.fr (B := B) (lo := 200) (hi := 0) (r1.T i1) (by omega) (fun a a1 a2 => f1 a (by omega))
    refine sp_X2_keep (by omega) i1 hF1 hH1 (fun S2 v2 H2 T2 f2 => ⟨rfl, ?_⟩)
    have hin : vp_in (nI κ) 2 := vp_in_nI (by omega) (by omega)
    refine sg_X10_correct_40 T2.1.1 ⟨hin, hin, fun v3 e3 => ?_⟩
    rw [nI_clamp (by omega)] at e3
    obtain ⟨K, e⟩ := c_Ks_sl (a := nI (p_pc (n_co ρ κ j))) hF hI r1 f1 H2 T2 f2 hκ e3
    rw [p_pc_nI (by omega)]
    exact h S2 v3 (k_co ρ (κ, j)) (Or.inl ⟨(κ, j), ⟨hκ, rfl, q1⟩, rfl⟩) K
  · refine sg_X10_correct_17 i1.1 ⟨fun c => absurd rfl c, fun _ => h S1 v1 none (Or.inr ⟨fun ⟨i, q⟩ => q1 ⟨i.2, ?_⟩, rfl⟩) (c_Ks_no hF hH i1 r1 f1)⟩
    have e : κ = i.1 := (nI_eq (by omega) (by have := q.1; omega)).mp q.2.1
    rw [e]; exact q.2.2
theorem sp_X11_correct (hd : 10 ≤ d) (hL : z_L S) (hV : p_V ρ) (hM : p_M v ρ) (hT : p_MT v (ρ 0)) (hH : m_H v n r)
    (h : ∀ v1 P, a_corr ρ x1 x2 P → m_Ks ρ n r v P v1 → Q (some (.int (k_y P))) S v1) : z_J G d mX11_correct (0, [.ref 223, .int x1, .int x2], [], S, v) Q := by
  obtain ⟨d, rfl⟩ : ∃ e, d = e + 1 := ⟨d - 1, by omega⟩
  refine sg_X11_correct_0 hL (fun v1 e1 => ?_)
  have f0 : m_f6 v v1 := by rw [e1]; exact m_f6.u0
  refine sp_X11_corrects (by omega) hL hV (f0.M hM) (f0.T hT) (fun v2 κ i k1 k2 k3 k4 f2 => ⟨_, rfl, rfl, fun _ => ?_, fun c => absurd c (by decide)⟩) (fun v2 hn f2 => ⟨_, rfl, rfl, fun c => absurd rfl c, fun _ => h v2 none (Or.inr ⟨fun ⟨i, q⟩ => hn ⟨i.1, i.2, q⟩, rfl⟩) (m_Ks_no hM hH (f0.pk.tr f2))⟩)
  subst k2
  have fp := f0.pk.tr f2
  have hH2 : m_H v2 n r := hH.fr (fp.2 6 (by unfold m_pf; omega)) (fp.1 226 (by omega))
  have hco := n_co_l (ρ := ρ) (κ := κ) (h := i) hV k1
  refine sp_X11_keeps (by omega) hL (fp.M hM) hH2 (fun v3 H3 f3 g3 => ⟨rfl, rfl, ?_⟩)
  have hin : vp_in (nI (2 + κ)) 71 := vp_in_nI (by omega) (by omega)
  have e62 : v3 223 62 = nI (n_co ρ κ i) := by rw [g3 62 (by omega)]; exact k4
  rw [nI_2]
  refine ⟨hin, hin, fun v4 e4 => ?_⟩
  rw [nI_clamp (n := 2 + κ) (by omega), e62] at e4
  obtain ⟨K, e⟩ := m_Ks_sl (a := nI (p_pc (n_co ρ κ i))) hM fp H3 f3 g3 k1 e4
  rw [show v4 223 62 = nI (n_co ρ κ i) by rw [e4, z_u_ne (by omega)]; exact e62, p_pc_nI (by omega)]
  exact h v4 (k_co ρ (κ, i)) (Or.inl ⟨(κ, i), ⟨k1, rfl, k3⟩, rfl⟩) K
theorem sp_X10_canBeDrawn (hL : z_L S) (h1 : v 37 1 = nI (ρ 1)) (h8 : ρ 1 ≤ 8) (h : (∃ i, a_cd ρ x1 x2 i) → Q (some (.int 1)) S v) (h0 : (¬ ∃ i, a_cd ρ x1 x2 i) → Q (some (.int 0)) S v) : z_J G d mX10_canBeDrawn (0, [.ref 0, .int x1, .int x2], [], S, v) Q := by
  refine sg_X10_canBeDrawn_0 hL ?_
  rw [h1, show (8 : Int32) - nI (ρ 1) = nI (8 - ρ 1) by
    rcases (show ρ 1 = 0 ∨ ρ 1 = 1 ∨ ρ 1 = 2 ∨ ρ 1 = 3 ∨ ρ 1 = 4 ∨ ρ 1 = 5 ∨ ρ 1 = 6 ∨ ρ 1 = 7 ∨ ρ 1 = 8 by omega) with e | e | e | e | e | e | e | e | e <;> rw [e] <;> rfl]
  refine ⟨fun c => h0 (fun ⟨i, q⟩ => ?_), fun c => ⟨fun c2 => ?_, fun c2 => h0 (fun ⟨i, q⟩ => ?_)⟩⟩
  · rw [q.2.2.2.1] at c
    exact absurd c (nI_nlt (b := 1) q.1 (by have := q.2.1; omega))
  · obtain ⟨T, t1, t2, rfl⟩ := (ix_1 (n := 8 - ρ 1) (by omega)).mp ⟨Int32.not_lt.mp c, c2⟩
    refine ⟨fun c3 => h0 (fun ⟨i, q⟩ => nI_pos (n := i.2) (by have := q.2.2.1; omega) (by rw [← q.2.2.2.2]; exact c3)), fun c3 => ?_⟩
    obtain ⟨E, hE, rfl⟩ := nI_of c3
    refine ⟨fun c4 => h0 (fun ⟨i, q⟩ => ?_), fun c4 => h ⟨(T, E), t1, by show ρ 1 + T ≤ 8; omega, ?_, rfl, rfl⟩⟩
    · have := (nI_eq hE (by have := q.2.2.1; omega)).mp q.2.2.2.2
      exact absurd c4 (nI_nlt (a := 21) (by have := q.2.2.1; omega) (by omega))
    · exact Nat.not_lt.mp (fun z => c4 (nI_lt (a := 21) z hE))
  · exact c2 (by rw [q.2.2.2.1]; exact nI_le (by have := q.2.1; omega) (by omega))
theorem sp_X11_canDraw (hd : 1 ≤ d) (hL : z_L S) (h1 : v 224 1 = nI (ρ 1)) (h8 : ρ 1 ≤ 8) (h : (∃ i, a_cd ρ x1 x2 i) → Q (some (.int 1)) S v) (h0 : (¬ ∃ i, a_cd ρ x1 x2 i) → Q (some (.int 0)) S v) : z_J G d mX11_canDraw (0, [.ref 223, .int x1, .int x2], [], S, v) Q := by
  obtain ⟨d, rfl⟩ : ∃ e, d = e + 1 := ⟨d - 1, by omega⟩
  refine sg_X11_canDraw_0 hL ?_
  rw [h1, show (1 ≤ x1 ∧ x1 ≤ 8) ↔ ∃ T, 1 ≤ T ∧ T ≤ 8 ∧ x1 = nI T from ix_1 (n := 8) (by omega), show (0 ≤ x2 ∧ x2 ≤ 21) ↔ ∃ i, i < 22 ∧ x2 = nI i from ix_le (n := 22) (by omega)]
  refine ⟨fun ⟨T, t1, t2, e⟩ => ⟨fun ⟨E, hE, e2⟩ => ?_, fun c => h0 (fun ⟨i, q⟩ => c ⟨i.2, by have := q.2.2.1; omega, q.2.2.2.2⟩)⟩, fun c => h0 (fun ⟨i, q⟩ => c ⟨i.1, q.1, by have := q.2.1; omega, q.2.2.2.1⟩)⟩
  subst e e2
  rw [nI_add]
  refine ⟨fun c => h0 (fun ⟨i, q⟩ => ?_), fun c => h ⟨(T, E), t1, ?_, by show E ≤ 21; omega, rfl, rfl⟩⟩
  · have := (nI_eq (by omega) (by have := q.2.1; omega)).mp q.2.2.2.1
    exact absurd c (nI_nlt (a := 8) (by have := q.2.1; omega) (by omega))
  · exact Nat.not_lt.mp (fun z => c (nI_lt (a := 8) z (by omega)))
theorem sp_X10_drawn {N : p_N} (hN : p_Nok N) (hd : 4 ≤ d) (hI : e_I B S) (hV : p_V ρ) (hW : p_Ws v) (hF : p_F S v 37 ρ) (hH : c_H S v n r)
    (h : ∀ S1 v1 P, a_drawn N ρ x1 x2 x3 P → c_Ks B ρ n r S v P S1 v1 → Q (some (.int (k_y P))) S1 v1) : z_J G d mX10_drawn (0, [.ref 0, .int x1, .int x2, .int x3], [], S, v) Q := by
  obtain ⟨d, rfl⟩ : ∃ e, d = e + 1 := ⟨d - 1, by omega⟩
  refine sg_X10_drawn_0 hI.1 ?_
  refine sp_X10_canBeDrawn (ρ := ρ) hI.1 hF.2.1 hV.2.1 (fun ⟨i, q⟩ => ⟨_, rfl, rfl, fun _ => ?_, fun c => absurd c (by decide)⟩) (fun hn => ⟨_, rfl, rfl, fun c => absurd rfl c, fun _ => h S v none (Or.inr ⟨hn, rfl⟩) (c_Ks_no hF hH hI e_R.rf c_pw.rf)⟩)
  obtain ⟨T, E⟩ := i
  obtain ⟨t1, t2, t3, rfl, rfl⟩ := id q
  dsimp only at t1 t2 t3
  refine sp_X2_keep (by omega) hI hF hH (fun S1 v1 H1 T1 f1 => ⟨rfl, ?_⟩)
  have hF1 : p_F S1 v1 37 ρ := T1.F zF_37 (by omega) (hF.fr (fun a a1 a2 => f1 a (by omega)))
  have hW1 : p_Ws v1 := hW.fr (fun a a1 a2 => f1 a (by omega))
  refine sg_X10_drawn_22 T1.1.1 ?_
  refine sp_X0_drawRounds hN (by omega) T1.1.1 hW1 zF_37 hF1 t3 t2 (fun v2 F2 f2 => ⟨_, rfl, rfl, ?_⟩)
  refine h S1 v2 _ (Or.inl ⟨(T, E), q, rfl⟩) ⟨F2, ?_, T1.wd (by omega) (by omega), fun b hb => by rw [f2 b (by omega)]; exact f1 b (by omega)⟩
  exact H1.fr (lo := 37) (hi := 46) (e_T.rf T1.1) (by omega) (fun a a1 a2 => f2 a (by omega))
theorem sp_X11_drawn {N : p_N} (hN : p_Nok N) (hd : 4 ≤ d) (hL : z_L S) (hV : p_V ρ) (hM : p_M v ρ) (hT : p_MT v (ρ 0)) (hH : m_H v n r)
    (h : ∀ v1 P, a_drawn N ρ x1 x2 x3 P → m_Ks ρ n r v P v1 → Q (some (.int (k_y P))) S v1) : z_J G d mX11_drawn (0, [.ref 223, .int x1, .int x2, .int x3], [], S, v) Q := by
  obtain ⟨d, rfl⟩ : ∃ e, d = e + 1 := ⟨d - 1, by omega⟩
  refine sg_X11_drawn_0 hL (fun v1 e1 => ?_)
  have f0 : m_f6 v v1 := by rw [e1]; exact m_f6.u0
  have hM1 := f0.M hM
  have hH1 : m_H v1 n r := hH.fr (f0.pk.2 6 (by unfold m_pf; omega)) (f0.pk.1 226 (by omega))
  refine sp_X11_canDraw (ρ := ρ) (by omega) hL (hM1 1 (by omega)) hV.2.1 (fun ⟨i, q⟩ => ⟨_, rfl, rfl, fun _ => ?_, fun c => absurd c (by decide)⟩) (fun hn => ⟨_, rfl, rfl, fun c => absurd rfl c, fun _ => h v1 none (Or.inr ⟨hn, rfl⟩) (m_Ks_no hM hH f0.pk)⟩)
  obtain ⟨T, E⟩ := i
  obtain ⟨t1, t2, t3, rfl, rfl⟩ := id q
  dsimp only at t1 t2 t3
  refine sp_X11_keeps (by omega) hL hM1 hH1 (fun v2 H2 f2 g2 => ⟨rfl, rfl, ?_⟩)
  have hT2 : p_MT v2 (ρ 0) := (f0.T hT).fr (g2 14 (by omega)) (fun a a1 a2 => f2 a (by omega) (by omega))
  refine sp_X11_draws hN (by omega) hL (hM1.fr (f2 224 (by omega) (by omega))) hT2 hV.1 t3 t2 (fun v3 D3 => ⟨_, rfl, rfl, ?_⟩)
  refine h v3 _ (Or.inl ⟨(T, E), q, rfl⟩) ⟨D3.1, H2.fr (D3.2.2.1 6 (by omega)) (D3.2.2.2 226 (by omega)), f0.pk.hk.tr ⟨fun b hb => ?_, fun j hj => ?_⟩⟩
  · rw [D3.2.2.2 b (by omega)]; exact f2 b (by omega) (by omega)
  · unfold m_hf at hj
    rw [D3.2.2.1 j (by omega)]; exact g2 j (by omega)
end PS
