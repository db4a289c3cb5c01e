/-! check, qubit, edge: what they tell; the reference's side -/
def n_chk (ρ : Nat → Nat) (i : Nat × Nat) (w : Nat) : Nat := if w = 0 then t_fi (ρ 0) i.1 i.2 else if w = 1 then t_fj (ρ 0) i.1 i.2 else if w = 2 then t_fb (ρ 0) i.1 i.2 else ρ (47 + 12 * i.1 + i.2)
def a_chk (ρ : Nat → Nat) (x1 x2 x3 : Int32) (i : (Nat × Nat) × Nat) : Prop := a_ck ρ x1 x2 i.1 ∧ i.2 < 4 ∧ x3 = nI i.2
def n_qu (ρ : Nat → Nat) (q w : Nat) : Nat := if w = 0 then ρ (22 + q) else t_co (ρ 0) (w - 1) q
def a_qu (ρ : Nat → Nat) (x1 x2 : Int32) (i : Nat × Nat) : Prop := i.1 < ρ 0 * ρ 0 ∧ x1 = nI i.1 ∧ i.2 < 3 ∧ x2 = nI i.2
def n_eg (ρ : Nat → Nat) (i : Nat × Nat × Nat) : Int32 := if i.2.2 = 0 then nI (n_lo ρ i.1 i.2.1) else if i.2.2 = 1 then (if n_hi ρ i.1 i.2.1 = n_B ρ then -1 else nI (n_hi ρ i.1 i.2.1)) else nI (n_w ρ i.1 i.2.1)
def a_eg (ρ : Nat → Nat) (x1 x2 x3 : Int32) (i : Nat × Nat × Nat) : Prop := i.1 < 2 ∧ x1 = nI i.1 ∧ i.2.1 < n_E ρ ∧ x2 = nI i.2.1 ∧ i.2.2 < 3 ∧ x3 = nI i.2.2
theorem a_chk_u {ρ : Nat → Nat} {x1 x2 x3 : Int32} (h35 : ρ 0 = 3 ∨ ρ 0 = 5) (i j : (Nat × Nat) × Nat) (h : a_chk ρ x1 x2 x3 i) (g : a_chk ρ x1 x2 x3 j) : i = j :=
  Prod.ext (a_ck_u h35 _ _ h.1 g.1) ((nI_eq (by have := h.2.1; omega) (by have := g.2.1; omega)).mp (h.2.2.symm.trans g.2.2))
theorem a_qu_u {ρ : Nat → Nat} {x1 x2 : Int32} (h35 : ρ 0 = 3 ∨ ρ 0 = 5) (i j : Nat × Nat) (h : a_qu ρ x1 x2 i) (g : a_qu ρ x1 x2 j) : i = j := by
  have hd25 : ρ 0 * ρ 0 ≤ 25 := by rcases h35 with e | e <;> rw [e] <;> decide
  exact Prod.ext ((nI_eq (by have := h.1; omega) (by have := g.1; omega)).mp (h.2.1.symm.trans g.2.1)) ((nI_eq (by have := h.2.2.1; omega) (by have := g.2.2.1; omega)).mp (h.2.2.2.symm.trans g.2.2.2))
theorem a_eg_u {ρ : Nat → Nat} {x1 x2 x3 : Int32} (hV : p_V ρ) (i j : Nat × Nat × Nat) (h : a_eg ρ x1 x2 x3 i) (g : a_eg ρ x1 x2 x3 j) : i = j := by
  have hE := n_E_le hV.1 hV.2.1
  obtain ⟨a1, a2, a3, a4, a5, a6⟩ := h
  obtain ⟨b1, b2, b3, b4, b5, b6⟩ := g
  exact Prod.ext ((nI_eq (by omega) (by omega)).mp (a2.symm.trans b2)) (Prod.ext ((nI_eq (by omega) (by omega)).mp (a4.symm.trans b4)) ((nI_eq (by omega) (by omega)).mp (a6.symm.trans b6)))
section CK
variable {G : z_G} {d : Nat} {S : z_Shp} {v v0 : z_Dat} {Q : Option Value → z_Shp → z_Dat → Prop} {ρ : Nat → Nat} {x1 x2 x3 : Int32}
theorem sp_X11_throwsIf0 (hL : z_L S) (h : ∀ v1, v1 = z_u v 223 0 0 → Q (some (.int 0)) S v1) : z_J G d mX11_throwsIf (0, [.ref 223, .int 0], [], S, v) Q :=
  sg_X11_throwsIf_0 hL ⟨fun _ v1 e1 => ⟨rfl, h v1 e1⟩, fun c => absurd rfl c⟩
theorem sp_X11_throwsIf1 (hL : z_L S) (h : ∀ v1, v1 = z_u v 223 0 1 → Q (some (.int 1)) S v1) : z_J G d mX11_throwsIf (0, [.ref 223, .int 1], [], S, v) Q :=
  sg_X11_throwsIf_0 hL ⟨fun c => absurd c (by decide), fun _ v1 e1 => ⟨rfl, h v1 e1⟩⟩
theorem sp_X11_check (hd : 2 ≤ d) (hL : z_L S) (hV : p_V ρ) (hM : p_M v ρ) (hT : p_MT v (ρ 0))
    (h1 : ∀ v1 i, a_chk ρ x1 x2 x3 i → v1 = z_u v 223 0 0 → Q (some (.int (nI (n_chk ρ i.1 i.2)))) S v1)
    (h0 : ∀ v1, (¬ ∃ i, a_chk ρ x1 x2 x3 i) → v1 = z_u v 223 0 1 → Q (some (.int 0)) S v1) : z_J G d mX11_check (0, [.ref 223, .int x1, .int x2, .int x3], [], S, v) Q := by
  obtain ⟨d, rfl⟩ : ∃ e, d = e + 1 := ⟨d - 1, by omega⟩
  have hK := t_Kle hV.1
  refine sg_X11_check_0 hL ?_
  refine sp_X11_isCheck (ρ := ρ) (by omega) hL hV hT (fun ⟨i, q⟩ => ⟨_, rfl, rfl, fun c => absurd c (by decide), fun _ => ?_⟩) (fun hn => ⟨_, rfl, rfl, fun _ => ?_, fun c => absurd rfl c⟩)
  · rw [show (0 ≤ x3 ∧ x3 ≤ 3) ↔ ∃ i, i < 4 ∧ x3 = nI i from ix_le (n := 4) (by omega)]
    refine ⟨fun ⟨w, hw, ew⟩ => ?_, fun c => ?_⟩
    · refine sp_X11_throwsIf0 hL (fun v1 e1 => ⟨_, rfl, rfl, fun _ => ?_, fun c => absurd rfl c⟩)
      have yes := h1 v1 (i, w) ⟨q, hw, ew⟩ e1
      obtain ⟨κ, k⟩ := i
      obtain ⟨hκ, hk, rfl, rfl⟩ := id q
      dsimp only at hκ hk
      subst ew
      have t := (hT.2 κ hκ).1 k hk
      have r0 : v1 230 (12 * κ + k) = nI (t_fi (ρ 0) κ k) := by rw [e1, z_u_ne (by omega)]; exact t.1
      have r1 : v1 231 (12 * κ + k) = nI (t_fj (ρ 0) κ k) := by rw [e1, z_u_ne (by omega)]; exact t.2.1
      have r2 : v1 232 (12 * κ + k) = nI (t_fb (ρ 0) κ k) := by rw [e1, z_u_ne (by omega)]; exact t.2.2
      have r3 : v1 224 (47 + 12 * κ + k) = nI (ρ (47 + 12 * κ + k)) := by rw [e1, z_u_ne (by omega)]; exact hM _ (by omega)
      have hin : vp_in (nI (12 * κ + k)) 24 := vp_in_nI (by omega) (by omega)
      rw [show (12 : Int32) = nI 12 from rfl, pk_mul, show (47 : Int32) = nI 47 from rfl, nI_add, nI_add, nI_add, nI_clamp (n := 12 * κ + k) (by omega), nI_clamp (n := 47 + 12 * κ + k) (by omega), r0, r1, r2, r3]
      rcases (show w = 0 ∨ w = 1 ∨ w = 2 ∨ w = 3 by omega) with rfl | rfl | rfl | rfl
      · exact ⟨fun c => absurd rfl c, fun _ => ⟨hin, yes⟩⟩
      · exact ⟨fun _ => ⟨fun c => absurd rfl c, fun _ => ⟨hin, yes⟩⟩, fun c => absurd c (by decide)⟩
      · exact ⟨fun _ => ⟨fun _ => ⟨fun c => absurd rfl c, fun _ => ⟨hin, yes⟩⟩, fun c => absurd c (by decide)⟩, fun c => absurd c (by decide)⟩
      · exact ⟨fun _ => ⟨fun _ => ⟨fun _ => ⟨vp_in_nI (by omega) (by omega), yes⟩, fun c => absurd c (by decide)⟩, fun c => absurd c (by decide)⟩, fun c => absurd c (by decide)⟩
    · refine sp_X11_throwsIf1 hL (fun v1 e1 => ⟨_, rfl, rfl, fun c => absurd c (by decide), fun _ => h0 v1 (fun ⟨j, y⟩ => c ⟨j.2, y.2⟩) e1⟩)
  · exact sp_X11_throwsIf1 hL (fun v1 e1 => ⟨_, rfl, rfl, fun c => absurd c (by decide), fun _ => h0 v1 (fun ⟨j, y⟩ => hn ⟨j.1, y.1⟩) e1⟩)
theorem sp_X11_qubit (hd : 1 ≤ d) (hL : z_L S) (hV : p_V ρ) (hM : p_M v ρ) (hT : p_MT v (ρ 0))
    (h1 : ∀ v1 i, a_qu ρ x1 x2 i → v1 = z_u v 223 0 0 → Q (some (.int (nI (n_qu ρ i.1 i.2)))) S v1)
    (h0 : ∀ v1, (¬ ∃ i, a_qu ρ x1 x2 i) → v1 = z_u v 223 0 1 → Q (some (.int 0)) S v1) : z_J G d mX11_qubit (0, [.ref 223, .int x1, .int x2], [], S, v) Q := by
  obtain ⟨d, rfl⟩ : ∃ e, d = e + 1 := ⟨d - 1, by omega⟩
  have hd25 : ρ 0 * ρ 0 ≤ 25 := by rcases hV.1 with e | e <;> rw [e] <;> decide
  refine sg_X11_qubit_0 hL ?_
  rw [hM 0 (by omega), pk_mul, ix_le (n := ρ 0 * ρ 0) (by omega), show (0 ≤ x2 ∧ x2 ≤ 2) ↔ ∃ i, i < 3 ∧ x2 = nI i from ix_le (n := 3) (by omega)]
  refine ⟨fun ⟨q, hq, eq⟩ => ⟨fun ⟨w, hw, ew⟩ => ?_, fun c => ?_⟩, fun c => ?_⟩
  · refine sp_X11_throwsIf0 hL (fun v1 e1 => ⟨_, rfl, rfl, fun _ => ?_, fun c => absurd rfl c⟩)
    have yes := h1 v1 (q, w) ⟨hq, eq, hw, ew⟩ e1
    subst eq ew
    refine ⟨fun c => ?_, fun c => ?_⟩
    · have cw : ¬ w = 0 := fun z => c (by rw [z]; rfl)
      obtain ⟨u, rfl⟩ : ∃ u, w = u + 1 := ⟨w - 1, by omega⟩
      rw [nI_pred, show (25 : Int32) = nI 25 from rfl, pk_mul, nI_add, nI_clamp (by omega), show v1 233 (25 * u + q) = nI (t_co (ρ 0) u q) by rw [e1, z_u_ne (by omega)]; exact (hT.2 u (by omega)).2 q hq]
      unfold n_qu at yes
      rw [if_neg (by omega)] at yes
      exact ⟨vp_in_nI (by omega) (by omega), yes⟩
    · have cw : w = 0 := (nI_eq (b := 0) (by omega) (by omega)).mp c
      rw [show (22 : Int32) = nI 22 from rfl, nI_add, nI_clamp (by omega), show v1 224 (22 + q) = nI (ρ (22 + q)) by rw [e1, z_u_ne (by omega)]; exact hM _ (by omega)]
      unfold n_qu at yes
      rw [if_pos cw] at yes
      exact ⟨vp_in_nI (by omega) (by omega), yes⟩
  · exact sp_X11_throwsIf1 hL (fun v1 e1 => ⟨_, rfl, rfl, fun c => absurd c (by decide), fun _ => h0 v1 (fun ⟨j, y⟩ => c ⟨j.2, y.2.2⟩) e1⟩)
  · exact sp_X11_throwsIf1 hL (fun v1 e1 => ⟨_, rfl, rfl, fun c => absurd c (by decide), fun _ => h0 v1 (fun ⟨j, y⟩ => c ⟨j.1, y.1, y.2.1⟩) e1⟩)
theorem sp_X11_edge (hd : 5 ≤ d) (hL : z_L S) (hV : p_V ρ) (hM : p_M v ρ) (hT : p_MT v (ρ 0))
    (h1 : ∀ v1 i, a_eg ρ x1 x2 x3 i → v1 223 0 = 0 → m_pk v v1 → Q (some (.int (n_eg ρ i))) S v1)
    (h0 : ∀ v1, (¬ ∃ i, a_eg ρ x1 x2 x3 i) → v1 223 0 = 1 → m_pk v v1 → Q (some (.int 0)) S v1) : z_J G d mX11_edge (0, [.ref 223, .int x1, .int x2, .int x3, .null], [], S, v) Q := by
  obtain ⟨d, rfl⟩ : ∃ e, d = e + 1 := ⟨d - 1, by omega⟩
  have hE := n_E_le hV.1 hV.2.1
  have hB := n_B_le hV.1 hV.2.1
  have u0 : ∀ v1 : z_Dat, ∀ x : Int32, m_pk v1 (z_u v1 223 0 x) := fun v1 x => ⟨fun b hb => by rw [z_u_ne (by omega)], fun j hj => by unfold m_pf at hj; rw [z_un (by omega)]⟩
  have thr : ∀ v1 : z_Dat, m_pk v v1 → (¬ ∃ i, a_eg ρ x1 x2 x3 i) → ∀ v2, v2 = z_u v1 223 0 1 → Q (some (.int 0)) S v2 := fun v1 f1 hn v2 e2 => h0 v2 hn (by rw [e2, z_ue rfl rfl]) (f1.tr (by rw [e2]; exact u0 _ _))
  refine sg_X11_edge_0 hL ?_
  refine ⟨fun c => ?_, fun c => sp_X11_throwsIf1 hL (fun v1 e1 => ⟨_, rfl, rfl, fun c => absurd c (by decide), fun _ => thr v m_pk.rf (fun ⟨j, y⟩ => c (k_to y.1 y.2.1)) v1 e1⟩)⟩
  obtain ⟨κ, hκ, rfl⟩ := k_of c
  rw [show (0 ≤ x3 ∧ x3 ≤ 2) ↔ ∃ i, i < 3 ∧ x3 = nI i from ix_le (n := 3) (by omega)]
  refine ⟨fun ⟨w, hw, ew⟩ => ?_, fun c => sp_X11_throwsIf1 hL (fun v1 e1 => ⟨_, rfl, rfl, fun c => absurd c (by decide), fun _ => thr v m_pk.rf (fun ⟨j, y⟩ => c ⟨j.2.2, y.2.2.2.2⟩) v1 e1⟩)⟩
  refine sp_X11_laysNet (by omega) hL hV hM hT hκ (fun v1 hN hEv => ⟨rfl, rfl, ?_⟩)
  have f1 : m_pk v v1 := hN.2.2.f6.pk
  rw [hN.1.1, ix_le (n := n_E ρ) (by omega)]
  refine ⟨fun ⟨e, he, ee⟩ => ?_, fun c => sp_X11_throwsIf1 hL (fun v2 e2 => ⟨_, rfl, rfl, fun c => absurd c (by decide), fun _ => thr v1 f1 (fun ⟨j, y⟩ => c ⟨j.2.1, y.2.2.1, y.2.2.2.1⟩) v2 e2⟩)⟩
  refine sp_X11_throwsIf0 hL (fun v2 e2 => ⟨_, rfl, rfl, fun _ => ?_, fun c => absurd rfl c⟩)
  have yes := h1 v2 (κ, e, w) ⟨hκ, rfl, he, ee, hw, ew⟩ (by rw [e2, z_ue rfl rfl]) (f1.tr (by rw [e2]; exact u0 _ _))
  subst ee ew
  obtain ⟨q1, q2, q3⟩ := hN.2.1 e he
  have hhi : n_hi ρ κ e ≤ n_B ρ := (n_ends hV.1 hκ he).2.2
  have hin : vp_in (nI e) 321 := vp_in_nI (by omega) (by omega)
  rw [nI_clamp (n := e) (by omega), show v2 238 e = nI (n_lo ρ κ e) by rw [e2, z_u_ne (by omega)]; exact q1, show v2 239 e = nI (n_hi ρ κ e) by rw [e2, z_u_ne (by omega)]; exact q2, show v2 240 e = nI (n_w ρ κ e) by rw [e2, z_u_ne (by omega)]; exact q3, show v2 223 32 = nI (n_B ρ) by rw [e2, z_un (by omega)]; exact hN.1.2]
  rcases (show w = 0 ∨ w = 1 ∨ w = 2 by omega) with rfl | rfl | rfl
  · exact ⟨fun c => absurd rfl c, fun _ => ⟨hin, yes⟩⟩
  · refine ⟨fun _ => ⟨fun _ => ⟨hin, fun c => ⟨hin, ?_⟩, fun c => ?_⟩, fun c => absurd c (by decide)⟩, fun c => absurd c (by decide)⟩
    · have ne : ¬ n_hi ρ κ e = n_B ρ := fun z => c (by rw [z])
      unfold n_eg at yes
      rw [if_neg (show ¬ (1 : Nat) = 0 by omega), if_pos rfl, if_neg ne] at yes
      exact yes
    · have eq := (nI_eq (by omega) (by omega)).mp c
      unfold n_eg at yes
      rw [if_neg (show ¬ (1 : Nat) = 0 by omega), if_pos rfl, if_pos eq] at yes
      exact yes
  · exact ⟨fun _ => ⟨fun c => absurd rfl c, fun _ => ⟨hin, yes⟩⟩, fun c => absurd c (by decide)⟩
end CK
