/-! far, way, events, event, edges: the class' and the reference's answers stand in one relation, which has one answer -/
def a_no (ρ : Nat → Nat) (x1 x2 x3 : Int32) : Prop := ¬ ∃ κ i T, a_ok ρ x1 x2 x3 κ i T
def a_far (ρ : Nat → Nat) (x1 x2 x3 y : Int32) : Prop := (∃ κ i T, a_ok ρ x1 x2 x3 κ i T ∧ y = nI (n_ds ρ κ T ((n_evs ρ κ).getD i 0))) ∨ (a_no ρ x1 x2 x3 ∧ y = -1)
/-- the x-th of a list, else -1 -/
def a_at (l : List Nat) (x y : Int32) : Prop := (∃ q, q < l.length ∧ x = nI q ∧ y = nI (l.getD q 0)) ∨ ((¬ ∃ q, q < l.length ∧ x = nI q) ∧ y = -1)
def a_way (ρ : Nat → Nat) (x1 x2 x3 x4 y : Int32) : Prop := (∃ κ i T, a_ok ρ x1 x2 x3 κ i T ∧ (n_wy ρ κ T 120 ((n_evs ρ κ).getD i 0)).length ≤ 120 ∧ a_at (n_wy ρ κ T 120 ((n_evs ρ κ).getD i 0)) x4 y) ∨ (a_no ρ x1 x2 x3 ∧ y = -1)
theorem a_far_u {ρ : Nat → Nat} {x1 x2 x3 y y' : Int32} (hB : n_B ρ ≤ 108) (h : a_far ρ x1 x2 x3 y) (h' : a_far ρ x1 x2 x3 y') : y = y' := by
  rcases h with ⟨κ, i, T, h1, h2⟩ | ⟨h1, h2⟩ <;> rcases h' with ⟨κ', i', T', h3, h4⟩ | ⟨h3, h4⟩
  · obtain ⟨rfl, rfl, rfl⟩ := a_ok_u hB h1 h3
    rw [h2, h4]
  · exact absurd ⟨κ, i, T, h1⟩ h3
  · exact absurd ⟨κ', i', T', h3⟩ h1
  · rw [h2, h4]
theorem a_at_u {l : List Nat} {x y y' : Int32} (hl : l.length < 2 ^ 31) (h : a_at l x y) (h' : a_at l x y') : y = y' := by
  rcases h with ⟨q, h1, h2, h3⟩ | ⟨h1, h2⟩ <;> rcases h' with ⟨q', h4, h5, h6⟩ | ⟨h4, h5⟩
  · have : q = q' := (nI_eq (by omega) (by omega)).mp (h2.symm.trans h5)
    rw [h3, h6, this]
  · exact absurd ⟨q, h1, h2⟩ h4
  · exact absurd ⟨q', h4, h5⟩ h1
  · rw [h2, h5]
theorem a_way_u {ρ : Nat → Nat} {x1 x2 x3 x4 y y' : Int32} (hB : n_B ρ ≤ 108) (h : a_way ρ x1 x2 x3 x4 y) (h' : a_way ρ x1 x2 x3 x4 y') : y = y' := by
  rcases h with ⟨κ, i, T, h1, hl, h2⟩ | ⟨h1, h2⟩ <;> rcases h' with ⟨κ', i', T', h3, hl', h4⟩ | ⟨h3, h4⟩
  · obtain ⟨rfl, rfl, rfl⟩ := a_ok_u hB h1 h3
    exact a_at_u (by omega) h2 h4
  · exact absurd ⟨κ, i, T, h1⟩ h3
  · exact absurd ⟨κ', i', T', h3⟩ h1
  · rw [h2, h4]
def a_evs (ρ : Nat → Nat) (x1 y : Int32) : Prop := (∃ κ, κ < 2 ∧ x1 = nI κ ∧ y = nI (n_evs ρ κ).length) ∨ (¬ (x1 = 0 ∨ x1 = 1) ∧ y = -1)
def a_eds (ρ : Nat → Nat) (x1 y : Int32) : Prop := ((x1 = 0 ∨ x1 = 1) ∧ y = nI (n_E ρ)) ∨ (¬ (x1 = 0 ∨ x1 = 1) ∧ y = -1)
theorem a_evs_u {ρ : Nat → Nat} {x1 y y' : Int32} (h : a_evs ρ x1 y) (h' : a_evs ρ x1 y') : y = y' := by
  rcases h with ⟨κ, h1, h2, h3⟩ | ⟨h1, h2⟩ <;> rcases h' with ⟨κ', h4, h5, h6⟩ | ⟨h4, h5⟩
  · have : κ = κ' := (nI_eq (by omega) (by omega)).mp (h2.symm.trans h5)
    rw [h3, h6, this]
  · exact absurd (k_to h1 h2) h4
  · exact absurd (k_to h4 h5) h1
  · rw [h2, h5]
theorem a_eds_u {ρ : Nat → Nat} {x1 y y' : Int32} (h : a_eds ρ x1 y) (h' : a_eds ρ x1 y') : y = y' := by
  rcases h with ⟨h1, h2⟩ | ⟨h1, h2⟩ <;> rcases h' with ⟨h4, h5⟩ | ⟨h4, h5⟩
  · rw [h2, h5]
  · exact absurd h1 h4
  · exact absurd h4 h1
  · rw [h2, h5]
/-- what far, way and the like leave of the reference -/
def m_f6 (v v1 : z_Dat) : Prop := (∀ b, b ≠ 223 → (b < 238 ∨ 243 < b) → v1 b = v b) ∧ ∀ j, j ≠ 0 → j ≠ 36 → (j < 31 ∨ 34 < j) → v1 223 j = v 223 j
theorem m_f6.tr {v v1 v2 : z_Dat} (h1 : m_f6 v v1) (h2 : m_f6 v1 v2) : m_f6 v v2 := ⟨fun b a1 a2 => (h2.1 b a1 a2).trans (h1.1 b a1 a2), fun j a1 a2 a3 => (h2.2 j a1 a2 a3).trans (h1.2 j a1 a2 a3)⟩
theorem m_fr.f6 {v v1 : z_Dat} (h : m_fr v v1) : m_f6 v v1 := ⟨fun b a1 a2 => h.1 b a1 (by omega) (by omega) (by omega) (by omega), fun j _ _ a3 => h.2 j a3⟩
theorem m_f6.u0 {v : z_Dat} {x : Int32} : m_f6 v (z_u v 223 0 x) := ⟨fun b a1 _ => by rw [z_u_ne a1], fun j a1 _ _ => by rw [z_un (by omega)]⟩
section AN
variable {G : z_G} {d : Nat} {S : z_Shp} {v v0 : z_Dat} {Q : Option Value → z_Shp → z_Dat → Prop} {ρ : Nat → Nat} {x1 x2 x3 x4 : Int32}
theorem m_f6.T {D : Nat} (h : m_f6 v0 v) (hT : p_MT v0 D) : p_MT v D := hT.fr (h.2 14 (by omega) (by omega) (by omega)) (fun a _ _ => h.1 a (by omega) (by omega))
theorem m_f6.M (h : m_f6 v0 v) (hM : p_M v0 ρ) : p_M v ρ := hM.fr (h.1 224 (by omega) (by omega))
theorem sp_X10_far (hd : 6 ≤ d) (hL : z_L S) (hV : p_V ρ) (hW : p_Ws v) (hF : p_F S v 37 ρ) (h : ∀ v1 y, z_fr 149 163 v v1 → a_far ρ x1 x2 x3 y → Q (some (.int y)) S v1) : z_J G d mX10_far (0, [.ref 0, .int x1, .int x2, .int x3], [], S, v) Q := by
  obtain ⟨d, rfl⟩ : ∃ e, d = e + 1 := ⟨d - 1, by omega⟩
  refine sg_X10_far_0 hL (sp_X10_findWay (by omega) hL hV hW hF (fun κ i T v1 a1 a2 a3 a4 a5 a6 a7 => ⟨1, rfl, rfl, fun c => absurd c (by decide), fun _ => ?_⟩) (fun v1 a1 a2 => ⟨0, rfl, rfl, fun _ => h v1 _ a2 (Or.inr ⟨a1, rfl⟩), fun c => absurd rfl c⟩))
  exact h v1 _ a2 (Or.inl ⟨κ, i, T, a1, a4⟩)
theorem sp_X10_way (hd : 6 ≤ d) (hL : z_L S) (hV : p_V ρ) (hW : p_Ws v) (hF : p_F S v 37 ρ) (h : ∀ v1 y, z_fr 149 163 v v1 → a_way ρ x1 x2 x3 x4 y → Q (some (.int y)) S v1) : z_J G d mX10_way (0, [.ref 0, .int x1, .int x2, .int x3, .int x4], [], S, v) Q := by
  obtain ⟨d, rfl⟩ : ∃ e, d = e + 1 := ⟨d - 1, by omega⟩
  refine sg_X10_way_0 hL (sp_X10_findWay (by omega) hL hV hW hF (fun κ i T v1 a1 a2 a3 a4 a5 a6 a7 => ⟨1, rfl, rfl, fun c => absurd c (by decide), fun _ => ?_⟩) (fun v1 a1 a2 => ⟨0, rfl, rfl, fun _ => h v1 _ a2 (Or.inr ⟨a1, rfl⟩), fun c => absurd rfl c⟩))
  have no : ∀ v1', v1' = v1 → (¬ ∃ q, q < (n_wy ρ κ T 120 ((n_evs ρ κ).getD i 0)).length ∧ x4 = nI q) → Q (some (.int (-1))) S v1' := fun v1' e z => by
    rw [e]; exact h v1 _ a2 (Or.inl ⟨κ, i, T, a1, a7, Or.inr ⟨z, rfl⟩⟩)
  rw [a5]
  refine ⟨fun c => no v1 rfl (fun ⟨q, q1, q2⟩ => ?_), fun c => ⟨fun c2 => ?_, fun c2 => no v1 rfl (fun ⟨q, q1, q2⟩ => ?_)⟩⟩
  · rw [q2] at c; exact absurd c (nI_pos (by omega))
  · obtain ⟨q, q1, q2⟩ := (ix_lt (x := x4) (n := (n_wy ρ κ T 120 ((n_evs ρ κ).getD i 0)).length) (by omega)).mp ⟨Int32.not_lt.mp c, c2⟩
    refine ⟨by rw [q2]; exact vp_in_nI (by omega) (by omega), h v1 _ a2 (Or.inl ⟨κ, i, T, a1, a7, Or.inl ⟨q, q1, q2, ?_⟩⟩)⟩
    rw [q2, nI_clamp (by omega)]; exact a6 q q1
  · exact c2 (by rw [q2]; exact nI_lt q1 (by omega))
theorem sp_X10_events (hd : 4 ≤ d) (hL : z_L S) (hV : p_V ρ) (hW : p_Ws v) (hF : p_F S v 37 ρ) (h : ∀ v1 y, z_fr 149 163 v v1 → a_evs ρ x1 y → Q (some (.int y)) S v1) : z_J G d mX10_events (0, [.ref 0, .int x1], [], S, v) Q := by
  obtain ⟨d, rfl⟩ : ∃ e, d = e + 1 := ⟨d - 1, by omega⟩
  refine sg_X10_events_0 hL ⟨fun c => ?_, fun c => h v _ z_fr.rf (Or.inr ⟨c, rfl⟩)⟩
  obtain ⟨κ, hκ, rfl⟩ := k_of c
  refine sp_X4_spread (by omega) hL hV hW zF_37 hF hκ (fun v1 hN hE => ⟨rfl, rfl, ?_⟩)
  exact h v1 _ (fun b hb => hN.2.2.2 b (by omega)) (Or.inl ⟨κ, hκ, rfl, hE.1⟩)
theorem sp_X10_edges (hd : 4 ≤ d) (hL : z_L S) (hV : p_V ρ) (hW : p_Ws v) (hF : p_F S v 37 ρ) (h : ∀ v1 y, z_fr 149 163 v v1 → a_eds ρ x1 y → Q (some (.int y)) S v1) : z_J G d mX10_edges (0, [.ref 0, .int x1], [], S, v) Q := by
  obtain ⟨d, rfl⟩ : ∃ e, d = e + 1 := ⟨d - 1, by omega⟩
  refine sg_X10_edges_0 hL ⟨fun c => ?_, fun c => h v _ z_fr.rf (Or.inr ⟨c, rfl⟩)⟩
  obtain ⟨κ, hκ, rfl⟩ := k_of c
  refine sp_X4_spread (by omega) hL hV hW zF_37 hF hκ (fun v1 hN hE => ⟨rfl, rfl, ?_⟩)
  exact h v1 _ (fun b hb => hN.2.2.2 b (by omega)) (Or.inl ⟨c, hN.1.2.2.1⟩)
theorem sp_X11_isPair (hd : 5 ≤ d) (hL : z_L S) (hV : p_V ρ) (hM : p_M v ρ) (hT : p_MT v (ρ 0))
    (h1 : ∀ κ i T v1, a_ok ρ x1 x2 x3 κ i T → m_N ρ κ v v1 (n_E ρ) → m_Ev ρ κ v1 (n_B ρ) → Q (some (.int 1)) S v1)
    (h0 : ∀ v1, a_no ρ x1 x2 x3 → m_f6 v v1 → Q (some (.int 0)) S v1) : z_J G d mX11_isPair (0, [.ref 223, .int x1, .int x2, .int x3], [], S, v) Q := by
  obtain ⟨d, rfl⟩ : ∃ e, d = e + 1 := ⟨d - 1, by omega⟩
  have hB := n_B_le hV.1 hV.2.1
  refine sg_X11_isPair_0 hL ⟨fun c => ?_, fun c => h0 v (fun ⟨κ, i, T, q⟩ => c (k_to q.1 q.2.1)) m_fr.rf.f6⟩
  obtain ⟨κ, hκ, rfl⟩ := k_of c
  refine sp_X11_laysNet (by omega) hL hV hM hT hκ (fun v1 hN hE => ⟨rfl, rfl, ?_⟩)
  have hlen := n_evs_len (ρ := ρ) (κ := κ)
  have e3 : v1 223 33 = nI (n_evs ρ κ).length := hE.1
  have hf := hN.2.2.f6
  have un : ∀ κ' i T, a_ok ρ (nI κ) x2 x3 κ' i T → κ = κ' := fun κ' i T q => (nI_eq (by omega) (by have := q.1; omega)).mp q.2.1
  rw [e3, ix_le (by omega), ix_m (by omega)]
  refine ⟨fun ⟨i, hi, e⟩ => ⟨fun c2 => ⟨fun c3 => h0 v1 (fun ⟨κ', i', T, q⟩ => q.2.2.2.2.1 c3) hf, fun c3 => ?_⟩, fun c2 => h0 v1 (fun ⟨κ', i', T, q⟩ => ?_) hf⟩, fun c2 => h0 v1 (fun ⟨κ', i', T, q⟩ => ?_) hf⟩
  · rcases c2 with c2 | ⟨j, hj, ej⟩
    · exact h1 κ i (n_B ρ) v1 ⟨hκ, rfl, e, hi, c3, Or.inl ⟨c2, rfl⟩⟩ hN hE
    · exact h1 κ i _ v1 ⟨hκ, rfl, e, hi, c3, Or.inr ⟨j, ej, hj, rfl⟩⟩ hN hE
  · have := un _ _ _ q
    subst this
    rcases q.2.2.2.2.2 with ⟨q6, -⟩ | ⟨j, q6, q7, -⟩
    · exact c2 (Or.inl q6)
    · exact c2 (Or.inr ⟨j, q7, q6⟩)
  · have := un _ _ _ q
    subst this
    exact c2 ⟨i', q.2.2.2.1, q.2.2.1⟩
theorem sp_X11_aims {κ i T : Nat} (hd : 1 ≤ d) (hL : z_L S) (hV : p_V ρ) (hok : a_ok ρ x1 x2 x3 κ i T) (hN : m_N ρ κ v0 v (n_E ρ)) (hE : m_Ev ρ κ v (n_B ρ)) (h : ∀ v1, m_D ρ κ T v1 → (∀ a, a ≠ 241 → v1 a = v a) → n_isD ρ κ T (n_ds ρ κ T) → Q none S v1) : z_J G d mX11_aims (0, [.ref 223, .int x3], [], S, v) Q := by
  obtain ⟨d, rfl⟩ : ∃ e, d = e + 1 := ⟨d - 1, by omega⟩
  have hB := n_B_le hV.1 hV.2.1
  have hlen := n_evs_len (ρ := ρ) (κ := κ)
  have hκ := hok.1
  have fin : ∀ v1, (∀ s, s < n_B ρ → v1 241 s = nI (n_ds ρ κ T s)) → (T = n_B ρ → v1 241 (n_B ρ) = 0) → (T ≠ n_B ρ → v1 241 (n_B ρ) = 1000000) → (∀ a, a ≠ 241 → v1 a = v a) → n_isD ρ κ T (n_ds ρ κ T) → Q none S v1 := fun v1 b1 b2 b3 b4 b5 => h v1 ⟨b1, by
    by_cases z : T = n_B ρ
    · rw [if_pos z]; exact b2 z
    · rw [if_neg z]; exact b3 z⟩ b4 b5
  rcases hok.2.2.2.2.2 with ⟨q1, q2⟩ | ⟨j, q1, q2, q3⟩
  · refine sg_X11_aims_0 hL ⟨fun c => absurd c (by rw [q1]; decide), fun _ => ?_⟩
    rw [hN.1.2, ← q2]
    exact sp_X11_laysLeft hL hV hκ hN (a_ok_T hok) (fun v1 b1 b2 b3 b4 b5 => ⟨rfl, rfl, fin v1 b1 b2 b3 b4 b5⟩)
  · refine sg_X11_aims_0 hL ⟨fun _ => ⟨by rw [q1]; exact vp_in_nI (by omega) (by omega), ?_⟩, fun c => absurd (by rw [q1]; exact nI_pos' (by omega)) c⟩
    rw [q1, nI_clamp (by omega), hE.2 j q2]
    have q3 : T = (n_ev ρ κ (n_B ρ)).getD j 0 := q3
    rw [← q3]
    exact sp_X11_laysLeft hL hV hκ hN (a_ok_T hok) (fun v1 b1 b2 b3 b4 b5 => ⟨rfl, rfl, fin v1 b1 b2 b3 b4 b5⟩)
theorem sp_X11_far (hd : 6 ≤ d) (hL : z_L S) (hV : p_V ρ) (hM : p_M v ρ) (hT : p_MT v (ρ 0)) (h : ∀ v1 y, m_f6 v v1 → a_far ρ x1 x2 x3 y → Q (some (.int y)) S v1) : z_J G d mX11_far (0, [.ref 223, .int x1, .int x2, .int x3], [], S, v) Q := by
  obtain ⟨d, rfl⟩ : ∃ e, d = e + 1 := ⟨d - 1, by omega⟩
  have hB := n_B_le hV.1 hV.2.1
  refine sg_X11_far_0 hL (fun v1 e1 => ?_)
  have f1 : m_f6 v v1 := by rw [e1]; exact m_f6.u0
  refine sp_X11_isPair (by omega) hL hV (f1.M hM) (f1.T hT) (fun κ i T v2 hok hN hE => ⟨1, rfl, rfl, fun _ => ?_, fun c => absurd c (by decide)⟩) (fun v2 a1 a2 => ⟨0, rfl, rfl, fun c => absurd rfl c, fun _ => h v2 _ (f1.tr a2) (Or.inr ⟨a1, rfl⟩)⟩)
  refine sp_X11_aims (by omega) hL hV hok hN hE (fun v3 hD hfr hisD => ⟨rfl, rfl, ?_⟩)
  have hlen := n_evs_len (ρ := ρ) (κ := κ)
  have hi := hok.2.2.2.1
  have hlt := n_evs_lt hi
  have e5 : v3 242 i = nI ((n_evs ρ κ).getD i 0) := by rw [hfr 242 (by omega)]; exact hE.2 i hi
  rw [hok.2.2.1, nI_clamp (by omega), e5, nI_clamp (by omega), hD.1 _ hlt]
  have f3 : m_f6 v2 v3 := ⟨fun b b1 b2 => hfr b (by omega), fun j _ _ _ => by rw [hfr 223 (by omega)]⟩
  exact ⟨vp_in_nI (by omega) (by omega), vp_in_nI (by omega) (by omega), h v3 _ ((f1.tr hN.2.2.f6).tr f3) (Or.inl ⟨κ, i, T, hok, rfl⟩)⟩
theorem sp_X11_way (hd : 6 ≤ d) (hL : z_L S) (hV : p_V ρ) (hM : p_M v ρ) (hT : p_MT v (ρ 0)) (h : ∀ v1 y, m_f6 v v1 → a_way ρ x1 x2 x3 x4 y → Q (some (.int y)) S v1) : z_J G d mX11_way (0, [.ref 223, .int x1, .int x2, .int x3, .int x4], [], S, v) Q := by
  obtain ⟨d, rfl⟩ : ∃ e, d = e + 1 := ⟨d - 1, by omega⟩
  have hB := n_B_le hV.1 hV.2.1
  refine sg_X11_way_0 hL (fun v1 e1 => ?_)
  have f1 : m_f6 v v1 := by rw [e1]; exact m_f6.u0
  refine sp_X11_isPair (by omega) hL hV (f1.M hM) (f1.T hT) (fun κ i T v2 hok hN hE => ⟨1, rfl, rfl, fun _ => ?_, fun c => absurd c (by decide)⟩) (fun v2 a1 a2 => ⟨0, rfl, rfl, fun c => absurd rfl c, fun _ => h v2 _ (f1.tr a2) (Or.inr ⟨a1, rfl⟩)⟩)
  refine sp_X11_aims (by omega) hL hV hok hN hE (fun v3 hD hfr hisD => ⟨rfl, rfl, ?_⟩)
  have hlen := n_evs_len (ρ := ρ) (κ := κ)
  have hi := hok.2.2.2.1
  have hlt := n_evs_lt hi
  have e5 : v3 242 i = nI ((n_evs ρ κ).getD i 0) := by rw [hfr 242 (by omega)]; exact hE.2 i hi
  have f3 : m_f6 v2 v3 := ⟨fun b b1 b2 => hfr b (by omega), fun j _ _ _ => by rw [hfr 223 (by omega)]⟩
  rw [hok.2.2.1, nI_clamp (by omega), e5]
  refine ⟨vp_in_nI (by omega) (by omega), sp_X11_laysWay (by omega) hL hV hok.1 (fun e he => by rw [hfr 238 (by omega), hfr 239 (by omega), hfr 240 (by omega)]; exact hN.2.1 e he) (a_ok_T hok) hisD hD (Or.inl hlt) (fun v4 b1 b2 b3 b4 b5 => ⟨rfl, rfl, ?_⟩)⟩
  have f4 : m_f6 v3 v4 := ⟨fun b c1 c2 => b3 b c1 (by omega), fun j _ c2 _ => b4 j c2⟩
  have f := ((f1.tr hN.2.2.f6).tr f3).tr f4
  rw [b1, ix_le (by omega)]
  refine ⟨fun ⟨q, q1, q2⟩ => ⟨by rw [q2]; exact vp_in_nI (by omega) (by omega), h v4 _ f (Or.inl ⟨κ, i, T, hok, b5, Or.inl ⟨q, q1, q2, ?_⟩⟩)⟩, fun c => h v4 _ f (Or.inl ⟨κ, i, T, hok, b5, Or.inr ⟨c, rfl⟩⟩)⟩
  rw [q2, nI_clamp (by omega)]; exact b2 q q1
theorem sp_X11_events (hd : 5 ≤ d) (hL : z_L S) (hV : p_V ρ) (hM : p_M v ρ) (hT : p_MT v (ρ 0)) (h : ∀ v1 y, m_f6 v v1 → a_evs ρ x1 y → Q (some (.int y)) S v1) : z_J G d mX11_events (0, [.ref 223, .int x1], [], S, v) Q := by
  obtain ⟨d, rfl⟩ : ∃ e, d = e + 1 := ⟨d - 1, by omega⟩
  refine sg_X11_events_0 hL (fun v1 e1 => ?_)
  have f1 : m_f6 v v1 := by rw [e1]; exact m_f6.u0
  refine ⟨fun c => ?_, fun c => h v1 _ f1 (Or.inr ⟨c, rfl⟩)⟩
  obtain ⟨κ, hκ, rfl⟩ := k_of c
  exact sp_X11_laysNet (by omega) hL hV (f1.M hM) (f1.T hT) hκ (fun v2 hN hE => ⟨rfl, rfl, h v2 _ (f1.tr hN.2.2.f6) (Or.inl ⟨κ, hκ, rfl, hE.1⟩)⟩)
theorem sp_X11_edges (hd : 5 ≤ d) (hL : z_L S) (hV : p_V ρ) (hM : p_M v ρ) (hT : p_MT v (ρ 0)) (h : ∀ v1 y, m_f6 v v1 → a_eds ρ x1 y → Q (some (.int y)) S v1) : z_J G d mX11_edges (0, [.ref 223, .int x1], [], S, v) Q := by
  obtain ⟨d, rfl⟩ : ∃ e, d = e + 1 := ⟨d - 1, by omega⟩
  refine sg_X11_edges_0 hL (fun v1 e1 => ?_)
  have f1 : m_f6 v v1 := by rw [e1]; exact m_f6.u0
  refine ⟨fun c => ?_, fun c => h v1 _ f1 (Or.inr ⟨c, rfl⟩)⟩
  obtain ⟨κ, hκ, rfl⟩ := k_of c
  exact sp_X11_laysNet (by omega) hL hV (f1.M hM) (f1.T hT) hκ (fun v2 hN hE => ⟨rfl, rfl, h v2 _ (f1.tr hN.2.2.f6) (Or.inl ⟨c, hN.1.1⟩)⟩)
end AN
