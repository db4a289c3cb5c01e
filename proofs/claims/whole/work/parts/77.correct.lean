/-! correction, result, blame: both sides -/
theorem y_fm_lt {ρ : Nat → Nat} {g : Nat → Nat} {b n X : Nat} (hb : b < X) (hg : ∀ i, i < n → g i < X) : y_fm ρ g b n < X := by
  rcases (y_fm_ok (ρ := ρ) (g := g) (b := b) n).2.2 with e | ⟨i, hi, e⟩
  · rw [e]; exact hb
  · rw [e]; exact hg i hi
theorem y_lt_lt {ρ : Nat → Nat} {κ s : Nat} (hV : p_V ρ) (hκ : κ < 2) (hs : s < 2 ^ (ρ 0 * ρ 0)) : y_lt ρ κ s < 2 ^ (ρ 0 * ρ 0) := by
  rw [← y_lt_m hV.1]
  exact y_fm_lt hs (fun i hi => y_s_lt hV.1 hκ hs i hi)
/-- the set of qubits that a way of decoding tells -/
noncomputable def n_co (ρ : Nat → Nat) (κ h : Nat) : Nat := if h = 0 then n_qb ρ (n_tr ρ κ (n_evs ρ κ).length) (n_E ρ) else if h = 1 then n_qb ρ (n_pf ρ κ) (n_E ρ) else y_lt ρ κ (ρ (2 + κ))
theorem n_co_lt {ρ : Nat → Nat} {κ h : Nat} (hV : p_V ρ) (hκ : κ < 2) : n_co ρ κ h < 2 ^ (ρ 0 * ρ 0) := by
  unfold n_co
  by_cases e : h = 0
  · rw [if_pos e]; exact n_qb_lt _
  rw [if_neg e]
  by_cases e1 : h = 1
  · rw [if_pos e1]; exact n_qb_lt _
  rw [if_neg e1]
  exact y_lt_lt hV hκ (hV.2.2.1 κ hκ).1
theorem n_co_l {ρ : Nat → Nat} {κ h : Nat} (hV : p_V ρ) (hκ : κ < 2) : n_co ρ κ h < 2 ^ 25 := by
  refine Nat.lt_of_lt_of_le (n_co_lt hV hκ) (Nat.pow_le_pow_right (by omega) ?_)
  rcases hV.1 with e | e <;> rw [e] <;> decide
def a_how (ρ : Nat → Nat) (κ : Nat) (x : Int32) (h : Nat) : Prop := h < 3 ∧ x = nI h ∧ (h = 0 → (n_evs ρ κ).length ≤ 14)
theorem a_how_u {ρ : Nat → Nat} {κ : Nat} {x : Int32} {h h' : Nat} (g : a_how ρ κ x h) (g' : a_how ρ κ x h') : h = h' := (nI_eq (by have := g.1; omega) (by have := g'.1; omega)).mp (g.2.1.symm.trans g'.2.1)
def a_co (ρ : Nat → Nat) (κ : Nat) (x y : Int32) : Prop := (∃ h, a_how ρ κ x h ∧ y = nI (n_co ρ κ h)) ∨ ((¬ ∃ h, a_how ρ κ x h) ∧ y = -1)
theorem a_co_u {ρ : Nat → Nat} {κ : Nat} {x y y' : Int32} (h : a_co ρ κ x y) (h' : a_co ρ κ x y') : y = y' := by
  rcases h with ⟨i, h1, h2⟩ | ⟨h1, h2⟩ <;> rcases h' with ⟨j, g1, g2⟩ | ⟨g1, g2⟩
  · rw [h2, g2, a_how_u h1 g1]
  · exact absurd ⟨i, h1⟩ g1
  · exact absurd ⟨j, g1⟩ h1
  · rw [h2, g2]
/-- a call's answer for a kind -/
def a_kd (P : Nat → Int32 → Prop) (x y : Int32) : Prop := (∃ κ, κ < 2 ∧ x = nI κ ∧ P κ y) ∨ (¬ (x = 0 ∨ x = 1) ∧ y = -1)
theorem a_kd_u {P : Nat → Int32 → Prop} {x y y' : Int32} (hP : ∀ κ, κ < 2 → P κ y → P κ y' → y = y') (h : a_kd P x y) (h' : a_kd P x y') : y = y' := by
  rcases h with ⟨i, h1, h2, h3⟩ | ⟨h1, h2⟩ <;> rcases h' with ⟨j, g1, g2, g3⟩ | ⟨g1, g2⟩
  · have e : i = j := (nI_eq (by omega) (by omega)).mp (h2.symm.trans g2)
    subst e
    exact hP i h1 h3 g3
  · exact absurd (k_to h1 h2) g1
  · exact absurd (k_to g1 g2) h1
  · rw [h2, g2]
def a_re (ρ : Nat → Nat) (κ : Nat) (x y : Int32) : Prop := (∃ h, a_how ρ κ x h ∧ y = nI (p_lg (ρ 0) κ (ρ (2 + κ) ^^^ n_co ρ κ h))) ∨ ((¬ ∃ h, a_how ρ κ x h) ∧ y = -1)
theorem a_re_u {ρ : Nat → Nat} {κ : Nat} {x y y' : Int32} (h : a_re ρ κ x y) (h' : a_re ρ κ x y') : y = y' := by
  rcases h with ⟨i, h1, h2⟩ | ⟨h1, h2⟩ <;> rcases h' with ⟨j, g1, g2⟩ | ⟨g1, g2⟩
  · rw [h2, g2, a_how_u h1 g1]
  · exact absurd ⟨i, h1⟩ g1
  · exact absurd ⟨j, g1⟩ h1
  · rw [h2, g2]
/-- the edges that a way of decoding takes -/
noncomputable def n_ge (ρ : Nat → Nat) (κ h : Nat) : Nat → Nat := if h = 0 then n_tr ρ κ (n_evs ρ κ).length else n_pf ρ κ
def a_ho2 (ρ : Nat → Nat) (κ : Nat) (x2 x3 : Int32) (h t : Nat) : Prop := h < 2 ∧ a_how ρ κ x2 h ∧ t < ρ 1 ∧ x3 = nI t
def a_bl (ρ : Nat → Nat) (κ : Nat) (x2 x3 y : Int32) : Prop := (∃ h t, a_ho2 ρ κ x2 x3 h t ∧ y = nI (n_rr ρ (n_ge ρ κ h) t (n_E ρ))) ∨ ((¬ ∃ h t, a_ho2 ρ κ x2 x3 h t) ∧ y = -1)
theorem a_bl_u {ρ : Nat → Nat} {κ : Nat} {x2 x3 y y' : Int32} (hV : p_V ρ) (h : a_bl ρ κ x2 x3 y) (h' : a_bl ρ κ x2 x3 y') : y = y' := by
  rcases h with ⟨i, t, h1, h2⟩ | ⟨h1, h2⟩ <;> rcases h' with ⟨j, t', g1, g2⟩ | ⟨g1, g2⟩
  · have e := a_how_u h1.2.1 g1.2.1
    subst e
    have e : t = t' := (nI_eq (by have := h1.2.2.1; have := hV.2.1; omega) (by have := g1.2.2.1; have := hV.2.1; omega)).mp (h1.2.2.2.symm.trans g1.2.2.2)
    rw [h2, g2, e]
  · exact absurd ⟨i, t, h1⟩ g1
  · exact absurd ⟨j, t', g1⟩ h1
  · rw [h2, g2]
def c_pw (v v1 : z_Dat) : Prop := ∀ b, b < 149 ∨ (198 ≤ b ∧ b < 262) → v1 b = v b
theorem c_pw.pk {v v1 : z_Dat} (h : c_pw v v1) : c_pk v v1 := fun b hb => h b (by omega)
theorem c_pw.rf {v : z_Dat} : c_pw v v := fun _ _ => rfl
section CO
variable {G : z_G} {d : Nat} {S : z_Shp} {v v0 : z_Dat} {Q : Option Value → z_Shp → z_Dat → Prop} {ρ : Nat → Nat} {B : Nat × Nat × Nat} {x1 x2 x3 : Int32} {κ f : Nat}
theorem sp_X10_correctionOf (hd : 19 ≤ d) (hI : e_I B S) (hB : B.1 ≤ 999000) (hV : p_V ρ) (hW : p_Ws v) (hf : z_isF f) (hF : p_F S v f ρ) (hκ : κ < 2)
    (h : ∀ S1 v1 y, e_I B S1 → e_R S S1 → a_co ρ κ x3 y → c_pw v v1 → Q (some (.int y)) S1 v1) : z_J G d mX10_correctionOf (0, [.ref 0, .ref f, .int (nI κ), .int x3], [], S, v) Q := by
  obtain ⟨d, rfl⟩ : ∃ e, d = e + 1 := ⟨d - 1, by omega⟩
  refine sg_X10_correctionOf_0 hI.1 hf ⟨fun c0 => ⟨fun c1 => ⟨fun c2 => h S v _ hI e_R.rf (Or.inr ⟨fun ⟨i, i1, i2, _⟩ => ?_, rfl⟩) c_pw.rf, fun c2 => ?_⟩, fun c1 => ?_⟩, fun c0 => ?_⟩
  · rcases (show i = 0 ∨ i = 1 ∨ i = 2 by omega) with rfl | rfl | rfl
    · exact c0 i2
    · exact c1 i2
    · exact c2 i2
  · refine sp_X3_lightestSet (by omega) hI.1 hV hW hf hF hκ (fun v1 k1 => ⟨_, rfl, rfl, ?_⟩)
    exact h S v1 _ hI e_R.rf (Or.inl ⟨2, ⟨by omega, c2, fun z => absurd z (by omega)⟩, by unfold n_co; rw [if_neg (by omega), if_neg (by omega)]⟩) (fun b hb => k1 b (by omega) (by omega))
  · refine sp_X10_growAndPeel (by omega) hI.1 hV hW hf hF hκ (fun v1 R1 G1 f1 => ⟨rfl, rfl, ?_⟩)
    refine sp_X4_qubitsOf (g := n_pf ρ κ) hI.1 hV (zk_187 hI.1) (zl_187 hI.1) R1 (fun e => u_Pf_le) G1.2.2.2.2.2 ⟨_, rfl, rfl, ?_⟩
    exact h S v1 _ hI e_R.rf (Or.inl ⟨1, ⟨by omega, c1, fun z => absurd z (by omega)⟩, by unfold n_co; rw [if_neg (by omega), if_pos rfl]⟩) (fun b hb => f1 b (by omega))
  · refine sp_X10_paired (by omega) hI hB hV hW hf hF hκ (fun S1 v1 h14 i1 r1 R1 s1 t1 f1 => ⟨_, rfl, ?_⟩) (fun v1 h14 f1 => ⟨_, rfl, ?_⟩)
    · refine sg_X10_correctionOf_10 i1.1 hf ⟨fun c => absurd c (by decide), fun _ => ?_⟩
      refine sp_X5_trace (by omega) i1.1 hV hκ h14 R1 s1 (fun i hi => by rw [t1]; exact n_mt_eq h14 hi) (fun v2 k1 k2 => ⟨rfl, rfl, ?_⟩)
      have R2 : c_R ρ κ v2 := R1.fr (fun a a1 a2 => k2 a (by omega) (by omega) (by omega))
      refine sp_X4_qubitsOf (g := n_tr ρ κ (n_evs ρ κ).length) i1.1 hV (zk_166 i1.1) (zl_166 i1.1) R2 (fun e => n_tr_le _ _) k1 ⟨_, rfl, rfl, ?_⟩
      exact h S1 v2 _ i1 r1 (Or.inl ⟨0, ⟨by omega, c0, fun _ => h14⟩, by unfold n_co; rw [if_pos rfl]⟩) (fun b hb => by rw [k2 b (by omega) (by omega) (by omega)]; exact f1 b (by omega))
    · refine sg_X10_correctionOf_10 hI.1 hf ⟨fun _ => ⟨fun _ => ⟨fun _ => ?_, fun c => absurd (c0.symm.trans c) (by decide)⟩, fun c => absurd (c0.symm.trans c) (by decide)⟩, fun c => absurd rfl c⟩
      refine h S v1 _ hI e_R.rf (Or.inr ⟨fun ⟨i, i1, i2, i3⟩ => ?_, rfl⟩) (fun b hb => f1 b (by omega))
      have e : 0 = i := (nI_eq (by omega) (by omega)).mp (c0.symm.trans i2)
      exact h14 (i3 e.symm)
theorem sp_X10_resultOf (hd : 20 ≤ d) (hI : e_I B S) (hB : B.1 ≤ 999000) (hV : p_V ρ) (hW : p_Ws v) (hf : z_isF f) (hf2 : f + 9 < 149) (hF : p_F S v f ρ) (hκ : κ < 2)
    (h : ∀ S1 v1 y, e_I B S1 → e_R S S1 → a_re ρ κ x3 y → c_pw v v1 → Q (some (.int y)) S1 v1) : z_J G d mX10_resultOf (0, [.ref 0, .ref f, .int (nI κ), .int x3, .null], [], S, v) Q := by
  obtain ⟨d, rfl⟩ : ∃ e, d = e + 1 := ⟨d - 1, by omega⟩
  refine sg_X10_resultOf_0 hI.1 hf ?_
  refine sp_X10_correctionOf (by omega) hI hB hV hW hf hF hκ (fun S1 v1 y i1 r1 a1 f1 => ⟨_, rfl, ?_⟩)
  have hF1 := r1.F hf (hF.fr (v1 := v1) (fun a a1 a2 => f1 a (by omega)))
  have hW1 : p_Ws v1 := hW.fr (fun a a1 a2 => f1 a (by omega))
  have hF0 := hF1
  obtain ⟨⟨w, hw, hwd⟩, -⟩ := hF1
  refine sg_X10_resultOf_7 i1.1 hf hw (p_wdW hwd) ⟨fun c => ⟨vp_in_nI hκ (by omega), ?_⟩, fun c => h S1 v1 _ i1 r1 (Or.inr ⟨fun ⟨i, q⟩ => ?_, rfl⟩) f1⟩
  · rcases a1 with ⟨i, q1, q2⟩ | ⟨q1, q2⟩
    · rw [q2, nI_clamp (by omega), (hF0.2.2.1 κ hκ).1, nx_xor]
      refine sp_X9_logicalOf i1.1 (p_wdP hW1 hwd) hwd hκ ⟨_, rfl, rfl, ?_⟩ (by omega)
      exact h S1 v1 _ i1 r1 (Or.inl ⟨i, q1, rfl⟩) f1
    · exact absurd q2 c
  · rcases a1 with ⟨j, q1, q2⟩ | ⟨q1, q2⟩
    · exact nI_pos (n := n_co ρ κ j) (by have := n_co_l (ρ := ρ) (κ := κ) (h := j) hV hκ; omega) (by rw [← q2, c]; decide)
    · exact q1 ⟨i, q⟩
theorem sp_X10_correction (hd : 20 ≤ d) (hI : e_I B S) (hB : B.1 ≤ 999000) (hV : p_V ρ) (hW : p_Ws v) (hF : p_F S v 37 ρ)
    (h : ∀ S1 v1 y, e_I B S1 → e_R S S1 → a_kd (fun κ y => a_co ρ κ x2 y) x1 y → c_pw v v1 → Q (some (.int y)) S1 v1) : z_J G d mX10_correction (0, [.ref 0, .int x1, .int x2], [], S, v) Q := by
  obtain ⟨d, rfl⟩ : ∃ e, d = e + 1 := ⟨d - 1, by omega⟩
  refine sg_X10_correction_0 hI.1 ⟨fun c => ?_, fun c => h S v _ hI e_R.rf (Or.inr ⟨c, rfl⟩) c_pw.rf⟩
  obtain ⟨κ, hκ, rfl⟩ := k_of c
  exact sp_X10_correctionOf (by omega) hI hB hV hW zF_37 hF hκ (fun S1 v1 y i1 r1 a1 f1 => ⟨_, rfl, sg_X10_correction_19 (h S1 v1 _ i1 r1 (Or.inl ⟨κ, hκ, rfl, a1⟩) f1)⟩)
theorem sp_X10_result (hd : 21 ≤ d) (hI : e_I B S) (hB : B.1 ≤ 999000) (hV : p_V ρ) (hW : p_Ws v) (hF : p_F S v 37 ρ)
    (h : ∀ S1 v1 y, e_I B S1 → e_R S S1 → a_kd (fun κ y => a_re ρ κ x2 y) x1 y → c_pw v v1 → Q (some (.int y)) S1 v1) : z_J G d mX10_result (0, [.ref 0, .int x1, .int x2], [], S, v) Q := by
  obtain ⟨d, rfl⟩ : ∃ e, d = e + 1 := ⟨d - 1, by omega⟩
  refine sg_X10_result_0 hI.1 ⟨fun c => ?_, fun c => h S v _ hI e_R.rf (Or.inr ⟨c, rfl⟩) c_pw.rf⟩
  obtain ⟨κ, hκ, rfl⟩ := k_of c
  exact sp_X10_resultOf (by omega) hI hB hV hW zF_37 (by omega) hF hκ (fun S1 v1 y i1 r1 a1 f1 => ⟨_, rfl, sg_X10_result_19 (h S1 v1 _ i1 r1 (Or.inl ⟨κ, hκ, rfl, a1⟩) f1)⟩)
theorem sp_X10_isRound (hL : z_L S) (h1 : v 37 1 = nI (ρ 1)) (h8 : ρ 1 ≤ 8) (h : (∃ t, t < ρ 1 ∧ x1 = nI t) → Q (some (.int 1)) S v) (h0 : (¬ ∃ t, t < ρ 1 ∧ x1 = nI t) → Q (some (.int 0)) S v) : z_J G d mX10_isRound (0, [.ref 0, .int x1], [], S, v) Q := by
  refine sg_X10_isRound_0 hL ?_
  rw [h1]
  refine ⟨fun c => h0 (fun ⟨t, t1, t2⟩ => nI_pos (n := t) (by omega) (by rw [← t2]; exact c)), fun c => ?_⟩
  obtain ⟨t, ht, rfl⟩ := nI_of c
  refine ⟨fun c2 => h0 (fun ⟨t', t1, t2⟩ => ?_), fun c2 => h ⟨t, ?_, rfl⟩⟩
  · have e := (nI_eq ht (by omega)).mp t2
    exact absurd c2 (nI_ge (by omega) (by omega))
  · exact Nat.not_le.mp (fun z => c2 (nI_le z (by omega)))
theorem sp_X10_blame (hd : 20 ≤ d) (hI : e_I B S) (hB : B.1 ≤ 999000) (hV : p_V ρ) (hW : p_Ws v) (hF : p_F S v 37 ρ)
    (h : ∀ S1 v1 y, e_I B S1 → e_R S S1 → a_kd (fun κ y => a_bl ρ κ x2 x3 y) x1 y → c_pw v v1 → Q (some (.int y)) S1 v1) : z_J G d mX10_blame (0, [.ref 0, .int x1, .int x2, .int x3], [], S, v) Q := by
  obtain ⟨d, rfl⟩ : ∃ e, d = e + 1 := ⟨d - 1, by omega⟩
  refine sg_X10_blame_0 hI.1 ⟨fun c => ?_, fun c => h S v _ hI e_R.rf (Or.inr ⟨c, rfl⟩) c_pw.rf⟩
  obtain ⟨κ, hκ, rfl⟩ := k_of c
  refine sp_X10_isRound (ρ := ρ) hI.1 hF.2.1 hV.2.1 (fun ⟨t, ht, e⟩ => ⟨_, rfl, rfl, fun _ => ?_, fun c => absurd c (by decide)⟩) (fun hn => ⟨_, rfl, rfl, fun c => absurd rfl c, fun _ => h S v _ hI e_R.rf (Or.inl ⟨κ, hκ, rfl, Or.inr ⟨fun ⟨i, t, q⟩ => hn ⟨t, q.2.2⟩, rfl⟩⟩) c_pw.rf⟩)
  subst e
  refine ⟨fun c0 => ⟨fun c1 => h S v _ hI e_R.rf (Or.inl ⟨κ, hκ, rfl, Or.inr ⟨fun ⟨i, t', q⟩ => ?_, rfl⟩⟩) c_pw.rf, fun c1 => ?_⟩, fun c0 => ?_⟩
  · rcases (show i = 0 ∨ i = 1 by have := q.1; omega) with rfl | rfl
    · exact c0 q.2.1.2.1
    · exact c1 q.2.1.2.1
  · refine sp_X10_growAndPeel (by omega) hI.1 hV hW zF_37 hF hκ (fun v1 R1 G1 f1 => ⟨rfl, rfl, ?_⟩)
    refine sp_X4_risesOf (g := n_pf ρ κ) hI.1 hV (zk_187 hI.1) (zl_187 hI.1) R1 (fun e => u_Pf_le) G1.2.2.2.2.2 ht ⟨_, rfl, rfl, ?_⟩
    exact h S v1 _ hI e_R.rf (Or.inl ⟨κ, hκ, rfl, Or.inl ⟨1, t, ⟨by omega, ⟨by omega, c1, fun z => absurd z (by omega)⟩, ht, rfl⟩, by unfold n_ge; rw [if_neg (by omega)]⟩⟩) (fun b hb => f1 b (by omega))
  · refine sp_X10_paired (by omega) hI hB hV hW zF_37 hF hκ (fun S1 v1 h14 i1 r1 R1 s1 t1 f1 => ⟨_, rfl, ?_⟩) (fun v1 h14 f1 => ⟨_, rfl, ?_⟩)
    · refine sg_X10_blame_30 i1.1 ⟨fun c => absurd c (by decide), fun _ => ?_⟩
      refine sp_X5_trace (by omega) i1.1 hV hκ h14 R1 s1 (fun i hi => by rw [t1]; exact n_mt_eq h14 hi) (fun v2 k1 k2 => ⟨rfl, rfl, ?_⟩)
      have R2 : c_R ρ κ v2 := R1.fr (fun a a1 a2 => k2 a (by omega) (by omega) (by omega))
      refine sp_X4_risesOf (g := n_tr ρ κ (n_evs ρ κ).length) i1.1 hV (zk_166 i1.1) (zl_166 i1.1) R2 (fun e => n_tr_le _ _) k1 ht ⟨_, rfl, rfl, ?_⟩
      exact h S1 v2 _ i1 r1 (Or.inl ⟨κ, hκ, rfl, Or.inl ⟨0, t, ⟨by omega, ⟨by omega, c0, fun _ => h14⟩, ht, rfl⟩, by unfold n_ge; rw [if_pos rfl]⟩⟩) (fun b hb => by rw [k2 b (by omega) (by omega) (by omega)]; exact f1 b (by omega))
    · refine sg_X10_blame_30 hI.1 ⟨fun _ => ⟨fun _ => ?_, fun c => absurd (c0.symm.trans c) (by decide)⟩, fun c => absurd rfl c⟩
      refine h S v1 _ hI e_R.rf (Or.inl ⟨κ, hκ, rfl, Or.inr ⟨fun ⟨i, t', q⟩ => ?_, rfl⟩⟩) (fun b hb => f1 b (by omega))
      have e : 0 = i := (nI_eq (by omega) (by have := q.1; omega)).mp (c0.symm.trans q.2.1.2.1)
      exact h14 (q.2.1.2.2 e.symm)
theorem sp_X11_corrects (hd : 9 ≤ d) (hL : z_L S) (hV : p_V ρ) (hM : p_M v ρ) (hT : p_MT v (ρ 0))
    (h1 : ∀ v1 κ i, κ < 2 → x1 = nI κ → a_how ρ κ x2 i → v1 223 62 = nI (n_co ρ κ i) → m_pk v v1 → Q (some (.int 1)) S v1)
    (h0 : ∀ v1, (¬ ∃ κ i, κ < 2 ∧ x1 = nI κ ∧ a_how ρ κ x2 i) → m_pk v v1 → Q (some (.int 0)) S v1) : z_J G d mX11_corrects (0, [.ref 223, .int x1, .int x2], [], S, v) Q := by
  obtain ⟨d, rfl⟩ : ∃ e, d = e + 1 := ⟨d - 1, by omega⟩
  refine sg_X11_corrects_0 hL ⟨fun c => ?_, fun c => h0 v (fun ⟨κ, i, q1, q2, _⟩ => c (k_to q1 q2)) m_pk.rf⟩
  obtain ⟨κ, hκ, rfl⟩ := k_of c
  have hs := ((hV.2.2.1 κ hκ)).1
  have hu : ∀ v1 : z_Dat, ∀ x : Int32, m_pk v1 (z_u v1 223 62 x) := fun v1 x => ⟨fun b hb => by rw [z_u_ne (by omega)], fun j hj => by unfold m_pf at hj; rw [z_un (by omega)]⟩
  rw [show (2 : Int32) = nI 3 - 1 by decide, ix_le (by omega), show nI 3 - 1 = (2 : Int32) by decide]
  refine ⟨fun ⟨i, hi, e⟩ => ?_, fun c2 => h0 v (fun ⟨κ', i, _, _, q⟩ => c2 ⟨i, q.1, q.2.1⟩) m_pk.rf⟩
  subst e
  rcases (show i = 0 ∨ i = 1 ∨ i = 2 by omega) with rfl | rfl | rfl
  · refine ⟨fun _ => ?_, fun c => absurd c (by decide)⟩
    refine sp_X11_lays0 (by omega) hL hV hM hT hκ (fun v1 h14 k1 k2 f1 => ⟨_, rfl, rfl, fun _ => ?_, fun c => absurd c (by decide)⟩) (fun v1 h14 f1 => ⟨_, rfl, rfl, fun c => absurd rfl c, fun _ => h0 v1 (fun ⟨κ', i, q1, q2, q⟩ => h14 ?_) f1⟩)
    · refine sp_X11_gone1 (by omega) hL hV (f1.M hM 0 (by omega)) (f1.T hT).1 k2 (fun e => n_tr_le _ _) k1 ⟨_, rfl, rfl, fun v2 e2 => ?_⟩
      refine h1 v2 κ 0 hκ rfl ⟨by omega, rfl, fun _ => h14⟩ ?_ (f1.tr (by rw [e2]; exact hu _ _))
      rw [e2, z_ue rfl rfl]; unfold n_co; rw [if_pos rfl]
    · have e : κ = κ' := (nI_eq (by omega) (by omega)).mp q2
      have e' : 0 = i := (nI_eq (by omega) (by have := q.1; omega)).mp q.2.1
      rw [e]; exact q.2.2 e'.symm
  · refine ⟨fun _ => ?_, fun c => absurd c (by decide)⟩
    refine sp_X11_lays1 (by omega) hL hV hM hT hκ (fun v1 k1 k2 f1 => ⟨_, rfl, rfl, fun _ => ?_, fun c => absurd c (by decide)⟩)
    refine sp_X11_gone1 (g := n_pf ρ κ) (by omega) hL hV (f1.M hM 0 (by omega)) (f1.T hT).1 k2 (fun e => u_Pf_le) k1 ⟨_, rfl, rfl, fun v2 e2 => ?_⟩
    refine h1 v2 κ 1 hκ rfl ⟨by omega, rfl, fun z => absurd z (by omega)⟩ ?_ (f1.tr (by rw [e2]; exact hu _ _))
    rw [e2, z_ue rfl rfl]; unfold n_co; rw [if_neg (by omega), if_pos rfl]
  · refine ⟨fun c => absurd rfl c, fun _ => ?_⟩
    rw [nI_2, nI_clamp (by omega), hM (2 + κ) (by omega)]
    refine ⟨vp_in_nI (by omega) (by omega), sp_X11_likes (wc := 1) (by omega) hL hV hM hT hκ hs (by omega) (fun v2 k1 k2 k3 k4 => ⟨rfl, rfl, fun v3 e3 => ?_⟩)⟩
    refine h1 v3 κ 2 hκ rfl ⟨by omega, rfl, fun z => absurd z (by omega)⟩ ?_ (k4.pk.tr (by rw [e3]; exact hu _ _))
    rw [e3, z_ue rfl rfl, k2, y_lt_m hV.1]; unfold n_co; rw [if_neg (by omega), if_neg (by omega)]
theorem sp_X11_correction (hd : 10 ≤ d) (hL : z_L S) (hV : p_V ρ) (hM : p_M v ρ) (hT : p_MT v (ρ 0))
    (h : ∀ v1 y, m_pk v v1 → a_kd (fun κ y => a_co ρ κ x2 y) x1 y → Q (some (.int y)) S v1) : z_J G d mX11_correction (0, [.ref 223, .int x1, .int x2], [], S, v) Q := by
  obtain ⟨d, rfl⟩ : ∃ e, d = e + 1 := ⟨d - 1, by omega⟩
  refine sg_X11_correction_0 hL (fun v1 e1 => ?_)
  have f1 : m_f6 v v1 := by rw [e1]; exact m_f6.u0
  refine sp_X11_corrects (by omega) hL hV (f1.M hM) (f1.T hT) (fun v2 κ i k1 k2 k3 k4 f2 => ⟨_, rfl, rfl, fun c => absurd c (by decide), fun _ => ?_⟩) (fun v2 hn f2 => ⟨_, rfl, rfl, fun _ => ?_, fun c => absurd rfl c⟩)
  · rw [k4]; exact h v2 _ (f1.pk.tr f2) (Or.inl ⟨κ, k1, k2, Or.inl ⟨i, k3, rfl⟩⟩)
  · refine h v2 _ (f1.pk.tr f2) ?_
    by_cases c : x1 = 0 ∨ x1 = 1
    · obtain ⟨κ, hκ, e⟩ := k_of c
      exact Or.inl ⟨κ, hκ, e, Or.inr ⟨fun ⟨i, q⟩ => hn ⟨κ, i, hκ, e, q⟩, rfl⟩⟩
    · exact Or.inr ⟨c, rfl⟩
theorem sp_X11_result (hd : 10 ≤ d) (hL : z_L S) (hV : p_V ρ) (hM : p_M v ρ) (hT : p_MT v (ρ 0))
    (h : ∀ v1 y, m_pk v v1 → a_kd (fun κ y => a_re ρ κ x2 y) x1 y → Q (some (.int y)) S v1) : z_J G d mX11_result (0, [.ref 223, .int x1, .int x2], [], S, v) Q := by
  obtain ⟨d, rfl⟩ : ∃ e, d = e + 1 := ⟨d - 1, by omega⟩
  refine sg_X11_result_0 hL (fun v1 e1 => ?_)
  have f1 : m_f6 v v1 := by rw [e1]; exact m_f6.u0
  refine sp_X11_corrects (by omega) hL hV (f1.M hM) (f1.T hT) (fun v2 κ i k1 k2 k3 k4 f2 => ⟨_, rfl, rfl, fun c => absurd c (by decide), fun _ => ?_⟩) (fun v2 hn f2 => ⟨_, rfl, rfl, fun _ => ?_, fun c => absurd rfl c⟩)
  · have hM2 := f2.M (f1.M hM)
    subst k2
    rw [k4, nI_2, nI_clamp (by omega), hM2 (2 + κ) (by omega), nx_xor]
    refine ⟨vp_in_nI (by omega) (by omega), sp_X11_logical (by omega) hL (hM2 0 (by omega)) hV.1 k1 ⟨_, rfl, rfl, ?_⟩⟩
    exact h v2 _ (f1.pk.tr f2) (Or.inl ⟨κ, k1, rfl, Or.inl ⟨i, k3, rfl⟩⟩)
  · refine h v2 _ (f1.pk.tr f2) ?_
    by_cases c : x1 = 0 ∨ x1 = 1
    · obtain ⟨κ, hκ, e⟩ := k_of c
      exact Or.inl ⟨κ, hκ, e, Or.inr ⟨fun ⟨i, q⟩ => hn ⟨κ, i, hκ, e, q⟩, rfl⟩⟩
    · exact Or.inr ⟨c, rfl⟩
theorem sp_X11_blame (hd : 9 ≤ d) (hL : z_L S) (hV : p_V ρ) (hM : p_M v ρ) (hT : p_MT v (ρ 0))
    (h : ∀ v1 y, m_pk v v1 → a_kd (fun κ y => a_bl ρ κ x2 x3 y) x1 y → Q (some (.int y)) S v1) : z_J G d mX11_blame (0, [.ref 223, .int x1, .int x2, .int x3], [], S, v) Q := by
  obtain ⟨d, rfl⟩ : ∃ e, d = e + 1 := ⟨d - 1, by omega⟩
  refine sg_X11_blame_0 hL (fun v1 e1 => ?_)
  have f1 : m_f6 v v1 := by rw [e1]; exact m_f6.u0
  have hM1 := f1.M hM
  have hT1 := f1.T hT
  have h8 := hV.2.1
  refine ⟨fun c => ?_, fun c => h v1 _ f1.pk (Or.inr ⟨c, rfl⟩)⟩
  obtain ⟨κ, hκ, rfl⟩ := k_of c
  have no : ∀ v2, m_pk v v2 → (¬ ∃ i t, a_ho2 ρ κ x2 x3 i t) → Q (some (.int (-1))) S v2 := fun v2 hp hn => h v2 _ hp (Or.inl ⟨κ, hκ, rfl, Or.inr ⟨hn, rfl⟩⟩)
  rw [hM1 1 (by omega), ix_le (n := ρ 1) (by omega), show (0 ≤ x2 ∧ x2 ≤ 1) ↔ ∃ i, i < 2 ∧ x2 = nI i from ix_le (n := 2) (by omega)]
  refine ⟨fun ⟨i, hi, e2⟩ => ⟨fun ⟨t, ht, e3⟩ => ?_, fun c3 => no v1 f1.pk (fun ⟨i, t, q⟩ => c3 ⟨t, q.2.2⟩)⟩, fun c2 => no v1 f1.pk (fun ⟨i, t, q⟩ => c2 ⟨i, q.1, q.2.1.2.1⟩)⟩
  subst e2 e3
  rcases (show i = 0 ∨ i = 1 by omega) with rfl | rfl
  · refine sp_X11_lays0 (by omega) hL hV hM1 hT1 hκ (fun v2 h14 k1 k2 f2 => ⟨_, rfl, rfl, fun _ => ?_, fun c => absurd c (by decide)⟩) (fun v2 h14 f2 => ⟨_, rfl, rfl, fun c => absurd rfl c, fun _ => no v2 (f1.pk.tr f2) (fun ⟨i, t, q⟩ => h14 ?_)⟩)
    · refine sp_X11_gone0 (by omega) hL hV (f2.M hM1 0 (by omega)) (f2.T hT1).1 k2 (fun e => n_tr_le _ _) k1 (by omega) ⟨_, rfl, rfl, ?_⟩
      exact h v2 _ (f1.pk.tr f2) (Or.inl ⟨κ, hκ, rfl, Or.inl ⟨0, t, ⟨by omega, ⟨by omega, rfl, fun _ => h14⟩, ht, rfl⟩, by unfold n_ge; rw [if_pos rfl]⟩⟩)
    · have e' : 0 = i := (nI_eq (by omega) (by have := q.1; omega)).mp q.2.1.2.1
      exact q.2.1.2.2 e'.symm
  · refine sp_X11_lays1 (by omega) hL hV hM1 hT1 hκ (fun v2 k1 k2 f2 => ⟨_, rfl, rfl, fun _ => ?_, fun c => absurd c (by decide)⟩)
    refine sp_X11_gone0 (g := n_pf ρ κ) (by omega) hL hV (f2.M hM1 0 (by omega)) (f2.T hT1).1 k2 (fun e => u_Pf_le) k1 (by omega) ⟨_, rfl, rfl, ?_⟩
    exact h v2 _ (f1.pk.tr f2) (Or.inl ⟨κ, hκ, rfl, Or.inl ⟨1, t, ⟨by omega, ⟨by omega, rfl, fun z => absurd z (by omega)⟩, ht, rfl⟩, by unfold n_ge; rw [if_neg (by omega)]⟩⟩)
end CO
