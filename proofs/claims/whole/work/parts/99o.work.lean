/-! work of both sides -/
def wk_r (τ : Nat → Nat) (L : Nat) (ρ : Nat → Nat) : pz_f ⊕ pz_U := if L ≤ 200 then pz_all τ L (ρ 0) else .inl (1, 200)
def wk_g (ρ : Nat → Nat) (U : pz_U) : d_S := xz_go U.2.2.2.2.1 U.2.2.2.2.2 30 0 U.2.1 (ρ, 0, 0)
def wk_y (ρ : Nat → Nat) : pz_f ⊕ pz_U → Int32
  | .inl e => -1000 - nI e.2
  | .inr U => nI (wk_g ρ U).2.2
def wk_f : pz_f ⊕ pz_U → Nat
  | .inl e => e.1
  | .inr _ => 0
def wk_P (ρ : Nat → Nat) : pz_f ⊕ pz_U → k_P
  | .inl _ => none
  | .inr U => some (0, (wk_g ρ U).1)
theorem wk_ok {τ : Nat → Nat} {L : Nat} {ρ : Nat → Nat} {U : pz_U} (hI : pz_I L (ρ 0) U) (hk : U.2.2.1 = 0) (hV : p_V ρ) : p_V (wk_g ρ U).1 ∧ (wk_g ρ U).1 0 = ρ 0 :=
  xz_go_V (m := U.2.1) (D := ρ 0) hI.2.2.2.1 30 2 0 U.2.1 (ρ, 0, 0) (Nat.le_refl _) (hI.2.2.2.2.2.1 hk) hV rfl
def wk_ck (v v1 : z_Dat) : Prop := ∀ b, b < 37 ∨ (57 ≤ b ∧ b < 59) ∨ 149 ≤ b → v1 b = v b
def wk_mk (v v1 : z_Dat) : Prop := (∀ b, b < 223 ∨ b = 225 ∨ (227 ≤ b ∧ b ≤ 233) ∨ 238 ≤ b → v1 b = v b) ∧ ∀ j, j = 7 ∨ (10 ≤ j ∧ j ≤ 16) ∨ 24 ≤ j → v1 223 j = v 223 j
section WO
variable {G : z_G} {d : Nat} {S : z_Shp} {v : z_Dat} {Q : Option Value → z_Shp → z_Dat → Prop} {ρ τ : Nat → Nat} {L n : Nat} {r : Nat → Nat → Nat} {B : Nat × Nat × Nat}
theorem sp_X10_work (hd : 10 ≤ d) (hI : e_I B S) (hV : p_V ρ) (hW : p_Ws v) (hF : p_F S v 37 ρ) (hH : c_H S v n r) (hτ : ∀ i, τ i < 256) (hT : c_Tp v τ L)
    (h : ∀ S1 v1, p_F S1 v1 37 (k_ρ (wk_P ρ (wk_r τ L ρ)) ρ) → c_H S1 v1 (k_n (wk_P ρ (wk_r τ L ρ)) n) (k_r (wk_P ρ (wk_r τ L ρ)) ρ r) → p_V (k_ρ (wk_P ρ (wk_r τ L ρ)) ρ) → k_ρ (wk_P ρ (wk_r τ L ρ)) ρ 0 = ρ 0 → e_T B 37 140 S S1 → v1 141 0 = nI 0 → v1 141 1 = nI (wk_f (wk_r τ L ρ)) → wk_ck v v1 → Q (some (.int (wk_y ρ (wk_r τ L ρ)))) S1 v1) : z_J G d mX10_work (0, [.ref 0, .null], [], S, v) Q := by
  obtain ⟨d, rfl⟩ : ∃ e, d = e + 1 := ⟨d - 1, by omega⟩
  have hF0 := hF
  obtain ⟨⟨w, hw, hwd⟩, -⟩ := hF
  have hwp := p_wdP hW hwd
  have hw141 : w ≠ 141 ∧ 1 ≤ w ∧ w ≤ 36 := by rcases hwd with ⟨z, -⟩ | ⟨z, -⟩ <;> omega
  refine sg_X10_work_0 hI.1 hw (p_wdW hwd) ?_
  refine sp_X6_isRight (τ := τ) (L := L) (D := ρ 0) (by omega) hI.1 (p_wdW hwd) hV.1 hτ hT hwp.1 hwp.2.2.1 hw141.1 (fun v1 U1 l2 k1 k2 k3 k4 k5 k6 k7 => ⟨_, rfl, rfl, fun v2 e2 => ⟨fun _ => ?_, fun z => absurd z (by decide)⟩⟩) (fun v1 e k1 k2 k3 k4 => ⟨_, rfl, rfl, fun v2 e2 => ⟨fun z => absurd rfl z, fun _ => ?_⟩⟩)
  · have er : wk_r τ L ρ = .inr U1 := by unfold wk_r; rw [if_pos l2]; exact k1
    rw [er] at h
    have F2 : ∀ b, b ≠ 141 → b < 143 ∨ 148 < b → v2 b = v b := fun b b1 b2 => by rw [e2, z_u_ne b1]; exact k7 b b1 b2
    refine sp_X2_keep (by omega) hI (hF0.fr (fun a a1 a2 => F2 a (by omega) (by omega))) (hH.fr (e_T.rf (lo := 200) (hi := 200) hI) (by omega) (fun a a1 a2 => F2 a (by omega) (by omega))) (fun S3 v3 H3 T3 f3 => ⟨rfl, ?_⟩)
    refine sg_X10_work_50 T3.1.1 ?_
    have F3 : p_F S3 v3 37 ρ := T3.F zF_37 (by omega) (hF0.fr (fun a a1 a2 => by rw [f3 a (by omega)]; exact F2 a (by omega) (by omega)))
    have g : ∀ b, 141 ≤ b → b ≤ 148 → v3 b = v2 b := fun b b1 b2 => f3 b (by omega)
    have rows : xz_c v3 U1.2.1 U1.2.2.2.2.1 U1.2.2.2.2.2 := by
      intro i hi
      have q := k4.2.2.2.1 i hi
      unfold cz_r c_sp at q
      unfold c_sp
      rw [g 143 (by omega) (by omega), g 144 (by omega) (by omega), g 145 (by omega) (by omega), g 146 (by omega) (by omega), g 147 (by omega) (by omega), e2, z_u_ne (by omega), z_u_ne (by omega), z_u_ne (by omega), z_u_ne (by omega), z_u_ne (by omega)]
      exact ⟨q.1, fun z => ⟨(q.2 z).1, (q.2 z).2, k4.2.2.2.2 i hi z (fun t ht => absurd ht (by rw [k3]; omega))⟩⟩
    refine sp_X6_doneOn (σ := U1.2.2.2.2.1) (β := U1.2.2.2.2.2) (m := U1.2.1) (ρ := ρ) (by omega) T3.1.1 k2.2.1 k2.2.2.2.1 (k2.2.2.2.2.2.1 k3) rows (by rw [g 141 (by omega) (by omega), e2, z_un (by omega)]; exact k4.1) (hW.fr (fun a a1 a2 => by rw [f3 a (by omega)]; exact F2 a (by omega) (by omega))) F3 (by rw [g 141 (by omega) (by omega), e2, z_un (by omega)]; exact k5) hV (fun v4 F4 f4 => ⟨_, rfl, rfl, ?_⟩)
    obtain ⟨V4, s4⟩ := wk_ok (τ := τ) (L := L) k2 k3 hV
    refine h S3 v4 F4 (H3.fr (e_T.rf (lo := 200) (hi := 200) T3.1) (by omega) (fun a a1 a2 => f4.1 a (by omega) (by omega))) V4 s4 (T3.wd (by omega) (by omega)) ?_ ?_ (fun b hb => ?_)
    · rw [f4.2 0 (by omega) (by omega), g 141 (by omega) (by omega), e2, z_ue rfl rfl]; rfl
    · rw [f4.2 1 (by omega) (by omega), g 141 (by omega) (by omega), e2, z_un (by omega)]; exact k6
    · rw [f4.1 b (by omega) (by omega), f3 b (by omega)]; exact F2 b (by omega) (by omega)
  · have er : wk_r τ L ρ = .inl e := by
      unfold wk_r
      rcases k1 with ⟨q1, q2⟩ | ⟨q1, q2⟩
      · rw [if_pos q1]; exact q2
      · rw [if_neg (by omega), q2]
    rw [er] at h
    have F2 : ∀ b, b ≠ 141 → b < 143 ∨ 148 < b → v2 b = v b := fun b b1 b2 => by rw [e2, z_u_ne b1]; exact k4 b b1 b2
    have e22 : v2 141 2 = nI e.2 := by rw [e2, z_un (by omega)]; exact k3
    rw [e22]
    exact h S v2 (hF0.fr (fun a a1 a2 => F2 a (by omega) (by omega))) (hH.fr (e_T.rf (lo := 200) (hi := 200) hI) (by omega) (fun a a1 a2 => F2 a (by omega) (by omega))) hV rfl (e_T.rf hI) (by rw [e2, z_ue rfl rfl]; rfl) (by rw [e2, z_un (by omega)]; exact k2) (fun b hb => F2 b (by omega) (by omega))
theorem sp_X11_work (hd : 5 ≤ d) (hL : z_L S) (hV : p_V ρ) (hM : p_M v ρ) (hMT : p_MT v (ρ 0)) (hH : m_H v n r) (hτ : ∀ i, τ i < 256) (hT : m_Tp v τ L)
    (h : ∀ v1, p_M v1 (k_ρ (wk_P ρ (wk_r τ L ρ)) ρ) → m_H v1 (k_n (wk_P ρ (wk_r τ L ρ)) n) (k_r (wk_P ρ (wk_r τ L ρ)) ρ r) → v1 223 8 = nI 0 → v1 223 20 = nI (wk_f (wk_r τ L ρ)) → wk_mk v v1 → Q (some (.int (wk_y ρ (wk_r τ L ρ)))) S v1) : z_J G d mX11_work (0, [.ref 223], [], S, v) Q := by
  obtain ⟨d, rfl⟩ : ∃ e, d = e + 1 := ⟨d - 1, by omega⟩
  have hl := hT.2.1
  refine sg_X11_work_0 hL (fun v1 e1 v2 e2 v3 e3 v4 e4 => ?_)
  rw [show v1 223 8 = nI L by rw [e1, z_un (by omega)]; exact hT.1] at e2
  have F4 : ∀ b, b ≠ 223 → v4 b = v b := fun b hb => by rw [e4, z_u_ne hb, e3, z_u_ne hb, e2, z_u_ne hb, e1, z_u_ne hb]
  have R4 : ∀ j, j ≠ 0 → j ≠ 8 → j ≠ 9 → j ≠ 20 → v4 223 j = v 223 j := fun j j1 j2 j3 j4 => by rw [e4, z_un (Or.inr j4), e3, z_un (Or.inr j2), e2, z_un (Or.inr j3), e1, z_un (Or.inr j1)]
  have r9 : v4 223 9 = nI L := by rw [e4, z_un (by omega), e3, z_un (by omega), e2, z_ue rfl rfl]
  have r8 : v4 223 8 = nI 0 := by rw [e4, z_un (by omega), e3, z_ue rfl rfl]; rfl
  have r20 : v4 223 20 = nI 0 := by rw [e4, z_ue rfl rfl]; rfl
  have T4 : m_Ts2 v4 τ L := ⟨r9, hl, hτ, fun i hi => by rw [F4 229 (by omega)]; exact hT.2.2 i hi⟩
  rw [r9]
  refine ⟨fun z => ?_, fun z => ?_⟩
  · have z : L ≤ 200 := (nI_leI (b := 200) (by omega) (by omega)).mp z
    refine sp_X11_reads (τ := τ) (L := L) (D := ρ 0) (by omega) hL hV.1 T4 (by rw [F4 224 (by omega)]; exact hM 0 (by omega)) (by rw [R4 14 (by omega) (by omega) (by omega) (by omega)]; exact hMT.1) (fun v5 U1 k1 k2 k3 k4 k5 k6 => ⟨_, rfl, rfl, fun _ => ?_, fun z => absurd z (by decide)⟩) (fun v5 e k1 k2 k3 k4 => ⟨_, rfl, rfl, fun z => absurd rfl z, fun _ => ?_⟩)
    · have er : wk_r τ L ρ = .inr U1 := by unfold wk_r; rw [if_pos z]; exact k1
      rw [er] at h
      have M5 : p_M v5 ρ := hM.fr (by rw [k5.1 224 (by omega) (by omega) (by omega), F4 224 (by omega)])
      have H5 : m_H v5 n r := hH.fr (by rw [k5.2 6 (by omega) (by omega) (by omega) (by omega) (by omega) (by omega), R4 6 (by omega) (by omega) (by omega) (by omega)]) (by rw [k5.1 226 (by omega) (by omega) (by omega), F4 226 (by omega)])
      refine sp_X11_keeps (by omega) hL M5 H5 (fun v6 H6 f6 g6 => ⟨rfl, rfl, ?_⟩)
      have rows : xz_m v6 U1.2.1 U1.2.2.2.2.1 U1.2.2.2.2.2 := by
        intro i hi
        have q := k4.2.2.2.1 i hi
        unfold pz_mr m_sp at q
        unfold m_sp
        rw [f6 234 (by omega) (by omega)]
        exact ⟨q.1, fun z => ⟨(q.2 z).1, (q.2 z).2, k4.2.2.2.2 i hi z (fun t ht => absurd ht (by rw [k3]; omega))⟩⟩
      have T6 : p_MT v6 (ρ 0) := hMT.fr (by rw [g6 14 (by omega), k5.2 14 (by omega) (by omega) (by omega) (by omega) (by omega) (by omega), R4 14 (by omega) (by omega) (by omega) (by omega)]) (fun a a1 a2 => by rw [f6 a (by omega) (by omega), k5.1 a (by omega) (by omega) (by omega), F4 a (by omega)])
      refine sp_X11_doesAll (σ := U1.2.2.2.2.1) (β := U1.2.2.2.2.2) (m := U1.2.1) (ρ := ρ) (by omega) hL k2.2.1 k2.2.2.2.1 (k2.2.2.2.2.2.1 k3) rows (by rw [g6 17 (by omega)]; exact k4.1) T6 (M5.fr (f6 224 (by omega) (by omega))) hV (fun v7 M7 f7 => ⟨_, rfl, rfl, ?_⟩)
      have e223 : v7 223 = v6 223 := f7.1 223 (by omega) (by omega) (by omega)
      refine h v7 M7 (H6.fr (by rw [e223]) (f7.1 226 (by omega) (by omega) (by omega))) ?_ ?_ ⟨fun b hb => ?_, fun j hj => ?_⟩
      · rw [e223, g6 8 (by omega), k5.2 8 (by omega) (by omega) (by omega) (by omega) (by omega) (by omega)]; exact r8
      · rw [e223, g6 20 (by omega), k6]; exact r20
      · rw [f7.1 b (by omega) (by omega) (by omega), f6 b (by omega) (by omega), k5.1 b (by omega) (by omega) (by omega), F4 b (by omega)]
      · rw [e223, g6 j (by omega), k5.2 j (by omega) (by omega) (by omega) (by omega) (by omega) (by omega), R4 j (by omega) (by omega) (by omega) (by omega)]
    · have er : wk_r τ L ρ = .inl e := by unfold wk_r; rw [if_pos z]; exact k1
      rw [er] at h
      rw [k3]
      refine h v5 (hM.fr (by rw [k4.1 224 (by omega) (by omega) (by omega), F4 224 (by omega)])) (hH.fr (by rw [k4.2 6 (by omega) (by omega) (by omega) (by omega) (by omega) (by omega), R4 6 (by omega) (by omega) (by omega) (by omega)]) (by rw [k4.1 226 (by omega) (by omega) (by omega), F4 226 (by omega)])) ?_ k2 ⟨fun b hb => ?_, fun j hj => ?_⟩
      · rw [k4.2 8 (by omega) (by omega) (by omega) (by omega) (by omega) (by omega)]; exact r8
      · rw [k4.1 b (by omega) (by omega) (by omega), F4 b (by omega)]
      · rw [k4.2 j (by omega) (by omega) (by omega) (by omega) (by omega) (by omega), R4 j (by omega) (by omega) (by omega) (by omega)]
  · have z : ¬ L ≤ 200 := fun y => z (nI_le (b := 200) y (by omega))
    have er : wk_r τ L ρ = .inl (1, 200) := by unfold wk_r; rw [if_neg z]
    rw [er] at h
    refine sg_X11_bad_0 hL (fun v5 e5 v6 e6 => ⟨_, rfl, rfl, ?_⟩)
    have F6 : ∀ b, b ≠ 223 → v6 b = v b := fun b hb => by rw [e6, z_u_ne hb, e5, z_u_ne hb]; exact F4 b hb
    refine h v6 (hM.fr (F6 224 (by omega))) (hH.fr (by rw [e6, z_un (by omega), e5, z_un (by omega), R4 6 (by omega) (by omega) (by omega) (by omega)]) (F6 226 (by omega))) ?_ ?_ ⟨fun b hb => F6 b (by omega), fun j hj => ?_⟩
    · rw [e6, z_un (by omega), e5, z_un (by omega)]; exact r8
    · rw [e6, z_un (by omega), e5, z_ue rfl rfl]; rfl
    · rw [e6, z_un (by omega), e5, z_un (by omega), R4 j (by omega) (by omega) (by omega) (by omega)]
end WO
