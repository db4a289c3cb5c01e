/-! keeps, undo of both sides -/
/-- one answer, or the other where nothing fits -/
def a_o {ι α : Type} (C : ι → Prop) (F : ι → α) (D : α) (P : α) : Prop := (∃ i, C i ∧ P = F i) ∨ ((¬ ∃ i, C i) ∧ P = D)
theorem a_o_u {ι α : Type} {C : ι → Prop} {F : ι → α} {D P P' : α} (hC : ∀ i j, C i → C j → i = j) (h : a_o C F D P) (h' : a_o C F D P') : P = P' := by
  rcases h with ⟨i, h1, h2⟩ | ⟨h1, h2⟩ <;> rcases h' with ⟨j, g1, g2⟩ | ⟨g1, g2⟩
  · rw [h2, g2, hC i j h1 g1]
  · exact absurd ⟨i, h1⟩ g1
  · exact absurd ⟨j, g1⟩ h1
  · rw [h2, g2]
/-- what a call that keeps comes to: its answer and the new row; none: -1, and all stays -/
abbrev k_P : Type := Option (Int32 × (Nat → Nat))
def k_y : k_P → Int32
  | some a => a.1
  | none => -1
def k_ρ (P : k_P) (ρ : Nat → Nat) : Nat → Nat := match P with
  | some a => a.2
  | none => ρ
def k_n (P : k_P) (n : Nat) : Nat := match P with
  | some _ => h_n n
  | none => n
def k_r (P : k_P) (ρ : Nat → Nat) (r : Nat → Nat → Nat) : Nat → Nat → Nat := match P with
  | some _ => h_ad ρ r
  | none => r
/-- what stays over a call that keeps -/
def c_hk (v v1 : z_Dat) : Prop := ∀ b, b < 37 ∨ (57 ≤ b ∧ b < 59) ∨ (141 ≤ b ∧ b < 149) ∨ (198 ≤ b ∧ b < 262) → v1 b = v b
def m_hf (j : Nat) : Prop := j = 8 ∨ j = 14 ∨ j = 20 ∨ j = 42 ∨ j = 56 ∨ j = 65
def m_hk (v v1 : z_Dat) : Prop := (∀ b, b < 223 ∨ b = 225 ∨ (228 ≤ b ∧ b ≤ 233) ∨ b = 248 ∨ b = 256 ∨ b = 257 ∨ 260 ≤ b → v1 b = v b) ∧ ∀ j, m_hf j → v1 223 j = v 223 j
theorem c_hk.rf {v : z_Dat} : c_hk v v := fun _ _ => rfl
theorem c_hk.tr {v v1 v2 : z_Dat} (h1 : c_hk v v1) (h2 : c_hk v1 v2) : c_hk v v2 := fun b hb => (h2 b hb).trans (h1 b hb)
theorem m_hk.rf {v : z_Dat} : m_hk v v := ⟨fun _ _ => rfl, fun _ _ => rfl⟩
theorem m_hk.tr {v v1 v2 : z_Dat} (h1 : m_hk v v1) (h2 : m_hk v1 v2) : m_hk v v2 := ⟨fun b hb => (h2.1 b hb).trans (h1.1 b hb), fun b hb => (h2.2 b hb).trans (h1.2 b hb)⟩
theorem m_pk.hk {v v1 : z_Dat} (h : m_pk v v1) : m_hk v v1 := ⟨fun b hb => h.1 b (by omega), fun j hj => by unfold m_hf at hj; exact h.2 j (by unfold m_pf; omega)⟩
theorem c_pw.hk {v v1 : z_Dat} (h : c_pw v v1) : c_hk v v1 := fun b hb => h b (by omega)
theorem z_fr.hk {lo hi : Nat} {v v1 : z_Dat} (h : z_fr lo hi v v1) (h1 : (37 ≤ lo ∧ hi < 57) ∨ (59 ≤ lo ∧ hi < 141)) : c_hk v v1 := fun b hb => h b (by omega)
theorem m_hk.T {v v1 : z_Dat} {D : Nat} (h : m_hk v v1) (hT : p_MT v D) : p_MT v1 D := hT.fr (h.2 14 (by unfold m_hf; omega)) (fun a _ _ => h.1 a (by omega))
/-- what a call that keeps does to the class' memory, to the reference's -/
def c_Ks (B : Nat × Nat × Nat) (ρ : Nat → Nat) (n : Nat) (r : Nat → Nat → Nat) (S : z_Shp) (v : z_Dat) (P : k_P) (S1 : z_Shp) (v1 : z_Dat) : Prop := p_F S1 v1 37 (k_ρ P ρ) ∧ c_H S1 v1 (k_n P n) (k_r P ρ r) ∧ e_T B 37 140 S S1 ∧ c_hk v v1
def m_Ks (ρ : Nat → Nat) (n : Nat) (r : Nat → Nat → Nat) (v : z_Dat) (P : k_P) (v1 : z_Dat) : Prop := p_M v1 (k_ρ P ρ) ∧ m_H v1 (k_n P n) (k_r P ρ r) ∧ m_hk v v1
section UN
variable {G : z_G} {d : Nat} {S : z_Shp} {v v0 : z_Dat} {Q : Option Value → z_Shp → z_Dat → Prop} {ρ : Nat → Nat} {B : Nat × Nat × Nat} {n : Nat} {r : Nat → Nat → Nat}
theorem sp_X11_keeps (hd : 1 ≤ d) (hL : z_L S) (hM : p_M v ρ) (hH : m_H v n r) (h : ∀ v1, m_H v1 (h_n n) (h_ad ρ r) → (∀ b, b ≠ 226 → b ≠ 223 → v1 b = v b) → (∀ j, j ≠ 6 → v1 223 j = v 223 j) → Q none S v1) : z_J G d mX11_keeps (0, [.ref 223, .null], [], S, v) Q := by
  obtain ⟨d, rfl⟩ : ∃ e, d = e + 1 := ⟨d - 1, by omega⟩
  obtain ⟨h1, h2, h3⟩ := hH
  have l1 : z_l S 224 = 71 := zl_224 hL
  have l2 : z_l S 226 = 568 := zl_226 hL
  have fin : ∀ m v1, m < 8 → h_n n = m + 1 → v1 223 6 = nI m → (∀ b, b ≠ 226 → b ≠ 223 → v1 b = v b) → (∀ j, j ≠ 6 → v1 223 j = v 223 j) → (∀ i, 0 < i → i < m + 1 → ∀ j, j < 71 → v1 226 (71 * (m - i) + j) = nI (r (i - 1) j)) →
      z_J G d mX11_copies (0, [.ref 223, .ref 224, .int 0, .ref 226, .int ((71 : Int32) * (v1 223 6)), .null], [], S, v1) (fun r S1 v2 => r = none ∧ S1 = S ∧ (∀ v3, v3 = z_u v2 223 6 ((v2 223 6) + 1) → (Q none S v3))) := by
    intro m v1 hm hn a6 w1 w2 a3
    rw [a6, show (71 : Int32) = nI 71 from rfl, pk_mul, show (0 : Int32) = nI 0 from rfl]
    refine sp_X11_copies (zk_224 hL) (zk_226 hL) (by omega) (by omega) (by omega) (by omega) (by omega) (fun g g1 g2 => ⟨rfl, rfl, fun v3 e3 => ?_⟩)
    rw [z_uan (by omega), a6, nI_1] at e3
    refine h v3 ⟨?_, by omega, fun i hi j hj => ?_⟩ (fun b b1 b2 => by rw [e3, z_u_ne b2, z_ua_ne b1]; exact w1 b b1 b2) (fun j hj => by rw [e3, z_un (Or.inr hj), z_uan (by omega)]; exact w2 j hj)
    · rw [hn, e3, z_ue rfl rfl]
    · rw [e3, z_u_ne (by omega), z_uae rfl]
      unfold h_ad
      by_cases z : i = 0
      · rw [if_pos z, z, hn, show 71 * (m + 1 - 1 - 0) + j = 71 * m + j by omega, g1 j hj, w1 224 (by omega) (by omega), Nat.zero_add]
        exact hM j hj
      · rw [if_neg z, hn, show 71 * (m + 1 - 1 - i) + j = 71 * (m - i) + j by omega, g2 _ (by omega)]
        exact a3 i (by omega) (by omega) j hj
  refine sg_X11_keeps_0 hL ⟨fun c => ?_, fun c => ?_⟩
  · have c : n < 8 := by
      rcases Nat.lt_or_ge n 8 with z | z
      · exact z
      · exact absurd (by rw [h1, show n = 8 by omega]; rfl) c
    exact fin n v c (by unfold h_n; rw [if_pos c]) h1 (fun _ _ _ => rfl) (fun _ _ => rfl) (fun i i1 i2 j hj => by
      rw [show n - i = n - 1 - (i - 1) by omega]; exact h3 (i - 1) (by omega) j hj)
  · have c : n = 8 := by
      rw [h1] at c
      exact (nI_eq (b := 8) (by omega) (by omega)).mp c
    subst c
    have key : ∀ j k v1, k + j = 497 → (∀ i, i < k → v1 226 i = v 226 (i + 71)) → (∀ i, k ≤ i → v1 226 i = v 226 i) → (∀ b, b ≠ 226 → v1 b = v b) → z_J G (d + 1) mX11_keeps (11, [.ref 223, .int (nI k)], [], S, v1) Q := by
      intro j
      induction j with
      | zero =>
        intro k v1 hk k1 k2 k3
        have hk : k = 497 := by omega
        subst hk
        refine sg_X11_keeps_11 hL ⟨fun _ v2 e2 => ?_, fun c => absurd (by decide) c⟩
        refine fin 7 v2 (by omega) rfl ?_ (fun b b1 b2 => by rw [e2, z_u_ne b2]; exact k3 b b1) (fun j hj => by rw [e2, z_un (Or.inr hj), k3 223 (by omega)]) (fun i i1 i2 j hj => ?_)
        · rw [e2, z_ue rfl rfl, k3 223 (by omega), h1]; rfl
        · rw [e2, z_u_ne (by omega), k1 _ (by omega), show 71 * (7 - i) + j + 71 = 71 * (8 - 1 - (i - 1)) + j by omega]
          exact h3 (i - 1) (by omega) j hj
      | succ j ih =>
        intro k v1 hk k1 k2 k3
        refine sg_X11_keeps_11 hL ⟨fun c => absurd c (nI_ge (b := 497) (by omega) (by omega)), fun _ => ?_⟩
        rw [show (71 : Int32) = nI 71 from rfl, nI_add, nI_clamp (by omega), nI_clamp (by omega), nI_1]
        refine ⟨vp_in_nI (by omega) (by omega), vp_in_nI (by omega) (by omega), fun v2 e2 => ih (k + 1) v2 (by omega) (fun i hi => ?_) (fun i hi => ?_) (fun b hb => by rw [e2, z_u_ne hb]; exact k3 b hb)⟩
        · by_cases z : i = k
          · rw [e2, z_ue rfl z, z]; exact k2 _ (by omega)
          · rw [e2, z_un (Or.inr z)]; exact k1 i (by omega)
        · rw [e2, z_un (by omega)]; exact k2 i (by omega)
    exact key 497 0 v rfl (fun i hi => by omega) (fun _ _ => rfl) (fun _ _ => rfl)
def u_y (n : Nat) : Int32 := if n = 0 then -1 else nI (n - 1)
def u_ρ (ρ : Nat → Nat) (n : Nat) (r : Nat → Nat → Nat) : Nat → Nat := if n = 0 then ρ else r 0
def u_r (n : Nat) (r : Nat → Nat → Nat) : Nat → Nat → Nat := if n = 0 then r else fun i => r (i + 1)
theorem sp_X10_undo (hd : 3 ≤ d) (hI : e_I B S) (hF : p_F S v 37 ρ) (hH : c_H S v n r)
    (h : ∀ S1 v1, p_F S1 v1 37 (u_ρ ρ n r) → c_H S1 v1 (n - 1) (u_r n r) → e_T B 37 140 S S1 → c_hk v v1 → Q (some (.int (u_y n))) S1 v1) : z_J G d mX10_undo (0, [.ref 0], [], S, v) Q := by
  obtain ⟨d, rfl⟩ : ∃ e, d = e + 1 := ⟨d - 1, by omega⟩
  refine sg_X10_undo_0 hI.1 ?_
  rw [hH.1]
  have h8 := hH.2.1
  by_cases z : n = 0
  · refine ⟨fun c => absurd (by rw [z]; rfl) c, fun _ => ?_⟩
    have := h S v (by unfold u_ρ; rw [if_pos z]; exact hF) (by unfold u_r; rw [if_pos z, z]; rw [z] at hH; exact hH) (e_T.rf hI) c_hk.rf
    unfold u_y at this
    rw [if_pos z] at this
    exact this
  · obtain ⟨m, rfl⟩ : ∃ m, n = m + 1 := ⟨n - 1, by omega⟩
    refine ⟨fun _ => ?_, fun c => absurd ((nI_eq (b := 0) (by omega) (by omega)).mp c) z⟩
    refine sp_X2_takeBack (by omega) hI hH (fun S1 v1 H1 F1 T1 f1 => ⟨rfl, ?_⟩)
    refine sg_X10_undo_23 T1.1.1 ?_
    rw [H1.1]
    have := h S1 v1 (by unfold u_ρ; rw [if_neg z]; exact F1) (by unfold u_r; rw [if_neg z]; exact H1) (T1.wd (by omega) (by omega)) (fun b hb => f1 b (by omega))
    unfold u_y at this
    rw [if_neg z] at this
    exact this
theorem sp_X11_undo (hd : 2 ≤ d) (hL : z_L S) (hM : p_M v ρ) (hH : m_H v n r) (h : ∀ v1, p_M v1 (u_ρ ρ n r) → m_H v1 (n - 1) (u_r n r) → m_hk v v1 → Q (some (.int (u_y n))) S v1) : z_J G d mX11_undo (0, [.ref 223], [], S, v) Q := by
  obtain ⟨d, rfl⟩ : ∃ e, d = e + 1 := ⟨d - 1, by omega⟩
  have h8 := hH.2.1
  have l1 : z_l S 224 = 71 := zl_224 hL
  have l2 : z_l S 226 = 568 := zl_226 hL
  refine sg_X11_undo_0 hL (fun v1 e1 => ?_)
  have a6 : v1 223 6 = nI n := by rw [e1, z_un (by omega)]; exact hH.1
  have w1 : m_hk v v1 := by rw [e1]; exact m_f6.u0.pk.hk
  rw [a6]
  by_cases z : n = 0
  · refine ⟨fun c => absurd (by rw [z]; rfl) c, fun _ => ?_⟩
    have := h v1 (by unfold u_ρ; rw [if_pos z]; exact hM.fr (by rw [e1, z_u_ne (by omega)])) (by unfold u_r; rw [if_pos z, z]; rw [z] at hH; exact hH.fr (by rw [e1, z_un (by omega)]) (by rw [e1, z_u_ne (by omega)])) w1
    unfold u_y at this
    rw [if_pos z] at this
    exact this
  · obtain ⟨m, rfl⟩ : ∃ m, n = m + 1 := ⟨n - 1, by omega⟩
    refine ⟨fun _ v2 e2 => ?_, fun c => absurd ((nI_eq (b := 0) (by omega) (by omega)).mp c) z⟩
    have b6 : v2 223 6 = nI m := by rw [e2, z_ue rfl rfl, nI_pred]
    rw [b6, show (71 : Int32) = nI 71 from rfl, pk_mul, show (0 : Int32) = nI 0 from rfl]
    refine sp_X11_copies (zk_226 hL) (zk_224 hL) (by omega) (by omega) (by omega) (by omega) (by omega) (fun g g1 g2 => ⟨rfl, rfl, ?_⟩)
    rw [z_uan (by omega), b6]
    have w226 : z_ua v2 224 g 226 = v 226 := by rw [z_ua_ne (by omega), e2, z_u_ne (by omega), e1, z_u_ne (by omega)]
    have := h (z_ua v2 224 g) (by
      unfold u_ρ; rw [if_neg z]
      intro j hj
      rw [z_uae rfl, show j = 0 + j by omega, g1 j hj, e2, z_u_ne (by omega), e1, z_u_ne (by omega), Nat.zero_add]
      have := hH.2.2 0 (by omega) j hj
      rw [show m + 1 - 1 - 0 = m by omega] at this
      exact this) (by
      unfold u_r; rw [if_neg z]
      refine ⟨by rw [z_uan (by omega)]; exact b6, by omega, fun i hi j hj => ?_⟩
      rw [w226]
      have := hH.2.2 (i + 1) (by omega) j hj
      rw [show m + 1 - 1 - (i + 1) = m + 1 - 1 - 1 - i by omega] at this
      exact this) (w1.tr ⟨fun b hb => by rw [z_ua_ne (by omega), e2, z_u_ne (by omega)], fun j hj => by unfold m_hf at hj; rw [z_uan (by omega), e2, z_un (by omega)]⟩)
    unfold u_y at this
    rw [if_neg z] at this
    exact this
end UN
