/-! one step of a work, done on a row; the reference's does -/
def d_ok (D : Nat) (s : Nat × Nat × Nat × Nat) : Prop := s.1 < 7 ∧ ((s.1 < 3 ∨ s.1 = 5) → s.2.1 < D ∧ s.2.2.1 < D) ∧ ((s.1 = 3 ∨ s.1 = 6) → s.2.1 < 2 ∧ s.2.2.1 < t_K D) ∧ ((s.1 = 5 ∨ s.1 = 6) → 1 ≤ s.2.2.2 ∧ s.2.2.2 ≤ 9)
def d_q (ρ : Nat → Nat) (s : Nat × Nat × Nat × Nat) : Nat := ρ 0 * s.2.1 + s.2.2.1
def d_r (ρ : Nat → Nat) (s : Nat × Nat × Nat × Nat) : Nat → Nat :=
  if s.1 = 0 then p_sl ρ 0 (d_q ρ s) else if s.1 = 1 then p_sl ρ 1 (d_q ρ s) else if s.1 = 2 then p_sl (p_sl ρ 0 (d_q ρ s)) 1 (d_q ρ s)
  else if s.1 = 3 then p_up ρ (4 + s.2.1) (ρ (4 + s.2.1) ^^^ 2 ^ s.2.2.1) else if s.1 = 4 then (if ρ 1 < 8 then p_rnd ρ else ρ)
  else if s.1 = 5 then p_up ρ (22 + d_q ρ s) s.2.2.2 else p_up ρ (47 + 12 * s.2.1 + s.2.2.1) s.2.2.2
def d_f (ρ : Nat → Nat) (s : Nat × Nat × Nat × Nat) : Nat := if s.1 = 4 then (if ρ 1 < 8 then 1 else 0) else 1
theorem d_q_lt {ρ : Nat → Nat} {s : Nat × Nat × Nat × Nat} (h35 : ρ 0 = 3 ∨ ρ 0 = 5) (h : s.2.1 < ρ 0 ∧ s.2.2.1 < ρ 0) : d_q ρ s < ρ 0 * ρ 0 ∧ d_q ρ s < 25 := by
  unfold d_q
  rcases h35 with e | e <;> rw [e] at h ⊢ <;> omega
/-- a step as the reference keeps it -/
def m_sp (v : z_Dat) (i : Nat) (s : Nat × Nat × Nat × Nat) : Prop := v 234 (4 * i) = nI s.1 ∧ (s.1 ≠ 4 → v 234 (4 * i + 1) = nI s.2.1 ∧ v 234 (4 * i + 2) = nI s.2.2.1) ∧ ((s.1 = 5 ∨ s.1 = 6) → v 234 (4 * i + 3) = nI s.2.2.2)
section DO
variable {G : z_G} {d : Nat} {S : z_Shp} {v v0 : z_Dat} {Q : Option Value → z_Shp → z_Dat → Prop} {ρ : Nat → Nat} {i : Nat} {s : Nat × Nat × Nat × Nat}
theorem sp_X11_does (hd : 3 ≤ d) (hL : z_L S) (hV : p_V ρ) (hM : p_M v ρ) (hT : p_MT v (ρ 0)) (hi : i < 30) (hs : d_ok (ρ 0) s) (hp : m_sp v i s)
    (h : ∀ v1, p_M v1 (d_r ρ s) → z_fr 224 224 v v1 → Q (some (.int (nI (d_f ρ s)))) S v1) : z_J G d mX11_does (0, [.ref 223, .int (nI (4 * i)), .null, .null, .null], [], S, v) Q := by
  obtain ⟨d, rfl⟩ : ∃ e, d = e + 1 := ⟨d - 1, by omega⟩
  have hK := t_Kle hV.1
  have h5 := l_35 hV.1
  obtain ⟨w, a, b, n⟩ := s
  obtain ⟨s1, s2, s3, s4⟩ := hs
  obtain ⟨m1, m2, m3⟩ := hp
  dsimp only at s1 s2 s3 s4 m1 m2 m3
  have i0 : vp_in (nI (4 * i)) 128 := vp_in_nI (by omega) (by omega)
  have i1 : vp_in (nI (4 * i + 1)) 128 := vp_in_nI (by omega) (by omega)
  have i2 : vp_in (nI (4 * i + 2)) 128 := vp_in_nI (by omega) (by omega)
  have i3 : vp_in (nI (4 * i + 3)) 128 := vp_in_nI (by omega) (by omega)
  have fr : ∀ j x, z_fr 224 224 v (z_u v 224 j x) := fun j x => z_fr.rf.u (by omega) (by omega)
  refine sg_X11_does_0 hL ?_
  rw [nI_1, show (2 : Int32) = nI 2 from rfl, show (3 : Int32) = nI 3 from rfl, nI_add, nI_add, nI_clamp (n := 4 * i) (by omega), nI_clamp (n := 4 * i + 1) (by omega), nI_clamp (n := 4 * i + 2) (by omega), nI_clamp (n := 4 * i + 3) (by omega), m1, hM 0 (by omega), hM 1 (by omega), hM 2 (by omega), hM 3 (by omega)]
  refine ⟨i1, i2, i0, fun c => ?_, fun c => ?_, fun c => ?_, fun c => ?_, fun c3 c4 c5 c6 => ?_⟩
  · have c : w = 3 := (nI_eq (by omega) (by omega)).mp c
    subst c
    obtain ⟨a1, a2⟩ := m2 (by decide)
    obtain ⟨b1, b2⟩ := s3 (Or.inl rfl)
    rw [a1, a2, show (4 : Int32) = nI 4 from rfl, nI_add, nI_clamp (by omega), hM (4 + a) (by omega), zb_1 (by omega), nx_xor]
    have hin : vp_in (nI (4 + a)) 71 := vp_in_nI (by omega) (by omega)
    refine ⟨hin, hin, fun v1 e1 => ?_⟩
    refine h v1 ?_ (by rw [e1]; exact fr _ _)
    rw [e1]; exact hM.up
  · have c : w = 4 := (nI_eq (b := 4) (by omega) (by omega)).mp c
    subst c
    have h8 := hV.2.1
    refine ⟨fun c8 => ?_, fun c8 => ?_⟩
    · have l8 : ρ 1 < 8 := by
        rcases Nat.lt_or_ge (ρ 1) 8 with z | z
        · exact z
        · exact absurd (by rw [show ρ 1 = 8 by omega]; rfl) c8
      refine sp_X11_round (by omega) hL hM hT hV.1 l8 (fun v1 M1 f1 => ⟨rfl, rfl, ?_⟩)
      have := h v1 (by unfold d_r; rw [if_neg (show ¬ (4 : Nat) = 0 by omega), if_neg (show ¬ (4 : Nat) = 1 by omega), if_neg (show ¬ (4 : Nat) = 2 by omega), if_neg (show ¬ (4 : Nat) = 3 by omega), if_pos rfl, if_pos l8]; exact M1) f1
      unfold d_f at this
      rw [if_pos rfl, if_pos l8] at this
      exact this
    · have l8 : ¬ ρ 1 < 8 := by
        have := (nI_eq (b := 8) (by omega) (by omega)).mp c8
        omega
      have := h v (by unfold d_r; rw [if_neg (show ¬ (4 : Nat) = 0 by omega), if_neg (show ¬ (4 : Nat) = 1 by omega), if_neg (show ¬ (4 : Nat) = 2 by omega), if_neg (show ¬ (4 : Nat) = 3 by omega), if_pos rfl, if_neg l8]; exact hM) z_fr.rf
      unfold d_f at this
      rw [if_pos rfl, if_neg l8] at this
      exact this
  · have c : w = 5 := (nI_eq (b := 5) (by omega) (by omega)).mp c
    subst c
    obtain ⟨a1, a2⟩ := m2 (by decide)
    have a3 := m3 (Or.inl rfl)
    have hq := d_q_lt (s := (5, a, b, n)) hV.1 (s2 (Or.inr rfl))
    unfold d_q at hq
    dsimp only at hq
    rw [a1, a2, a3, pk_mul, nI_add, show (22 : Int32) = nI 22 from rfl, nI_add, nI_clamp (by omega)]
    refine ⟨i3, vp_in_nI (by omega) (by omega), fun v1 e1 => ?_⟩
    refine h v1 ?_ (by rw [e1]; exact fr _ _)
    rw [e1]; exact hM.up
  · have c : w = 6 := (nI_eq (b := 6) (by omega) (by omega)).mp c
    subst c
    obtain ⟨a1, a2⟩ := m2 (by decide)
    have a3 := m3 (Or.inr rfl)
    obtain ⟨b1, b2⟩ := s3 (Or.inr rfl)
    rw [a1, a2, a3, show (12 : Int32) = nI 12 from rfl, pk_mul, show (47 : Int32) = nI 47 from rfl, nI_add, nI_add, nI_clamp (by omega)]
    refine ⟨i3, vp_in_nI (by omega) (by omega), fun v1 e1 => ?_⟩
    refine h v1 ?_ (by rw [e1]; exact fr _ _)
    rw [e1]; exact hM.up
  · have n3 : ¬ w = 3 := fun z => c3 (by rw [z])
    have n4 : ¬ w = 4 := fun z => c4 (by rw [z]; rfl)
    have n5 : ¬ w = 5 := fun z => c5 (by rw [z]; rfl)
    have n6 : ¬ w = 6 := fun z => c6 (by rw [z]; rfl)
    obtain ⟨a1, a2⟩ := m2 n4
    have hq := d_q_lt (s := (w, a, b, n)) hV.1 (s2 (Or.inl (by omega)))
    unfold d_q at hq
    dsimp only at hq
    rw [a1, a2, pk_mul, nI_add, zb_1 (by omega), nx_xor]
    rcases (show w = 0 ∨ w = 1 ∨ w = 2 by omega) with rfl | rfl | rfl
    · refine ⟨i0, fun c => absurd c (by decide), fun _ v1 e1 => ⟨i0, fun _ => ?_, fun c => absurd (by rw [e1, z_u_ne (by omega)]; exact m1) c⟩⟩
      rw [nx_xor] at e1
      refine h v1 ?_ (by rw [e1]; exact fr _ _)
      rw [e1]; exact hM.up
    · refine ⟨i0, fun _ => ⟨i0, fun c => absurd c (by decide), fun _ v1 e1 => ?_⟩, fun c => absurd rfl c⟩
      refine h v1 ?_ (by rw [e1]; exact fr _ _)
      rw [e1]; exact hM.up
    · refine ⟨i0, fun c => absurd c (by decide), fun _ v1 e1 => ⟨i0, fun c => absurd (show nI 2 = 0 by rw [← c, e1, z_u_ne (by omega)]; exact m1.symm) (by decide), fun _ v2 e2 => ?_⟩⟩
      have M1 : p_M v1 (p_sl ρ 0 (ρ 0 * a + b)) := by rw [e1, nx_xor]; exact hM.up
      have e3 : p_sl ρ 0 (ρ 0 * a + b) 3 = ρ 3 := p_sl_o (by omega)
      rw [M1 3 (by omega), nx_xor] at e2
      refine h v2 ?_ (by rw [e2, e1]; exact (fr _ _).u (by omega) (by omega))
      rw [e2]
      exact M1.up
end DO
