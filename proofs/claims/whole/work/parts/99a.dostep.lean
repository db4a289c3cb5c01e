/-! one step of a work: the class' doStep -/
theorem p_F.up22 {S : z_Shp} {v : z_Dat} {f q x : Nat} {ρ : Nat → Nat} (h : p_F S v f ρ) (hq : q < 25) : p_F S (z_u v (f + 6) q (nI x)) f (p_up ρ (22 + q) x) := by
  obtain ⟨h0, h1, h2, h3⟩ := h
  refine ⟨by rw [p_un (by omega)]; exact h0, by rw [p_un (by omega), z_un (by omega)]; exact h1, fun c hc => ?_, fun k hk => ?_⟩
  · obtain ⟨a1, a2, a3, a4⟩ := h2 c hc
    exact ⟨by rw [p_un (by omega), z_un (by omega)]; exact a1, by rw [p_un (by omega), z_un (by omega)]; exact a2, fun t ht => by rw [p_un (by omega), z_un (by omega)]; exact a3 t ht, fun k hk => by rw [p_un (by omega), z_un (by omega)]; exact a4 k hk⟩
  · by_cases e : k = q
    · rw [p_ue (by omega), z_ue rfl e]
    · rw [p_un (by omega), z_un (Or.inr e)]; exact h3 k hk
theorem p_F.up47 {S : z_Shp} {v : z_Dat} {f κ k x : Nat} {ρ : Nat → Nat} (h : p_F S v f ρ) (hκ : κ < 2) (hk : k < 12) : p_F S (z_u v (f + 8 + κ) k (nI x)) f (p_up ρ (47 + 12 * κ + k) x) := by
  obtain ⟨h0, h1, h2, h3⟩ := h
  refine ⟨by rw [p_un (by omega)]; exact h0, by rw [p_un (by omega), z_un (by omega)]; exact h1, fun c hc => ?_, fun q hq => by rw [p_un (by omega), z_un (by omega)]; exact h3 q hq⟩
  obtain ⟨a1, a2, a3, a4⟩ := h2 c hc
  refine ⟨by rw [p_un (by omega), z_un (by omega)]; exact a1, by rw [p_un (by omega), z_un (by omega)]; exact a2, fun t ht => by rw [p_un (by omega), z_un (by omega)]; exact a3 t ht, fun k' hk' => ?_⟩
  by_cases e : c = κ ∧ k' = k
  · rw [p_ue (by omega), z_ue (by omega) e.2]
  · rw [p_un (by omega), z_un (by omega)]; exact a4 k' hk'
/-- a step as the class keeps it -/
def c_sp (v : z_Dat) (i : Nat) (s : Nat × Nat × Nat × Nat) : Prop := v 143 i = nI s.1 ∧ (s.1 ≠ 4 → v 144 i = nI s.2.1 ∧ v 145 i = nI s.2.2.1) ∧ ((s.1 = 5 ∨ s.1 = 6) → v 146 i = nI s.2.2.2)
section DS
variable {G : z_G} {d : Nat} {S : z_Shp} {v v0 : z_Dat} {Q : Option Value → z_Shp → z_Dat → Prop} {ρ : Nat → Nat} {i : Nat} {s : Nat × Nat × Nat × Nat}
theorem sp_X6_doStep (hd : 3 ≤ d) (hL : z_L S) (hV : p_V ρ) (hW : p_Ws v) (hF : p_F S v 37 ρ) (h13 : v 141 13 = nI (ρ 0)) (hi : i < 30) (hs : d_ok (ρ 0) s) (hp : c_sp v i s)
    (h : ∀ v1, p_F S v1 37 (d_r ρ s) → z_fr 37 46 v v1 → Q (some (.int (nI (d_f ρ s)))) S v1) : z_J G d mX6_doStep (0, [.ref 141, .ref 37, .int (nI i), .null], [], S, v) Q := by
  obtain ⟨d, rfl⟩ : ∃ e, d = e + 1 := ⟨d - 1, by omega⟩
  have hK := t_Kle hV.1
  have h5 := l_35 hV.1
  obtain ⟨w, a, b, n⟩ := s
  obtain ⟨s1, s2, s3, s4⟩ := hs
  obtain ⟨m1, m2, m3⟩ := hp
  dsimp only at s1 s2 s3 s4 m1 m2 m3
  have i0 : vp_in (nI i) 30 := vp_in_nI (by omega) (by omega)
  have fr : ∀ c j x, 37 ≤ c → c ≤ 46 → z_fr 37 46 v (z_u v c j x) := fun c j x h1 h2 => z_fr.rf.u h1 h2
  refine sg_X6_doStep_0 hL zF_37 ?_
  rw [nI_clamp (n := i) (by omega), m1, h13]
  refine ⟨i0, i0, i0, fun c => ?_, fun c => ?_, fun c => ?_, fun c => ?_, fun c3 c4 c5 c6 => ?_⟩
  · have c : w = 3 := (nI_eq (b := 3) (by omega) (by omega)).mp c
    subst c
    obtain ⟨a1, a2⟩ := m2 (by decide)
    obtain ⟨b1, b2⟩ := s3 (Or.inl rfl)
    rw [a1, a2, nI_clamp (by omega), (hF.2.2.1 a b1).2.1, zb_1 (by omega), nx_xor]
    have hin : vp_in (nI a) 2 := vp_in_nI (by omega) (by omega)
    refine ⟨i0, hin, i0, hin, fun v1 e1 => ?_⟩
    refine h v1 ?_ (by rw [e1]; exact fr _ _ _ (by omega) (by omega))
    rw [e1]; exact hF.up4 b1
  · have c : w = 4 := (nI_eq (b := 4) (by omega) (by omega)).mp c
    subst c
    refine sp_X0_readAll (by omega) hL hW zF_37 hF hV.2.1 (fun l8 v1 F1 f1 => ⟨_, rfl, rfl, rfl, ?_⟩) (fun e8 => ⟨_, rfl, rfl, rfl, ?_⟩)
    · have := h v1 (by unfold d_r; rw [if_neg (show ¬ (4 : Nat) = 0 by omega), if_neg (show ¬ (4 : Nat) = 1 by omega), if_neg (show ¬ (4 : Nat) = 2 by omega), if_neg (show ¬ (4 : Nat) = 3 by omega), if_pos rfl, if_pos l8]; exact F1) f1
      unfold d_f at this
      rw [if_pos rfl, if_pos l8] at this
      exact this
    · have l8 : ¬ ρ 1 < 8 := by omega
      have := h v (by unfold d_r; rw [if_neg (show ¬ (4 : Nat) = 0 by omega), if_neg (show ¬ (4 : Nat) = 1 by omega), if_neg (show ¬ (4 : Nat) = 2 by omega), if_neg (show ¬ (4 : Nat) = 3 by omega), if_pos rfl, if_neg l8]; exact hF) z_fr.rf
      unfold d_f at this
      rw [if_pos rfl, if_neg l8] at this
      exact this
  · have c : w = 5 := (nI_eq (b := 5) (by omega) (by omega)).mp c
    subst c
    obtain ⟨a1, a2⟩ := m2 (by decide)
    have a3 := m3 (Or.inl rfl)
    have hq := d_q_lt (s := (5, a, b, n)) hV.1 (s2 (Or.inr rfl))
    unfold d_q at hq
    dsimp only at hq
    rw [a1, a2, a3, pk_mul, nI_add, Nat.mul_comm, nI_clamp (by omega)]
    refine ⟨i0, i0, i0, vp_in_nI (by omega) (by omega), fun v1 e1 => ?_⟩
    refine h v1 ?_ (by rw [e1]; exact fr _ _ _ (by omega) (by omega))
    rw [e1]; exact hF.up22 hq.2
  · have c : w = 6 := (nI_eq (b := 6) (by omega) (by omega)).mp c
    subst c
    obtain ⟨a1, a2⟩ := m2 (by decide)
    have a3 := m3 (Or.inr rfl)
    obtain ⟨b1, b2⟩ := s3 (Or.inr rfl)
    rw [a1, a2, a3, nI_clamp (n := a) (by omega), nI_clamp (n := b) (by omega)]
    refine ⟨i0, vp_in_nI (by omega) (by omega), i0, i0, vp_in_nI (by omega) (by omega), fun v1 e1 => ?_⟩
    refine h v1 ?_ (by rw [e1]; exact fr _ _ _ (by omega) (by omega))
    rw [e1]; exact hF.up47 b1 (by omega)
  · have n3 : ¬ w = 3 := fun z => c3 (by rw [z]; rfl)
    have n4 : ¬ w = 4 := fun z => c4 (by rw [z]; rfl)
    have n5 : ¬ w = 5 := fun z => c5 (by rw [z]; rfl)
    have n6 : ¬ w = 6 := fun z => c6 (by rw [z]; rfl)
    obtain ⟨a1, a2⟩ := m2 n4
    have hq := d_q_lt (s := (w, a, b, n)) hV.1 (s2 (Or.inl (by omega)))
    unfold d_q at hq
    dsimp only at hq
    have e0 : v (37 + 1) 0 = nI (ρ 2) := (hF.2.2.1 0 (by omega)).1
    have e1 : v (37 + 1) 1 = nI (ρ 3) := (hF.2.2.1 1 (by omega)).1
    have x0 : ∀ x : Int32, x ^^^ 0 = x := fun x => by
      apply Int32.toBitVec_inj.1
      rw [Int32.toBitVec_xor]
      exact BitVec.xor_zero
    rw [a1, a2, pk_mul, nI_add, Nat.mul_comm, zb_1 (by omega), e0, x0]
    rcases (show w = 0 ∨ w = 1 ∨ w = 2 by omega) with rfl | rfl | rfl
    · refine ⟨i0, fun _ v1 q1 => ⟨i0, fun c => absurd (by rw [q1, z_u_ne (by omega)]; exact m1) c, fun _ v2 q2 => ?_⟩, fun c => absurd c (by decide)⟩
      rw [nx_xor] at q1
      have F1 : p_F S v1 37 (p_sl ρ 0 (ρ 0 * a + b)) := by rw [q1]; exact hF.up2 (κ := 0) (by omega)
      rw [x0] at q2
      have same : v2 = v1 := by
        funext c j
        rw [q2]
        by_cases z : c = 37 + 1 ∧ j = 1
        · rw [z_ue z.1 z.2, z.1, z.2]
        · rw [z_un (by omega)]
      rw [same]
      exact h v1 F1 (by rw [q1]; exact fr _ _ _ (by omega) (by omega))
    · refine ⟨i0, fun c => absurd rfl c, fun _ v1 q1 => ⟨i0, fun _ v2 q2 => ?_, fun c => absurd (show nI 1 = 0 by rw [← c, q1, z_u_ne (by omega)]; exact m1.symm) (by decide)⟩⟩
      have same : v1 = v := by
        funext c j
        rw [q1]
        by_cases z : c = 37 + 1 ∧ j = 0
        · rw [z_ue z.1 z.2, z.1, z.2]; exact e0.symm
        · rw [z_un (by omega)]
      rw [same, e1, nx_xor] at q2
      refine h v2 ?_ (by rw [q2]; exact fr _ _ _ (by omega) (by omega))
      rw [q2]; exact hF.up2 (κ := 1) (by omega)
    · refine ⟨i0, fun _ v1 q1 => ⟨i0, fun _ v2 q2 => ?_, fun c => absurd (show nI 2 = 0 by rw [← c, q1, z_u_ne (by omega)]; exact m1.symm) (by decide)⟩, fun c => absurd c (by decide)⟩
      rw [nx_xor] at q1
      have F1 : p_F S v1 37 (p_sl ρ 0 (ρ 0 * a + b)) := by rw [q1]; exact hF.up2 (κ := 0) (by omega)
      rw [show v1 (37 + 1) 1 = nI (p_sl ρ 0 (ρ 0 * a + b) 3) from (F1.2.2.1 1 (by omega)).1, nx_xor] at q2
      refine h v2 ?_ (by rw [q2, q1]; exact (fr _ _ _ (by omega) (by omega)).u (by omega) (by omega))
      rw [q2]; exact F1.up2 (κ := 1) (by omega)
end DS
