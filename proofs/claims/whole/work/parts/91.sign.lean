/-! the reference's signOf, line -/
theorem l_par2 : ∀ p, p < 33 → ((nI p - nI p / 2 * 2 = 1) ↔ p % 2 = 1) := by decide
theorem s_nar4 : ∀ s, s < 32 → (vp_nar .byte (nI s).toInt8.toInt32 = nI s ∧ vp_nar .byte (nI (32 + s)).toInt8.toInt32 = nI (32 + s) ∧ vp_nar .byte (nI (64 + s)).toInt8.toInt32 = nI (64 + s) ∧ vp_nar .byte (nI (96 + s)).toInt8.toInt32 = nI (96 + s)) := by decide
theorem s_nar (s : Nat) (h : s < 128) : vp_nar .byte (nI s).toInt8.toInt32 = nI s := by
  rcases (show s < 32 ∨ (32 ≤ s ∧ s < 64) ∨ (64 ≤ s ∧ s < 96) ∨ 96 ≤ s by omega) with z | z | z | z
  · exact (s_nar4 s z).1
  · have := (s_nar4 (s - 32) (by omega)).2.1
    rw [show 32 + (s - 32) = s by omega] at this; exact this
  · have := (s_nar4 (s - 64) (by omega)).2.2.1
    rw [show 64 + (s - 64) = s by omega] at this; exact this
  · have := (s_nar4 (s - 96) (by omega)).2.2.2
    rw [show 96 + (s - 96) = s by omega] at this; exact this
section SG
variable {G : z_G} {d : Nat} {S : z_Shp} {v v0 : z_Dat} {Q : Option Value → z_Shp → z_Dat → Prop} {ρ : Nat → Nat} {r c : Nat} {x1 : Int32}
theorem sp_X11_signOf (hd : 2 ≤ d) (hL : z_L S) (hV : p_V ρ) (hM : p_M v ρ) (hr : r ≤ 2 * ρ 0) (hc : c ≤ 2 * ρ 0) (h : Q (some (.int (nI (s_g ρ r c)))) S v) : z_J G d mX11_signOf (0, [.ref 223, .int (nI r), .int (nI c), .null, .null], [], S, v) Q := by
  obtain ⟨d, rfl⟩ : ∃ e, d = e + 1 := ⟨d - 1, by omega⟩
  have h5 := l_35 hV.1
  obtain ⟨r1, r2⟩ := l_dv (show r ≤ 10 by omega)
  obtain ⟨c1, c2⟩ := l_dv (show c ≤ 10 by omega)
  have hsl : ∀ κ, κ < 2 → ρ (2 + κ) < 2 ^ 31 := fun κ hκ => by
    refine Nat.lt_of_lt_of_le (hV.2.2.1 κ hκ).1 (Nat.pow_le_pow_right (by omega) ?_)
    rcases hV.1 with e | e <;> rw [e] <;> decide
  have s32 : s_g ρ r c = 32 → Q (some (.int 32)) S v := fun e => by rw [e] at h; exact h
  have kind : r % 2 = 0 → c % 2 = 0 → z_J G d mX11_kindOn (0, [.ref 223, .int (nI (r / 2)), .int (nI (c / 2)), .null, .null, .null], [], S, v) (fun r_1 S1 v1 => ∃ y1 : Int32, r_1 = some (.int y1) ∧ S1 = S ∧ ((0 ≤ y1 → (z_J G d mX11_bitsOn (0, [.ref 223, .int (nI (r / 2)), .int (nI (c / 2)), .null, .null, .null], [], S, v1) (fun r S1 v2 => ∃ y2 : Int32, r = some (.int y2) ∧ S1 = S ∧ ((vp_in ((2 : Int32) + y1) 71) ∧ ((¬ ((z_pc (y2 &&& (v2 224 ((2 : Int32) + y1).toNatClampNeg))) - (z_pc (y2 &&& (v2 224 ((2 : Int32) + y1).toNatClampNeg))) / 2 * 2) = 1 → ((¬ y1 = 0 → (Q (some (.int ((112 : Int32) - 0))) S v2)) ∧ (y1 = 0 → (Q (some (.int ((98 : Int32) - 0))) S v2)))) ∧ (((z_pc (y2 &&& (v2 224 ((2 : Int32) + y1).toNatClampNeg))) - (z_pc (y2 &&& (v2 224 ((2 : Int32) + y1).toNatClampNeg))) / 2 * 2) = 1 → ((¬ y1 = 0 → (Q (some (.int ((112 : Int32) - 32))) S v2)) ∧ (y1 = 0 → (Q (some (.int ((98 : Int32) - 32))) S v2))))))))) ∧ (¬ 0 ≤ y1 → (Q (some (.int 32)) S v1)))) := by
    intro er ec
    refine sp_X11_kindOn (by omega) hL.k (by omega) (hM 0 (by omega)) hV.1 (by omega) (by omega) ⟨_, rfl, rfl, ?_⟩
    have es : s_g ρ r c = if l_kd (ρ 0) (r / 2) (c / 2) = 2 then 32 else s_ck ρ (l_kd (ρ 0) (r / 2) (c / 2)) (l_bt (ρ 0) (r / 2) (c / 2)) := by
      unfold s_g
      rw [if_neg (by omega), if_neg (by omega)]
    by_cases z : l_kd (ρ 0) (r / 2) (c / 2) = 2
    · rw [if_pos z] at es
      rw [z]
      exact ⟨fun q => absurd q (by decide), fun _ => s32 es⟩
    · rw [if_neg z] at es
      have hκ : l_kd (ρ 0) (r / 2) (c / 2) < 2 := by
        rcases l_kd3 (D := ρ 0) (i := r / 2) (j := c / 2) with q | q | q <;> omega
      have ob := l_ok hV.1 (show r / 2 ≤ ρ 0 by omega) (show c / 2 ≤ ρ 0 by omega) hκ rfl
      have hb := t_fb_lt (ρ 0) (l_kd (ρ 0) (r / 2) (c / 2)) (l_n (ρ 0) (l_kd (ρ 0) (r / 2) (c / 2)) (r / 2) (c / 2))
      rw [ob.2.2.2] at hb
      have eI : l_kI (l_kd (ρ 0) (r / 2) (c / 2)) = nI (l_kd (ρ 0) (r / 2) (c / 2)) := by unfold l_kI; rw [if_neg z]
      rw [es] at h
      rw [eI]
      clear s32 es eI
      generalize l_kd (ρ 0) (r / 2) (c / 2) = κ at *
      refine ⟨fun _ => ?_, fun q => absurd (Int32.not_lt.mp (nI_pos (by omega))) q⟩
      refine sp_X11_bitsOn (by omega) hL.k (by omega) (hM 0 (by omega)) hV.1 (by omega) (by omega) ⟨_, rfl, rfl, ?_⟩
      rw [nI_2, nI_clamp (by omega), hM (2 + κ) (by omega), nx_and, Nat.and_comm]
      have hp := p_pc_le (ρ (2 + κ) &&& l_bt (ρ 0) (r / 2) (c / 2))
      rw [p_pc_nI (Nat.lt_trans (p_and_lt hb) (by decide)), l_par2 _ (by omega)]
      refine ⟨vp_in_nI (by omega) (by omega), fun q => ⟨fun k => ?_, fun k => ?_⟩, fun q => ⟨fun k => ?_, fun k => ?_⟩⟩
      · unfold s_ck at h
        rw [if_neg (fun e => k (by rw [e]; rfl)), if_neg q] at h
        exact h
      · have k : κ = 0 := (nI_eq (b := 0) (by omega) (by omega)).mp k
        unfold s_ck at h
        rw [if_pos k, if_neg q] at h
        exact h
      · unfold s_ck at h
        rw [if_neg (fun e => k (by rw [e]; rfl)), if_pos q] at h
        exact h
      · have k : κ = 0 := (nI_eq (b := 0) (by omega) (by omega)).mp k
        unfold s_ck at h
        rw [if_pos k, if_pos q] at h
        exact h
  refine sg_X11_signOf_0 hL ?_
  rw [r2, l_par (by omega : r ≤ 10), c2, l_par (by omega : c ≤ 10), r1, c1, hM 0 (by omega), hM 2 (by omega), hM 3 (by omega), pk_mul, nI_add]
  refine ⟨fun o => ⟨fun e => absurd (by omega) e, fun e => ⟨fun f => s32 ?_, fun f => kind e f⟩⟩, fun o => ⟨fun f => ⟨fun _ => s32 ?_, fun e => absurd o (by omega)⟩, fun f => ?_⟩⟩
  · unfold s_g; rw [if_neg o, if_pos (by omega)]
  · unfold s_g; rw [if_pos o, if_neg f]
  · have hq : ρ 0 * (r / 2) + c / 2 < 32 := by
      have := Nat.mul_le_mul (show ρ 0 ≤ 5 by omega) (show r / 2 ≤ 4 by omega)
      omega
    have es : s_g ρ r c = s_qb ρ (ρ 0 * (r / 2) + c / 2) := by unfold s_g; rw [if_pos o, if_pos f]
    rw [es] at h
    rw [zb_bit (hsl 0 (by omega)) hq, zb_bit (hsl 1 (by omega)) hq]
    unfold s_qb at h
    have b0 : ∀ a : Nat, (nI (a % 2) = 1) → a % 2 = 1 := fun a c => (nI_eq (b := 1) (by omega) (by omega)).mp c
    have b1 : ∀ a : Nat, ¬ (nI (a % 2) = 1) → ¬ a % 2 = 1 := fun a c z => c (by rw [z]; rfl)
    refine ⟨fun p0 => ⟨fun p1 => ?_, fun p1 => ?_⟩, fun p0 => ⟨fun p1 => ?_, fun p1 => ?_⟩⟩
    · rw [if_pos (b0 _ p1), if_pos (b0 _ p0)] at h
      exact ⟨fun _ => ⟨fun _ => ⟨fun _ => h, fun q => absurd q (by decide)⟩, fun q => absurd q (by decide)⟩, fun q => absurd q (by decide)⟩
    · rw [if_neg (b1 _ p1), if_pos (b0 _ p0)] at h
      exact ⟨fun _ => ⟨fun q => absurd (by decide) q, fun _ => h⟩, fun q => absurd q (by decide)⟩
    · rw [if_pos (b0 _ p1), if_neg (b1 _ p0)] at h
      exact ⟨fun _ => ⟨fun _ => ⟨fun q => absurd (by decide) q, fun _ => h⟩, fun q => absurd q (by decide)⟩, fun q => absurd q (by decide)⟩
    · rw [if_neg (b1 _ p1), if_neg (b1 _ p0)] at h
      exact ⟨fun q => absurd (by decide) q, fun _ => h⟩
theorem sp_X11_line (hd : 3 ≤ d) (hL : z_L S) (hV : p_V ρ) (hM : p_M v ρ)
    (h1 : ∀ v1 r, a_ln ρ x1 r → m_Ts v1 (s_ls ρ r) → (∀ b, b ≠ 223 → b ≠ 260 → v1 b = v b) → (∀ j, j ≠ 0 → j ≠ 65 → v1 223 j = v 223 j) → Q (some (.int (nI (2 * ρ 0 + 1)))) S v1)
    (h0 : ∀ v1, (¬ ∃ r, a_ln ρ x1 r) → v1 = z_u v 223 0 0 → Q (some (.int (-1))) S v1) : z_J G d mX11_line (0, [.ref 223, .int x1, .null], [], S, v) Q := by
  obtain ⟨d, rfl⟩ : ∃ e, d = e + 1 := ⟨d - 1, by omega⟩
  have h5 := l_35 hV.1
  refine sg_X11_line_0 hL (fun v1 e1 => ?_)
  have f0 : m_f6 v v1 := by rw [e1]; exact m_f6.u0
  rw [f0.M hM 0 (by omega), show (2 : Int32) = nI 2 from rfl, pk_mul, show (0 ≤ x1 ∧ x1 ≤ nI (2 * ρ 0)) ↔ ∃ i, i < 2 * ρ 0 + 1 ∧ x1 = nI i by
    have := ix_le (x := x1) (n := 2 * ρ 0 + 1) (by omega)
    rw [nI_pred] at this
    exact this]
  refine ⟨fun ⟨r, hr, e⟩ v2 e2 => ?_, fun c => h0 v1 (fun ⟨r, q⟩ => c ⟨r, by have := q.1; omega, q.2⟩) e1⟩
  subst e
  rw [nI_1] at e2
  have key : ∀ jj j v3, j + jj = 2 * ρ 0 + 1 → (∀ i, i < j → v3 260 i = nI (s_g ρ r i)) → (∀ b, b ≠ 260 → v3 b = v2 b) → z_J G (d + 1) mX11_line (35, [.ref 223, .int (nI r), .int (nI j)], [], S, v3) Q := by
    intro jj
    induction jj with
    | zero =>
      intro j v3 hj k1 k2
      have hj : j = 2 * ρ 0 + 1 := by omega
      subst hj
      have e65 : v3 223 65 = nI (2 * ρ 0 + 1) := by rw [k2 223 (by omega), e2, z_ue rfl rfl]
      refine sg_X11_line_35 hL ?_
      rw [e65]
      refine ⟨fun _ => ?_, fun c => absurd (nI_le (Nat.le_refl _) (by omega)) c⟩
      refine h1 v3 r ⟨by omega, rfl⟩ ⟨by rw [s_ls_len]; exact e65, by rw [s_ls_len]; omega, fun i hi => ?_⟩ (fun b b1 b2 => by rw [k2 b b2, e2, z_u_ne b1, e1, z_u_ne b1]) (fun j j1 j2 => by rw [k2 223 (by omega), e2, z_un (Or.inr j2), e1, z_un (Or.inr j1)])
      rw [s_ls_len] at hi
      rw [s_ls_get hi]; exact k1 i hi
    | succ jj ih =>
      intro j v3 hj k1 k2
      have e65 : v3 223 65 = nI (2 * ρ 0 + 1) := by rw [k2 223 (by omega), e2, z_ue rfl rfl]
      have M3 : p_M v3 ρ := hM.fr (by rw [k2 224 (by omega), e2, z_u_ne (by omega), e1, z_u_ne (by omega)])
      refine sg_X11_line_35 hL ?_
      rw [e65]
      refine ⟨fun c => absurd c (nI_ge (by omega) (by omega)), fun _ => ?_⟩
      refine sp_X11_signOf (by omega) hL hV M3 (by omega) (by omega) ⟨_, rfl, rfl, vp_in_nI (by omega) (by omega), fun v4 e4 => ?_⟩
      rw [nI_clamp (by omega), s_nar _ s_g_lt] at e4
      rw [nI_1]
      refine ih (j + 1) v4 (by omega) (fun i hi => ?_) (fun b hb => by rw [e4, z_u_ne hb]; exact k2 b hb)
      by_cases z : i = j
      · rw [e4, z_ue rfl z, z]
      · rw [e4, z_un (Or.inr z)]; exact k1 i (by omega)
  exact key _ 0 v2 (Nat.zero_add _) (fun i hi => absurd hi (Nat.not_lt_zero i)) (fun _ _ => rfl)
end SG
