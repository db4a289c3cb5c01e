/-! a code begins anew: startAnew, begins; restore -/
def p_nw (D : Nat) : Nat → Nat := fun i => if i = 0 then D else if i < 22 then 0 else 1
theorem p_nw_0 (D : Nat) : p_nw D 0 = D := rfl
theorem p_nw_z {D i : Nat} (h1 : 0 < i) (h2 : i < 22) : p_nw D i = 0 := by unfold p_nw; rw [if_neg (by omega), if_pos h2]
theorem p_nw_1 {D i : Nat} (h2 : 22 ≤ i) : p_nw D i = 1 := by unfold p_nw; rw [if_neg (by omega), if_neg (by omega)]
theorem p_nw_V {D : Nat} (h : D = 3 ∨ D = 5) : p_V (p_nw D) := by
  refine ⟨h, by rw [p_nw_z (by omega) (by omega)]; omega, fun κ hκ => ⟨?_, ?_, fun t ht => ?_, fun k hk => ?_⟩, fun q hq => ?_⟩
  · rw [p_nw_z (by omega) (by omega)]; exact Nat.pow_pos (by omega)
  · rw [p_nw_z (by omega) (by omega)]; exact Nat.pow_pos (by omega)
  · rw [p_nw_z (by omega) (by omega)]; exact Nat.pow_pos (by omega)
  · rw [p_nw_1 (by omega)]; omega
  · rw [p_nw_1 (by omega)]; omega
theorem z_Lk.sr {nn : Nat} {S : z_Shp} {a i : Nat} {b : Option Nat} (h : z_Lk nn S) (hn : (z_LR.getD a []).getD i none = none) : z_Lk nn (z_sr S a i b) := by
  refine ⟨h.1, fun c hc => ⟨(h.2 c hc).1, (h.2 c hc).2.1, fun j q hq => ?_⟩⟩
  show (if c = a ∧ j = i then b else z_r S c j) = _
  rw [if_neg (fun z => by rw [z.1, z.2] at hq; have hq := z_lrk_sub hq; rw [hn] at hq; cases hq)]
  exact (h.2 c hc).2.2 j q hq
section AN
variable {G : z_G} {d nn : Nat} {S : z_Shp} {v v0 : z_Dat} {Q : Option Value → z_Shp → z_Dat → Prop} {D κ f w : Nat} {x1 : Int32} {B : Nat × Nat × Nat} {ρ : Nat → Nat}
theorem yF_kl (h : z_Lk nn S) (hn : f + 10 ≤ nn) (hf : z_isF f) : (z_k S (f + 6) = 21 ∧ z_l S (f + 6) = 25) ∧ ∀ κ, κ < 2 → (z_k S (f + 4 + κ) = 21 ∧ z_l S (f + 4 + κ) = 8) ∧ (z_k S (f + 8 + κ) = 21 ∧ z_l S (f + 8 + κ) = 12) := by
  simp only [z_isF, List.mem_cons, List.not_mem_nil, or_false] at hf
  have a := h.2
  refine ⟨?_, fun κ hκ => ?_⟩
  · rw [(a (f + 6) (by omega)).1, (a (f + 6) (by omega)).2.1]
    rcases hf with rfl | rfl | rfl | rfl | rfl | rfl | rfl | rfl | rfl | rfl | rfl | rfl <;> decide
  · rw [(a (f + 4 + κ) (by omega)).1, (a (f + 4 + κ) (by omega)).2.1, (a (f + 8 + κ) (by omega)).1, (a (f + 8 + κ) (by omega)).2.1]
    rcases (show κ = 0 ∨ κ = 1 by omega) with rfl | rfl <;> rcases hf with rfl | rfl | rfl | rfl | rfl | rfl | rfl | rfl | rfl | rfl | rfl | rfl <;> decide
theorem sp_X0_startAnew (hd : 1 ≤ d) (hL : z_Lk nn S) (hn : f + 10 ≤ nn ∧ w + 18 ≤ nn) (hf : z_isF f) (hwd : p_wd w D)
    (h : ∀ v1, p_F (z_sr S f 0 (some w)) v1 f (p_nw D) → z_fr f (f + 9) v v1 → Q none (z_sr S f 0 (some w)) v1) : z_J G d mX0_startAnew (0, [.ref f, .ref w, .null], [], S, v) Q := by
  obtain ⟨d, rfl⟩ : ∃ e, d = e + 1 := ⟨d - 1, by omega⟩
  have hw := p_wdW hwd
  refine ysg_X0_startAnew_0 hL hn hf hw ⟨by have := hL.1; omega, ?_⟩
  have hL1 : z_Lk nn (z_sr S f 0 (some w)) := hL.sr (zF_lr hf)
  have hr : z_r (z_sr S f 0 (some w)) f 0 = some w := by
    show (if f = f ∧ 0 = 0 then some w else _) = _
    rw [if_pos ⟨rfl, rfl⟩]
  generalize z_sr S f 0 (some w) = S1 at *
  obtain ⟨⟨kA, lA⟩, kB⟩ := yF_kl hL1 hn.1 hf
  refine ysg_X0_startAnew_5 hL1 hn hf hw (fun v1 e1 => ?_)
  refine sp_J7_fill kA (by rw [lA]; decide) (fun g g1 => ⟨rfl, rfl, ?_⟩)
  rw [lA] at g1
  have key : ∀ j k v3, k + j = 2 → (∀ κ, κ < k → (v3 (f + 1) κ = nI (p_nw D (2 + κ)) ∧ v3 (f + 2) κ = nI (p_nw D (4 + κ)) ∧ (∀ t, t < 8 → v3 (f + 4 + κ) t = nI (p_nw D (6 + 8 * κ + t))) ∧ ∀ k, k < 12 → v3 (f + 8 + κ) k = nI (p_nw D (47 + 12 * κ + k)))) → v3 f 1 = nI (p_nw D 1) → (∀ q, q < 25 → v3 (f + 6) q = nI (p_nw D (22 + q))) → z_fr f (f + 9) v v3 → z_J G (d + 1) mX0_startAnew (20, [.ref f, .ref w, .int (nI k)], [], S1, v3) Q := by
    intro j
    induction j with
    | zero =>
      intro k v3 hk k1 k2 k3 k4
      have hk : k = 2 := by omega
      subst hk
      refine ysg_X0_startAnew_20 hL1 hn hf hw ⟨fun _ => ?_, fun c => absurd (by decide) c⟩
      exact h v3 ⟨⟨w, hr, hwd⟩, k2, k1, k3⟩ k4
    | succ j ih =>
      intro k v3 hk k1 k2 k3 k4
      have hin : vp_in (nI k) 2 := vp_in_nI (by omega) (by omega)
      have hc : (nI k).toNatClampNeg = k := nI_clamp (by omega)
      obtain ⟨⟨q1, q2⟩, q3, q4⟩ := kB k (by omega)
      refine ysg_X0_startAnew_20 hL1 hn hf hw ⟨fun c => absurd c (nI_ge (b := 2) (by omega) (by omega)), fun _ => ⟨hin, fun v4 e4 => ⟨hin, fun v5 e5 => ⟨hin, ?_⟩⟩⟩⟩
      rw [hc] at e4 e5 ⊢
      refine sp_J7_fill q1 (by rw [q2]; decide) (fun g2 h2 => ⟨rfl, rfl, hin, ?_⟩)
      rw [q2] at h2
      refine sp_J7_fill q3 (by rw [q4]; decide) (fun g3 h3 => ⟨rfl, rfl, ?_⟩)
      rw [q4] at h3
      rw [nI_1]
      refine ih (k + 1) _ (by omega) (fun κ hκ => ?_) ?_ (fun q hq => ?_) ?_
      · by_cases z : κ = k
        · subst z
          refine ⟨?_, ?_, fun t ht => ?_, fun i hi => ?_⟩
          · rw [z_uan (by omega), z_uan (by omega), e5, z_un (by omega), e4, z_ue rfl rfl, p_nw_z (by omega) (by omega)]; rfl
          · rw [z_uan (by omega), z_uan (by omega), e5, z_ue rfl rfl, p_nw_z (by omega) (by omega)]; rfl
          · rw [z_uan (by omega), z_uae rfl, h2 t ht, p_nw_z (by omega) (by omega)]; rfl
          · rw [z_uae rfl, h3 i hi, p_nw_1 (by omega)]; rfl
        · obtain ⟨p1, p2, p3, p4⟩ := k1 κ (by omega)
          refine ⟨?_, ?_, fun t ht => ?_, fun i hi => ?_⟩
          · rw [z_uan (by omega), z_uan (by omega), e5, z_un (by omega), e4, z_un (by omega)]; exact p1
          · rw [z_uan (by omega), z_uan (by omega), e5, z_un (by omega), e4, z_un (by omega)]; exact p2
          · rw [z_uan (by omega), z_uan (by omega), e5, z_un (by omega), e4, z_un (by omega)]; exact p3 t ht
          · rw [z_uan (by omega), z_uan (by omega), e5, z_un (by omega), e4, z_un (by omega)]; exact p4 i hi
      · rw [z_uan (by omega), z_uan (by omega), e5, z_un (by omega), e4, z_un (by omega)]; exact k2
      · rw [z_uan (by omega), z_uan (by omega), e5, z_un (by omega), e4, z_un (by omega)]; exact k3 q hq
      · rw [e5, e4]
        exact ((((k4.u (by omega) (by omega)).u (by omega) (by omega)).ua (by omega) (by omega)).ua (by omega) (by omega))
  refine key 2 0 _ rfl (fun κ hκ => by omega) ?_ (fun q hq => ?_) ?_
  · rw [z_uan (by omega), e1, z_ue rfl rfl, p_nw_z (by omega) (by omega)]; rfl
  · rw [z_uae rfl, g1 q hq, p_nw_1 (by omega)]; rfl
  · rw [e1]
    exact (z_fr.rf.u (by omega) (by omega)).ua (by omega) (by omega)
theorem sp_X11_begins (hd : 3 ≤ d) (hL : z_Lk nn S) (hn : 261 ≤ nn) (hD : D = 3 ∨ D = 5)
    (h : ∀ v1, p_M v1 (p_nw D) → p_MT v1 D → (∀ b, b ≠ 223 → b ≠ 224 → (b < 230 ∨ 233 < b) → v1 b = v b) → (∀ j, j ≠ 14 → v1 223 j = v 223 j) → Q none S v1) : z_J G d mX11_begins (0, [.ref 223, .int (nI D), .null], [], S, v) Q := by
  obtain ⟨d, rfl⟩ : ∃ e, d = e + 1 := ⟨d - 1, by omega⟩
  have key : ∀ j k v1, k + j = 71 → (∀ i, 0 < i → i < k → v1 224 i = nI (p_nw D i)) → (∀ b, b ≠ 224 → v1 b = v b) → z_J G (d + 1) mX11_begins (2, [.ref 223, .int (nI D), .int (nI k)], [], S, v1) Q := by
    intro j
    induction j with
    | zero =>
      intro k v1 hk k1 k2
      have hk : k = 71 := by omega
      subst hk
      refine ysg_X11_begins_2 hL hn ⟨fun _ v2 e2 => ?_, fun c => absurd (by decide) c⟩
      refine sp_X11_lays (by omega) hL hn hD (by rw [e2, z_ue rfl rfl]) (fun v3 T3 f3 g3 => ⟨rfl, rfl, ?_⟩)
      refine h v3 (fun i hi => ?_) T3 (fun b b1 b2 b3 => by rw [f3 b b1 b3, e2, z_u_ne b2]; exact k2 b b2) (fun j hj => by rw [g3 j hj, e2, z_u_ne (by omega), k2 223 (by omega)])
      rw [f3 224 (by omega) (by omega), e2]
      by_cases z : i = 0
      · rw [z_ue rfl z, z]; rfl
      · rw [z_un (Or.inr z)]; exact k1 i (by omega) hi
    | succ j ih =>
      intro k v1 hk k1 k2
      have hin : vp_in (nI k) 71 := vp_in_nI (by omega) (by omega)
      refine ysg_X11_begins_2 hL hn ⟨fun c => absurd c (nI_ge (b := 71) (by omega) (by omega)), fun _ => ?_⟩
      rw [nI_clamp (by omega), nI_1]
      have st : ∀ v2 : z_Dat, ∀ x, v2 = z_u v1 224 k x → (0 < k → x = nI (p_nw D k)) → z_J G (d + 1) mX11_begins (2, [.ref 223, .int (nI D), .int (nI (k + 1))], [], S, v2) Q := fun v2 x e2 hx => by
        refine ih (k + 1) v2 (by omega) (fun i i1 i2 => ?_) (fun b hb => by rw [e2, z_u_ne hb]; exact k2 b hb)
        by_cases z : i = k
        · rw [e2, z_ue rfl z, z]; exact hx (by omega)
        · rw [e2, z_un (Or.inr z)]; exact k1 i i1 (by omega)
      refine ⟨fun c => ⟨hin, fun v2 e2 => st v2 _ e2 (fun hk0 => ?_)⟩, fun c => ⟨hin, fun v2 e2 => st v2 _ e2 (fun hk0 => ?_)⟩⟩
      · rw [p_nw_1 ((nI_leI (a := 22) (by omega) (by omega)).mp c)]; rfl
      · rw [p_nw_z hk0 (Nat.not_le.mp (fun z => c (nI_le (a := 22) z (by omega))))]; rfl
  exact sg_X11_begins_0 (key 71 0 v rfl (fun i i1 i2 => by omega) (fun _ _ => rfl))
end AN
