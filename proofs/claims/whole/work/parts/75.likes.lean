/-! THE REFERENCE'S LIKES; like, fewest, distance of both sides -/
section LM
variable {G : z_G} {d : Nat} {S : z_Shp} {v v0 : z_Dat} {Q : Option Value → z_Shp → z_Dat → Prop} {ρ : Nat → Nat} {κ : Nat}
theorem sp_X11_weightOf {a : Nat} (hd : 1 ≤ d) (hL : z_L S) (hV : p_V ρ) (hM : p_M v ρ) (ha : a < 2 ^ (ρ 0 * ρ 0)) (h : Q (some (.int (nI (y_w ρ a)))) S v) : z_J G d mX11_weightOf (0, [.ref 223, .int (nI a), .null, .null], [], S, v) Q := by
  obtain ⟨d, rfl⟩ : ∃ e, d = e + 1 := ⟨d - 1, by omega⟩
  have hd25 : ρ 0 * ρ 0 ≤ 25 := by rcases hV.1 with e | e <;> rw [e] <;> decide
  have hp25 : 2 ^ (ρ 0 * ρ 0) ≤ 2 ^ 25 := Nat.pow_le_pow_right (by omega) hd25
  have e25 : y_w ρ a = y_wt (fun q => ρ (22 + q)) a (ρ 0 * ρ 0) := by
    have := y_wt_s (w := fun q => ρ (22 + q)) ha (25 - ρ 0 * ρ 0)
    rw [show ρ 0 * ρ 0 + (25 - ρ 0 * ρ 0) = 25 by omega] at this
    exact this
  rw [e25] at h
  have e0 : v 224 0 * v 224 0 = nI (ρ 0 * ρ 0) := by rw [hM 0 (by omega), pk_mul]
  have key : ∀ j q, q + j = ρ 0 * ρ 0 → z_J G (d + 1) mX11_weightOf (4, [.ref 223, .int (nI a), .int (nI (y_wt (fun q => ρ (22 + q)) a q)), .int (nI q)], [], S, v) Q := by
    intro j
    induction j with
    | zero =>
      intro q hq
      have hq : q = ρ 0 * ρ 0 := by omega
      subst hq
      exact sg_X11_weightOf_4 hL ⟨fun _ => h, fun c => absurd (by rw [e0]; exact nI_le (Nat.le_refl _) (by omega)) c⟩
    | succ j ih =>
      intro q hq
      have nx := ih (q + 1) (by omega)
      rw [y_wt] at nx
      refine sg_X11_weightOf_4 hL ⟨fun c => absurd c (by rw [e0]; exact nI_ge (by omega) (by omega)), fun _ => ?_⟩
      rw [zb_bit (by omega) (by omega), show (22 : Int32) = nI 22 from rfl, nI_add, nI_clamp (by omega), hM (22 + q) (by omega), nI_1]
      refine ⟨fun c => ⟨vp_in_nI (by omega) (by omega), ?_⟩, fun c => ?_⟩
      · have c := (nI_eq (b := 1) (by omega) (by omega)).mp c
        rw [if_pos c] at nx
        rw [nI_add]; exact nx
      · rw [if_neg (fun z => c (by rw [z]; rfl))] at nx
        rw [Int32.add_zero]; exact nx
  exact sg_X11_weightOf_0 (key _ 0 (Nat.zero_add _))
theorem sp_X11_chainOf (hd : 2 ≤ d) (hL : z_L S) (h0 : v 224 0 = nI (ρ 0)) (h35 : ρ 0 = 3 ∨ ρ 0 = 5) (hκ : κ < 2) (h : Q (some (.int (nI (t_lb (ρ 0) (1 - κ))))) S v) : z_J G d mX11_chainOf (0, [.ref 223, .int (nI κ)], [], S, v) Q := by
  obtain ⟨d, rfl⟩ : ∃ e, d = e + 1 := ⟨d - 1, by omega⟩
  refine sg_X11_chainOf_0 hL ⟨fun c => ?_, fun c => ?_⟩
  · have hk : κ = 0 := by
      rcases (show κ = 0 ∨ κ = 1 by omega) with z | z
      · exact z
      · rw [z] at c; exact absurd rfl c
    rw [hk] at h
    exact sp_X11_rowOrColumn (r := 0) (by omega) hL h0 h35 (by omega) ⟨_, rfl, rfl, h⟩
  · have hk : κ = 1 := (nI_eq (b := 1) (by omega) (by omega)).mp c
    rw [hk] at h
    exact sp_X11_rowOrColumn (r := 1) (by omega) hL h0 h35 (by omega) ⟨_, rfl, rfl, h⟩
/-- what likes leaves: only its own numbers change -/
def m_fk (v v1 : z_Dat) : Prop := (∀ b, b ≠ 223 → b ≠ 259 → v1 b = v b) ∧ ∀ j, j ≠ 59 → j ≠ 60 → j ≠ 61 → v1 223 j = v 223 j
theorem m_fk.tr {v v1 v2 : z_Dat} (h1 : m_fk v v1) (h2 : m_fk v1 v2) : m_fk v v2 := ⟨fun b a1 a2 => (h2.1 b a1 a2).trans (h1.1 b a1 a2), fun j a1 a2 a3 => (h2.2 j a1 a2 a3).trans (h1.2 j a1 a2 a3)⟩
theorem m_fk.pk {v v1 : z_Dat} (h : m_fk v v1) : m_pk v v1 := ⟨fun b hb => h.1 b (by omega) (by omega), fun j hj => by unfold m_pf at hj; exact h.2 j (by omega) (by omega) (by omega)⟩
theorem m_fk.u {v : z_Dat} {j : Nat} {x : Int32} (hj : 59 ≤ j ∧ j ≤ 61) : m_fk v (z_u v 223 j x) := ⟨fun b b1 _ => by rw [z_u_ne b1], fun i a1 a2 a3 => by rw [z_un (by omega)]⟩
theorem m_fk.c {v : z_Dat} {j : Nat} {x : Int32} : m_fk v (z_u v 259 j x) := ⟨fun b _ b2 => by rw [z_u_ne b2], fun i _ _ _ => by rw [z_u_ne (by omega)]⟩
theorem sp_X11_likes {s wc : Nat} (hd : 3 ≤ d) (hL : z_L S) (hV : p_V ρ) (hM : p_M v ρ) (hT : p_MT v (ρ 0)) (hκ : κ < 2) (hs : s < 2 ^ (ρ 0 * ρ 0)) (hwc : wc < 2)
    (h : ∀ v1, (∀ l z, l < 2 → z < 26 → v1 259 (26 * l + z) = nI (y_ct (fun n => 26 * p_lg (ρ 0) κ (y_s (y_f (ρ 0) κ) s n) + p_pc (y_s (y_f (ρ 0) κ) s n)) (26 * l + z) (2 ^ (t_K (ρ 0) + wc)))) → v1 223 60 = nI (y_fm ρ (fun n => y_s (y_f (ρ 0) κ) s n) s (2 ^ (t_K (ρ 0) + wc))) → v1 223 61 = nI (y_w ρ (y_fm ρ (fun n => y_s (y_f (ρ 0) κ) s n) s (2 ^ (t_K (ρ 0) + wc)))) → m_fk v v1 → Q none S v1) : z_J G d mX11_likes (0, [.ref 223, .int (nI κ), .int (nI s), .int (nI wc), .null, .null, .null], [], S, v) Q := by
  obtain ⟨d, rfl⟩ : ∃ e, d = e + 1 := ⟨d - 1, by omega⟩
  have hd25 : ρ 0 * ρ 0 ≤ 25 := by rcases hV.1 with e | e <;> rw [e] <;> decide
  have hp25 : 2 ^ (ρ 0 * ρ 0) ≤ 2 ^ 25 := Nat.pow_le_pow_right (by omega) hd25
  have hK := t_Kle hV.1
  generalize hMany : t_K (ρ 0) + wc = M at h
  have hM13 : M ≤ 13 := by omega
  have h2M : 2 ^ M ≤ 8192 := Nat.pow_le_pow_right (n := 2) (by omega) hM13
  have h2M1 : 2 ^ M ≤ 2 ^ (t_K (ρ 0) + 1) := Nat.pow_le_pow_right (by omega) (by omega)
  have h2p : 0 < 2 ^ M := Nat.pow_pos (by omega)
  have hsl : ∀ n, n < 2 ^ M → y_s (y_f (ρ 0) κ) s n < 2 ^ (ρ 0 * ρ 0) := fun n hn => y_s_lt hV.1 hκ hs n (by omega)
  have hpc : ∀ n, n < 2 ^ M → p_pc (y_s (y_f (ρ 0) κ) s n) ≤ 25 := fun n hn => Nat.le_trans (p_pc_lt (hsl n hn) (by omega)) hd25
  have hfl : ∀ n, n ≤ 2 ^ M → y_fm ρ (fun n => y_s (y_f (ρ 0) κ) s n) s n < 2 ^ (ρ 0 * ρ 0) := fun n hn => by
    rcases (y_fm_ok (ρ := ρ) (g := fun n => y_s (y_f (ρ 0) κ) s n) (b := s) n).2.2 with e | ⟨i, hi, e⟩
    · rw [e]; exact hs
    · rw [e]; exact hsl i (by omega)
  have key : ∀ j n v1, n + j = 2 ^ M → v1 223 59 = nI (y_s (y_f (ρ 0) κ) s (n - 1)) → (∀ l z, l < 2 → z < 26 → v1 259 (26 * l + z) = nI (y_ct (fun n => 26 * p_lg (ρ 0) κ (y_s (y_f (ρ 0) κ) s n) + p_pc (y_s (y_f (ρ 0) κ) s n)) (26 * l + z) n)) → v1 223 60 = nI (y_fm ρ (fun n => y_s (y_f (ρ 0) κ) s n) s n) → v1 223 61 = nI (y_w ρ (y_fm ρ (fun n => y_s (y_f (ρ 0) κ) s n) s n)) → m_fk v v1 → z_J G (d + 1) mX11_likes (62, [.ref 223, .int (nI κ), .int (nI s), .int (nI wc), .int (nI M), .int (nI n), .null], [], S, v1) Q := by
    intro j
    induction j with
    | zero =>
      intro n v1 hn k1 k2 k3 k4 k5
      have hn : n = 2 ^ M := by omega
      subst hn
      refine sg_X11_likes_62 hL ⟨fun _ => h v1 k2 k3 k4 k5, fun c => absurd ?_ c⟩
      rw [zb_1 (by omega)]; exact nI_le (Nat.le_refl _) (by omega)
    | succ j ih =>
      intro n v1 hn k1 k2 k3 k4 k5
      have hn2 : n < 2 ^ M := by omega
      have hsn := hsl n hn2
      have hpn := hpc n hn2
      have hlg := y_lg_lt (ρ 0) κ (y_s (y_f (ρ 0) κ) s n)
      have hbf := hfl n (by omega)
      have hwb := y_w_le hV (y_fm ρ (fun n => y_s (y_f (ρ 0) κ) s n) s n)
      have hws := y_w_le hV (y_s (y_f (ρ 0) κ) s n)
      have nx := ih (n + 1)
      rw [Nat.add_sub_cancel, y_fm] at nx
      have hct : ∀ c, y_ct (fun n => 26 * p_lg (ρ 0) κ (y_s (y_f (ρ 0) κ) s n) + p_pc (y_s (y_f (ρ 0) κ) s n)) c (n + 1) = y_ct (fun n => 26 * p_lg (ρ 0) κ (y_s (y_f (ρ 0) κ) s n) + p_pc (y_s (y_f (ρ 0) κ) s n)) c n + (if 26 * p_lg (ρ 0) κ (y_s (y_f (ρ 0) κ) s n) + p_pc (y_s (y_f (ρ 0) κ) s n) = c then 1 else 0) := fun c => rfl
      have tail : ∀ v1 : z_Dat, v1 223 59 = nI (y_s (y_f (ρ 0) κ) s n) → (∀ l z, l < 2 → z < 26 → v1 259 (26 * l + z) = nI (y_ct (fun n => 26 * p_lg (ρ 0) κ (y_s (y_f (ρ 0) κ) s n) + p_pc (y_s (y_f (ρ 0) κ) s n)) (26 * l + z) n)) → v1 223 60 = nI (y_fm ρ (fun n => y_s (y_f (ρ 0) κ) s n) s n) → v1 223 61 = nI (y_w ρ (y_fm ρ (fun n => y_s (y_f (ρ 0) κ) s n) s n)) → m_fk v v1 →
          z_J G d mX11_logical (0, [.ref 223, .int (nI κ), .int (v1 223 59)], [], S, v1) (fun r S1 v1 => ∃ y1 : Int32, r = some (.int y1) ∧ S1 = S ∧ ((vp_in (((26 : Int32) * y1) + (z_pc (v1 223 59))) 52) ∧ (vp_in (((26 : Int32) * y1) + (z_pc (v1 223 59))) 52 ∧ (∀ v2, v2 = z_u v1 259 (((26 : Int32) * y1) + (z_pc (v1 223 59))).toNatClampNeg ((v1 259 (((26 : Int32) * y1) + (z_pc (v1 223 59))).toNatClampNeg) + 1) → (z_J G d mX11_weightOf (0, [.ref 223, .int (v2 223 59), .null, .null], [], S, v2) (fun r S1 v3 => ∃ y2 : Int32, r = some (.int y2) ∧ S1 = S ∧ (((v3 223 61) < y2 → (z_J G (d + 1) mX11_likes (62, [.ref 223, .int (nI κ), .int (nI s), .int (nI wc), .int (nI M), .int (nI n + 1), .null], [], S, v3) Q)) ∧ (¬ (v3 223 61) < y2 → ((¬ y2 = (v3 223 61) → (∀ v4, v4 = z_u v3 223 61 y2 → (∀ v5, v5 = z_u v4 223 60 (v4 223 59) → (z_J G (d + 1) mX11_likes (62, [.ref 223, .int (nI κ), .int (nI s), .int (nI wc), .int (nI M), .int (nI n + 1), .null], [], S, v5) Q)))) ∧ (y2 = (v3 223 61) → (((v3 223 59) ≤ (v3 223 60) → (∀ v6, v6 = z_u v3 223 61 y2 → (∀ v7, v7 = z_u v6 223 60 (v6 223 59) → (z_J G (d + 1) mX11_likes (62, [.ref 223, .int (nI κ), .int (nI s), .int (nI wc), .int (nI M), .int (nI n + 1), .null], [], S, v7) Q)))) ∧ (¬ (v3 223 59) ≤ (v3 223 60) → (z_J G (d + 1) mX11_likes (62, [.ref 223, .int (nI κ), .int (nI s), .int (nI wc), .int (nI M), .int (nI n + 1), .null], [], S, v3) Q))))))))))))) := by
        intro v1 t1 t2 t3 t4 t5
        have hM1 : p_M v1 ρ := hM.fr (t5.1 224 (by omega) (by omega))
        rw [t1]
        refine sp_X11_logical (by omega) hL (hM1 0 (by omega)) hV.1 hκ ⟨_, rfl, rfl, ?_⟩
        have ec := t2 (p_lg (ρ 0) κ (y_s (y_f (ρ 0) κ) s n)) (p_pc (y_s (y_f (ρ 0) κ) s n)) hlg (by omega)
        rw [t1, p_pc_nI (by omega), show (26 : Int32) = nI 26 from rfl, pk_mul, nI_add, nI_clamp (by omega), ec, nI_1, nI_1]
        have hin : vp_in (nI (26 * p_lg (ρ 0) κ (y_s (y_f (ρ 0) κ) s n) + p_pc (y_s (y_f (ρ 0) κ) s n))) 52 := vp_in_nI (by omega) (by omega)
        refine ⟨hin, hin, fun v2 e2 => ?_⟩
        have w2 : v2 223 = v1 223 := by rw [e2, z_u_ne (by omega)]
        have g2 : m_fk v v2 := t5.tr (by rw [e2]; exact m_fk.c)
        have c2 : ∀ l z, l < 2 → z < 26 → v2 259 (26 * l + z) = nI (y_ct (fun n => 26 * p_lg (ρ 0) κ (y_s (y_f (ρ 0) κ) s n) + p_pc (y_s (y_f (ρ 0) κ) s n)) (26 * l + z) (n + 1)) := fun l z hl hz => by
          rw [hct, e2]
          by_cases c : 26 * l + z = 26 * p_lg (ρ 0) κ (y_s (y_f (ρ 0) κ) s n) + p_pc (y_s (y_f (ρ 0) κ) s n)
          · rw [z_ue rfl c, if_pos c.symm, c]
          · rw [z_un (Or.inr c), if_neg (fun q => c q.symm), Nat.add_zero]; exact t2 l z hl hz
        rw [w2, t1]
        refine sp_X11_weightOf (by omega) hL hV (hM.fr (g2.1 224 (by omega) (by omega))) hsn ⟨_, rfl, rfl, ?_⟩
        rw [w2, t4, t1, t3]
        have em : y_mi ρ (y_fm ρ (fun n => y_s (y_f (ρ 0) κ) s n) s n) (y_s (y_f (ρ 0) κ) s n) = if y_w ρ (y_s (y_f (ρ 0) κ) s n) < y_w ρ (y_fm ρ (fun n => y_s (y_f (ρ 0) κ) s n) s n) ∨ (y_w ρ (y_s (y_f (ρ 0) κ) s n) = y_w ρ (y_fm ρ (fun n => y_s (y_f (ρ 0) κ) s n) s n) ∧ y_s (y_f (ρ 0) κ) s n < y_fm ρ (fun n => y_s (y_f (ρ 0) κ) s n) s n) then y_s (y_f (ρ 0) κ) s n else y_fm ρ (fun n => y_s (y_f (ρ 0) κ) s n) s n := rfl
        have stay : y_mi ρ (y_fm ρ (fun n => y_s (y_f (ρ 0) κ) s n) s n) (y_s (y_f (ρ 0) κ) s n) = y_fm ρ (fun n => y_s (y_f (ρ 0) κ) s n) s n → z_J G (d + 1) mX11_likes (62, [.ref 223, .int (nI κ), .int (nI s), .int (nI wc), .int (nI M), .int (nI (n + 1)), .null], [], S, v2) Q := fun e => by
          rw [e] at nx
          exact nx v2 (by omega) (by rw [w2]; exact t1) c2 (by rw [w2]; exact t3) (by rw [w2]; exact t4) g2
        have take : y_mi ρ (y_fm ρ (fun n => y_s (y_f (ρ 0) κ) s n) s n) (y_s (y_f (ρ 0) κ) s n) = y_s (y_f (ρ 0) κ) s n → ∀ v4 v5 : z_Dat, v4 = z_u v2 223 61 (nI (y_w ρ (y_s (y_f (ρ 0) κ) s n))) → v5 = z_u v4 223 60 (v4 223 59) → z_J G (d + 1) mX11_likes (62, [.ref 223, .int (nI κ), .int (nI s), .int (nI wc), .int (nI M), .int (nI (n + 1)), .null], [], S, v5) Q := fun e v4 v5 e4 e5 => by
          rw [e] at nx
          have q59 : v4 223 59 = nI (y_s (y_f (ρ 0) κ) s n) := by rw [e4, z_un (by omega), w2]; exact t1
          rw [q59] at e5
          refine nx v5 (by omega) (by rw [e5, z_un (by omega)]; exact q59) (fun l z hl hz => by rw [e5, z_u_ne (by omega), e4, z_u_ne (by omega)]; exact c2 l z hl hz) (by rw [e5, z_ue rfl rfl]) (by rw [e5, z_un (by omega), e4, z_ue rfl rfl]) (g2.tr ?_)
          rw [e5, e4]; exact (m_fk.u (by omega)).tr (m_fk.u (by omega))
        refine ⟨fun q => stay ?_, fun q => ⟨fun q2 v4 e4 v5 e5 => take ?_ v4 v5 e4 e5, fun q2 => ⟨fun q3 v6 e6 v7 e7 => take ?_ v6 v7 e6 e7, fun q3 => stay ?_⟩⟩⟩
        · have q := (nI_ltI (by omega) (by omega)).mp q
          rw [em, if_neg (by omega)]
        · have q : ¬ y_w ρ (y_fm ρ (fun n => y_s (y_f (ρ 0) κ) s n) s n) < y_w ρ (y_s (y_f (ρ 0) κ) s n) := fun z => q (nI_lt z (by omega))
          have q2 : ¬ y_w ρ (y_s (y_f (ρ 0) κ) s n) = y_w ρ (y_fm ρ (fun n => y_s (y_f (ρ 0) κ) s n) s n) := fun z => q2 (by rw [z])
          rw [em, if_pos (Or.inl (by omega))]
        · have q2 := (nI_eq (by omega) (by omega)).mp q2
          have q3 := (nI_leI (by omega) (by omega)).mp q3
          rw [em]
          by_cases z : y_s (y_f (ρ 0) κ) s n < y_fm ρ (fun n => y_s (y_f (ρ 0) κ) s n) s n
          · rw [if_pos (Or.inr ⟨q2, z⟩)]
          · rw [if_neg (by omega)]; omega
        · have q2 := (nI_eq (by omega) (by omega)).mp q2
          have q3 : ¬ y_s (y_f (ρ 0) κ) s n ≤ y_fm ρ (fun n => y_s (y_f (ρ 0) κ) s n) s n := fun z => q3 (nI_le z (by omega))
          rw [em, if_neg (by omega)]
      refine sg_X11_likes_62 hL ⟨fun c => absurd c (by rw [zb_1 (by omega)]; exact nI_ge (by omega) (by omega)), fun _ => ⟨fun c => ?_, fun c => ?_⟩⟩
      · have c := (nI_leI (b := 0) (by omega) (by omega)).mp c
        have hn0 : n = 0 := by omega
        refine tail v1 ?_ k2 k3 k4 k5
        rw [k1, hn0]
      · have hn0 : 0 < n := Nat.pos_of_ne_zero (fun z => c (by rw [z]; decide))
        have hlo := y_lo_lt hn0 hn2 hM13
        have e14 : v1 223 14 = nI (t_K (ρ 0)) := by rw [k5.2 14 (by omega) (by omega) (by omega)]; exact hT.1
        have es : y_s (y_f (ρ 0) κ) s (n - 1) ^^^ y_f (ρ 0) κ (q_lo n) = y_s (y_f (ρ 0) κ) s n := by
          obtain ⟨p, rfl⟩ : ∃ p, n = p + 1 := ⟨n - 1, by omega⟩
          rw [Nat.add_sub_cancel, y_s]
        refine sp_X11_lowest (by omega) hn0 (by omega) ⟨_, rfl, rfl, ?_⟩
        rw [e14, k1]
        have next : ∀ v9 : z_Dat, v9 = z_u v1 223 59 (nI (y_s (y_f (ρ 0) κ) s (n - 1)) ^^^ nI (y_f (ρ 0) κ (q_lo n))) → v9 223 59 = nI (y_s (y_f (ρ 0) κ) s n) ∧ (∀ l z, l < 2 → z < 26 → v9 259 (26 * l + z) = nI (y_ct (fun n => 26 * p_lg (ρ 0) κ (y_s (y_f (ρ 0) κ) s n) + p_pc (y_s (y_f (ρ 0) κ) s n)) (26 * l + z) n)) ∧ v9 223 60 = nI (y_fm ρ (fun n => y_s (y_f (ρ 0) κ) s n) s n) ∧ v9 223 61 = nI (y_w ρ (y_fm ρ (fun n => y_s (y_f (ρ 0) κ) s n) s n)) ∧ m_fk v v9 := fun v9 e9 => by
          rw [nx_xor, es] at e9
          exact ⟨by rw [e9, z_ue rfl rfl], fun l z hl hz => by rw [e9, z_u_ne (by omega)]; exact k2 l z hl hz, by rw [e9, z_un (by omega)]; exact k3, by rw [e9, z_un (by omega)]; exact k4, k5.tr (by rw [e9]; exact m_fk.u (by omega))⟩
        refine ⟨fun c2 => ?_, fun c2 => ?_⟩
        · have c2 : ¬ q_lo n = t_K (ρ 0) := fun z => c2 (by rw [z])
          have ef : y_f (ρ 0) κ (q_lo n) = t_fb (ρ 0) (1 - κ) (q_lo n) := if_neg c2
          have e232 : v1 232 (12 * (1 - κ) + q_lo n) = nI (y_f (ρ 0) κ (q_lo n)) := by
            rw [k5.1 232 (by omega) (by omega), ef]
            exact ((hT.2 (1 - κ) (by omega)).1 (q_lo n) (by omega)).2.2
          rw [nI_1m hκ, nI_12, nI_clamp (by omega), e232]
          refine ⟨vp_in_nI (by omega) (by omega), fun v9 e9 => ?_⟩
          obtain ⟨a1, a2, a3, a4, a5⟩ := next v9 e9
          exact tail v9 a1 a2 a3 a4 a5
        · have c2 := (nI_eq (by omega) (by omega)).mp c2
          have ef : y_f (ρ 0) κ (q_lo n) = t_lb (ρ 0) (1 - κ) := if_pos c2
          have hM1 : p_M v1 ρ := hM.fr (k5.1 224 (by omega) (by omega))
          refine sp_X11_chainOf (by omega) hL (hM1 0 (by omega)) hV.1 hκ ⟨_, rfl, rfl, fun v9 e9 => ?_⟩
          rw [← ef] at e9
          obtain ⟨a1, a2, a3, a4, a5⟩ := next v9 e9
          exact tail v9 a1 a2 a3 a4 a5
  have clear0 : ∀ j k v1, k + j = 52 → (∀ i, i < k → v1 259 i = 0) → (∀ b, b ≠ 259 → v1 b = v b) → z_J G (d + 1) mX11_likes (3, [.ref 223, .int (nI κ), .int (nI s), .int (nI wc), .int (nI k), .null, .null], [], S, v1) Q := by
    intro j
    induction j with
    | zero =>
      intro k v1 hk k1 k2
      have hk : k = 52 := by omega
      subst hk
      have go : ∀ v2 v3 : z_Dat, v2 = z_u v1 223 59 (nI s) → v3 = z_u v2 223 60 (nI s) → ∀ x4, x4 = nI M → z_J G d mX11_weightOf (0, [.ref 223, .int (nI s), .null, .null], [], S, v3) (fun r S1 v3 => ∃ y1 : Int32, r = some (.int y1) ∧ S1 = S ∧ (∀ v4, v4 = z_u v3 223 61 y1 → (z_J G (d + 1) mX11_likes (62, [.ref 223, .int (nI κ), .int (nI s), .int (nI wc), .int x4, .int 0, .null], [], S, v4) Q))) := by
        intro v2 v3 e2 e3 x4 hx4
        have w3 : ∀ b, b ≠ 223 → v3 b = v1 b := fun b hb => by rw [e3, z_u_ne hb, e2, z_u_ne hb]
        refine sp_X11_weightOf (by omega) hL hV (hM.fr (by rw [w3 224 (by omega), k2 224 (by omega)])) hs ⟨_, rfl, rfl, fun v4 e4 => ?_⟩
        rw [hx4]
        have gv : m_fk v v1 := ⟨fun b _ b2 => k2 b b2, fun j _ _ _ => by rw [k2 223 (by omega)]⟩
        refine key (2 ^ M) 0 v4 (Nat.zero_add _) ?_ (fun l z hl hz => ?_) ?_ ?_ (gv.tr ?_)
        · rw [e4, z_un (by omega), e3, z_un (by omega), e2, z_ue rfl rfl]; rfl
        · rw [e4, z_u_ne (by omega), w3 259 (by omega), k1 _ (by omega)]; rfl
        · rw [e4, z_un (by omega), e3, z_ue rfl rfl]; rfl
        · rw [e4, z_ue rfl rfl]; rfl
        · rw [e4, e3, e2]; exact (m_fk.u (by omega)).tr ((m_fk.u (by omega)).tr (m_fk.u (by omega)))
      refine sg_X11_likes_3 hL ⟨fun _ => ?_, fun c => absurd (by decide) c⟩
      rw [show v1 223 14 = nI (t_K (ρ 0)) by rw [k2 223 (by omega)]; exact hT.1]
      refine ⟨fun c v2 e2 v3 e3 => go v2 v3 e2 e3 _ ?_, fun c v2 e2 v3 e3 => go v2 v3 e2 e3 _ ?_⟩
      · have c := (nI_eq (b := 0) (by omega) (by omega)).mp c
        rw [Int32.add_zero, ← hMany, c]; rfl
      · have c : wc = 1 := by
          rcases (show wc = 0 ∨ wc = 1 by omega) with z | z
          · rw [z] at c; exact absurd rfl c
          · exact z
        rw [nI_1, ← hMany, c]
    | succ j ih =>
      intro k v1 hk k1 k2
      refine sg_X11_likes_3 hL ⟨fun c => absurd c (nI_ge (b := 52) (by omega) (by omega)), fun _ => ⟨vp_in_nI (by omega) (by omega), fun v2 e2 => ?_⟩⟩
      rw [nI_clamp (by omega)] at e2
      rw [nI_1]
      refine ih (k + 1) v2 (by omega) (fun i hi => ?_) (fun b hb => by rw [e2, z_u_ne hb]; exact k2 b hb)
      by_cases z : i = k
      · rw [e2, z_ue rfl z]
      · rw [e2, z_un (Or.inr z)]; exact k1 i (by omega)
  exact sg_X11_likes_0 (clear0 52 0 v (Nat.zero_add _) (fun i hi => by omega) (fun _ _ => rfl))
end LM
