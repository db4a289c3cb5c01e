/-! the reference's lays, by a pairing -/
section L0
variable {G : z_G} {d : Nat} {S : z_Shp} {v v0 : z_Dat} {Q : Option Value → z_Shp → z_Dat → Prop} {ρ : Nat → Nat} {κ : Nat}
theorem m_pk.M {v v1 : z_Dat} {ρ : Nat → Nat} (h : m_pk v v1) (hM : p_M v ρ) : p_M v1 ρ := hM.fr (h.1 224 (by omega))
theorem m_pk.T {v v1 : z_Dat} {D : Nat} (h : m_pk v v1) (hT : p_MT v D) : p_MT v1 D := hT.fr (h.2 14 (by unfold m_pf; omega)) (fun a _ _ => h.1 a (by omega))
theorem sp_X11_lays_26 {x1 x2 : Int32} (hL : z_L S) (hE : n_E ρ ≤ 321) (h31 : v 223 31 = nI (n_E ρ)) (h : ∀ v1, (∀ e, e < n_E ρ → v1 258 e = 0) → (∀ b, b ≠ 258 → v1 b = v b) → z_J G d mX11_lays_ (49, [.ref 223, .int x1, .int x2, .int 0], [], S, v1) Q) : z_J G d mX11_lays_ (26, [.ref 223, .int x1, .int x2, .int 0], [], S, v) Q := by
  have key : ∀ j e v1, e + j = n_E ρ → (∀ e', e' < e → v1 258 e' = 0) → (∀ b, b ≠ 258 → v1 b = v b) → z_J G d mX11_lays_ (26, [.ref 223, .int x1, .int x2, .int (nI e)], [], S, v1) Q := by
    intro j
    induction j with
    | zero =>
      intro e v1 he k1 k2
      have he : e = n_E ρ := by omega
      subst he
      exact sg_X11_lays__26 hL ⟨fun _ => h v1 k1 k2, fun c => absurd (by rw [k2 223 (by omega), h31]; exact nI_le (Nat.le_refl _) (by omega)) c⟩
    | succ j ih =>
      intro e v1 he k1 k2
      refine sg_X11_lays__26 hL ⟨fun c => absurd c (by rw [k2 223 (by omega), h31]; exact nI_ge (by omega) (by omega)), fun _ => ⟨vp_in_nI (by omega) (by omega), fun v2 e2 => ?_⟩⟩
      rw [nI_clamp (by omega)] at e2
      rw [nI_1]
      refine ih (e + 1) v2 (by omega) (fun e' he' => ?_) (fun b hb => by rw [e2, z_u_ne hb]; exact k2 b hb)
      by_cases z : e' = e
      · rw [e2, z_ue rfl z]; rfl
      · rw [e2, z_un (Or.inr z)]; exact k1 e' (by omega)
  exact key (n_E ρ) 0 v (Nat.zero_add _) (fun e' he' => by omega) (fun _ _ => rfl)
theorem sp_X11_lays0 (hd : 8 ≤ d) (hL : z_L S) (hV : p_V ρ) (hM : p_M v ρ) (hT : p_MT v (ρ 0)) (hκ : κ < 2)
    (h1 : ∀ v1, (n_evs ρ κ).length ≤ 14 → (∀ e, e < n_E ρ → v1 258 e = nI (n_tr ρ κ (n_evs ρ κ).length e)) → v1 223 31 = nI (n_E ρ) → m_pk v v1 → Q (some (.int 1)) S v1)
    (h0 : ∀ v1, ¬ (n_evs ρ κ).length ≤ 14 → m_pk v v1 → Q (some (.int 0)) S v1) : z_J G d mX11_lays_ (0, [.ref 223, .int (nI κ), .int 0, .null], [], S, v) Q := by
  obtain ⟨d, rfl⟩ : ∃ e, d = e + 1 := ⟨d - 1, by omega⟩
  have hBn := n_B_le hV.1 hV.2.1
  have hE := n_E_le hV.1 hV.2.1
  refine sg_X11_lays__0 hL ⟨fun c => absurd rfl c, fun _ => sp_X11_pairs (by omega) hL hV hM hT hκ (fun v2 h14 T2 I2 N2 E2 D2 f2 => ⟨_, rfl, rfl, fun _ => ⟨fun _ => ?_, fun c => absurd c (by decide)⟩, fun c => absurd c (by decide)⟩) (fun v2 h14 f2 => ⟨_, rfl, rfl, fun c => absurd rfl c, fun _ => h0 v2 h14 f2.pk⟩)⟩
  refine sp_X11_lays_26 hL hE N2.1.1 (fun v3 z3 k3 => ?_)
  have hlt : ∀ i, i < (n_evs ρ κ).length → (n_evs ρ κ).getD i 0 < n_B ρ := fun i hi => n_evs_lt hi
  have ch : z_J G d mX11_chooses (0, [.ref 223, .null, .null, .null], [], S, v3) (fun r S1 v1 => r = none ∧ S1 = S ∧ (z_J G (d + 1) mX11_lays_ (93, [.ref 223, .int (nI κ), .int 0, .int 0], [], S, v1) Q)) := by
    have I3 : q_In (n_evs ρ κ).length (n_D ρ κ) (n_Bd ρ κ) v3 := by
      unfold q_In; rw [k3 223 (by omega), k3 246 (by omega)]; exact I2
    have T3 : q_Tb (q_P (n_evs ρ κ).length (n_D ρ κ) (n_Bd ρ κ)) v3 (2 ^ (n_evs ρ κ).length) := by
      unfold q_Tb; rw [k3 244 (by omega), k3 245 (by omega)]; exact T2
    refine sp_X11_chooses (by omega) hL h14 I3 T3 (fun v4 m4 k4 => ⟨rfl, rfl, ?_⟩)
    have a4 : ∀ b, b ≠ 247 → b ≠ 258 → v4 b = v2 b := fun b b1 b2 => (k4 b b1).trans (k3 b b2)
    have mm : ∀ i, i < (n_evs ρ κ).length → v4 247 i = n_mt ρ κ i := fun i hi => by rw [m4]; exact n_mt_eq h14 hi
    have key : ∀ j i v5, i + j = (n_evs ρ κ).length → (∀ e, e < n_E ρ → v5 258 e = nI (n_tr ρ κ i e)) → (∀ b, b ≠ 223 → b ≠ 241 → b ≠ 243 → b ≠ 258 → v5 b = v4 b) → (∀ j, j ≠ 36 → v5 223 j = v4 223 j) → z_J G (d + 1) mX11_lays_ (93, [.ref 223, .int (nI κ), .int 0, .int (nI i)], [], S, v5) Q := by
      intro j
      induction j with
      | zero =>
        intro i v5 hi k1 k2 k5
        have hi : i = (n_evs ρ κ).length := by omega
        subst hi
        have e33 : v5 223 33 = nI (n_evs ρ κ).length := by rw [k5 33 (by omega), a4 223 (by omega) (by omega)]; exact I2.1
        refine sg_X11_lays__93 hL ⟨fun _ => h1 v5 h14 k1 ?_ ⟨fun b hb => ?_, fun j hj => ?_⟩, fun c => absurd (by rw [e33]; exact nI_le (Nat.le_refl _) (by omega)) c⟩
        · rw [k5 31 (by omega), a4 223 (by omega) (by omega)]; exact N2.1.1
        · rw [k2 b (by omega) (by omega) (by omega) (by omega), a4 b (by omega) (by omega)]; exact f2.pk.1 b hb
        · have hj2 := hj
          unfold m_pf at hj2
          rw [k5 j (by omega), a4 223 (by omega) (by omega)]; exact f2.pk.2 j hj
      | succ j ih =>
        intro i v5 hi k1 k2 k5
        have hi2 : i < (n_evs ρ κ).length := by omega
        have e33 : v5 223 33 = nI (n_evs ρ κ).length := by rw [k5 33 (by omega), a4 223 (by omega) (by omega)]; exact I2.1
        have e247 : v5 247 i = n_mt ρ κ i := by rw [k2 247 (by omega) (by omega) (by omega) (by omega)]; exact mm i hi2
        have N5 : m_N ρ κ v5 v5 (n_E ρ) := by
          refine ⟨⟨?_, ?_⟩, fun e he => ?_, m_fr.rf⟩
          · rw [k5 31 (by omega), a4 223 (by omega) (by omega)]; exact N2.1.1
          · rw [k5 32 (by omega), a4 223 (by omega) (by omega)]; exact N2.1.2
          · rw [k2 238 (by omega) (by omega) (by omega) (by omega), k2 239 (by omega) (by omega) (by omega) (by omega), k2 240 (by omega) (by omega) (by omega) (by omega), a4 238 (by omega) (by omega), a4 239 (by omega) (by omega), a4 240 (by omega) (by omega)]
            exact N2.2.1 e he
        have e242 : ∀ v6 : z_Dat, v6 242 = v5 242 → ∀ i, i < (n_evs ρ κ).length → v6 242 i = nI ((n_evs ρ κ).getD i 0) := fun v6 q i hi => by
          rw [q, k2 242 (by omega) (by omega) (by omega) (by omega), a4 242 (by omega) (by omega)]; exact E2.2 i hi
        have E5 : m_Ev ρ κ v5 (n_B ρ) := ⟨e33, e242 v5 rfl⟩
        have hin : vp_in (nI i) 14 := vp_in_nI (by omega) (by omega)
        have hin8 : vp_in (nI i) 108 := vp_in_nI (by omega) (by omega)
        have hs2 := hlt i hi2
        have go : ∀ (x3 : Int32) (T : Nat), ((x3 = -1 ∧ T = n_B ρ) ∨ ∃ j, x3 = nI j ∧ j < (n_evs ρ κ).length ∧ T = (n_evs ρ κ).getD j 0) → n_tr ρ κ (i + 1) = u_f (n_wy ρ κ T 120 ((n_evs ρ κ).getD i 0)) (n_tr ρ κ i) (n_wy ρ κ T 120 ((n_evs ρ κ).getD i 0)).length →
            z_J G d mX11_aims (0, [.ref 223, .int x3], [], S, v5) (fun r S1 v1 => r = none ∧ S1 = S ∧ ((vp_in (nI i) 108) ∧ (z_J G d mX11_laysWay (0, [.ref 223, .int (v1 242 (nI i).toNatClampNeg), .null, .null], [], S, v1) (fun r S1 v2 => r = none ∧ S1 = S ∧ (z_J G d mX11_goesWay (0, [.ref 223, .null], [], S, v2) (fun r S1 v3 => r = none ∧ S1 = S ∧ (z_J G (d + 1) mX11_lays_ (93, [.ref 223, .int (nI κ), .int 0, .int (nI i + 1)], [], S, v3) Q))))))) := by
          intro x3 T ho hn
          have hTB : T ≤ n_B ρ := by
            rcases ho with ⟨_, e⟩ | ⟨j, _, hj, e⟩
            · omega
            · have := hlt j hj; omega
          refine sp_X11_aims2 (by omega) hL hV hκ ho N5 E5 (fun v6 d6 k6 is6 => ⟨rfl, rfl, hin8, ?_⟩)
          rw [nI_clamp (by omega), e242 v6 (k6 242 (by omega)) i hi2, nI_1]
          have R6 : m_R ρ κ v6 := fun e he => by
            rw [k6 238 (by omega), k6 239 (by omega), k6 240 (by omega)]; exact N5.2.1 e he
          refine sp_X11_laysWay (by omega) hL hV hκ R6 hTB is6 d6 (Or.inl hs2) (fun v7 p1 p2 p3 p4 p5 => ⟨rfl, rfl, ?_⟩)
          refine sp_X11_goesWay (E := n_E ρ) (g := n_tr ρ κ i) hL p1 p2 p5 (n_wy_lt hV hκ is6 120 _ (Or.inl hs2)) hE (n_tr_le i) (fun e he => by rw [p3 258 (by omega) (by omega), k6 258 (by omega)]; exact k1 e he) (fun v8 q1 q2 => ⟨rfl, rfl, ?_⟩)
          refine ih (i + 1) v8 (by omega) (fun e he => by rw [hn]; exact q1 e he) (fun b b1 b2 b3 b4 => ?_) (fun j hj => ?_)
          · rw [q2 b b4, p3 b b1 b3, k6 b b2]; exact k2 b b1 b2 b3 b4
          · rw [q2 223 (by omega), p4 j hj, k6 223 (by omega)]; exact k5 j hj
        refine sg_X11_lays__93 hL ⟨fun c => absurd c (by rw [e33]; exact nI_ge (by omega) (by omega)), fun _ => ?_⟩
        rw [nI_clamp (n := i) (by omega), e247]
        refine ⟨hin, fun c => ⟨hin, fun c2 => absurd c (Int32.not_lt.mpr c2), fun c2 => ?_⟩, fun c => ⟨hin, fun c2 => ⟨hin, fun c3 => ⟨hin, ?_⟩, fun c3 => absurd (Int32.not_lt.mp c) c3⟩, fun c2 => ?_⟩⟩
        · have m2 : n_mt ρ κ i = -2 := by
            rcases n_mt_rg h14 hi2 with q | ⟨j', j1, j2, j3⟩
            · exact q
            · rw [j3] at c; exact absurd c (nI_pos (by omega))
          have := go (-1) (n_B ρ) (Or.inl ⟨rfl, rfl⟩) (by rw [n_tr, if_pos m2])
          rw [nI_clamp (n := i) (by omega)] at this
          exact this
        · have m2 : ¬ n_mt ρ κ i = -2 := fun q => by rw [q] at c; exact absurd (by decide) c
          obtain ⟨j', j1, j2, j3⟩ := (n_mt_rg h14 hi2).resolve_left m2
          rw [j3] at c2
          have c2 := (nI_leI (by omega) (by omega)).mp c2
          have := go (n_mt ρ κ i) ((n_evs ρ κ).getD j' 0) (Or.inr ⟨j', j3, j1, rfl⟩) (by rw [n_tr, if_neg m2, if_neg (by rw [j3, nI_clamp (by omega)]; omega), j3, nI_clamp (by omega)])
          rw [nI_clamp (n := i) (by omega)] at this
          exact this
        · have m2 : ¬ n_mt ρ κ i = -2 := fun q => by rw [q] at c; exact absurd (by decide) c
          obtain ⟨j', j1, j2, j3⟩ := (n_mt_rg h14 hi2).resolve_left m2
          have c3 : j' ≤ i := by
            rcases Nat.lt_or_ge i j' with q | q
            · rw [j3] at c2; exact absurd (nI_le (Nat.le_of_lt q) (by omega)) c2
            · exact q
          rw [nI_1]
          refine ih (i + 1) v5 (by omega) (fun e he => ?_) k2 k5
          rw [n_tr, if_neg m2, if_pos (by rw [j3, nI_clamp (by omega)]; exact c3)]
          exact k1 e he
    exact key _ 0 v4 (Nat.zero_add _) (fun e he => by rw [k4 258 (by omega), z3 e he]; rfl) (fun _ _ _ _ _ => rfl) (fun _ _ => rfl)
  exact sg_X11_lays__49 hL ⟨fun _ => ⟨fun _ => ch, fun c => absurd c (by decide)⟩, fun _ => ⟨fun _ => ⟨fun _ => ch, fun c => absurd c (by decide)⟩, fun c => absurd c (by decide)⟩⟩
end L0
