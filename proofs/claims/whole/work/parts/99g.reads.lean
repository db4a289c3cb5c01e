/-! the reference's reads -/
def pz_mV (v : z_Dat) (U : pz_U) : Prop := v 223 17 = nI U.2.1 ∧ v 223 18 = nI U.2.2.1 ∧ (∀ t, t < U.2.2.1 → v 235 t = nI (U.2.2.2.1 t)) ∧ (∀ i, i < U.2.1 → pz_mr v i (U.2.2.2.2.1 i)) ∧ ∀ i, i < U.2.1 → (U.2.2.2.2.1 i).1 = 7 → (∀ t, t < U.2.2.1 → ¬ U.2.2.2.1 t = i) → v 234 (4 * i + 2) = nI (U.2.2.2.2.2 i)
theorem pz_mV.fr {v v1 : z_Dat} {U : pz_U} (h : pz_mV v U) (h1 : v1 223 17 = v 223 17) (h2 : v1 223 18 = v 223 18) (h3 : v1 235 = v 235) (h4 : v1 234 = v 234) : pz_mV v1 U := by
  unfold pz_mV pz_mr m_sp at h ⊢
  rw [h1, h2, h3, h4]; exact h
theorem pz_mr.fr {v v1 : z_Dat} {i : Nat} {s : pz_4} (h : pz_mr v i s) (g : ∀ j, 4 * i ≤ j → j < 4 * i + 4 → (s.1 = 7 → ¬ j = 4 * i + 2) → v1 234 j = v 234 j) : pz_mr v1 i s := by
  unfold pz_mr m_sp at h ⊢
  refine ⟨fun z => ?_, fun z => ?_⟩
  · have n7 : ∀ j, s.1 = 7 → ¬ j = 4 * i + 2 := fun j y => by omega
    rw [g (4 * i) (by omega) (by omega) (n7 _), g (4 * i + 1) (by omega) (by omega) (n7 _), g (4 * i + 2) (by omega) (by omega) (n7 _), g (4 * i + 3) (by omega) (by omega) (n7 _)]
    exact h.1 z
  · rw [g (4 * i) (by omega) (by omega) (fun _ => by omega), g (4 * i + 1) (by omega) (by omega) (fun _ => by omega)]
    exact h.2 z
theorem pz_mr.w {v : z_Dat} {i : Nat} {s : pz_4} (h : pz_mr v i s) (g : s.1 ≤ 7) : v 234 (4 * i) = nI s.1 := by
  by_cases z : s.1 = 7
  · rw [z]; exact (h.2 z).1
  · exact (h.1 (by omega)).1
theorem pz_ok.le {D : Nat} {s : pz_4} (h : pz_ok D s) : s.1 ≤ 7 := by
  rcases h with h | h
  · have := h.1; omega
  · omega
section RD
variable {G : z_G} {d : Nat} {S : z_Shp} {Q : Option Value → z_Shp → z_Dat → Prop} {τ : Nat → Nat} {L D : Nat}
theorem sp_X11_reads_15 (hd : 4 ≤ d) (hL : z_L S) (h35 : D = 3 ∨ D = 5) : ∀ (f : Nat) (U : pz_U) (v : z_Dat), m_Ts2 v τ L → v 224 0 = nI D → v 223 14 = nI (t_K D) → pz_I L D U → v 223 19 = nI U.1 → pz_mV v U → L < U.1 + f →
    (∀ v1 U1, pz_a τ L D f U = .inr U1 → pz_I L D U1 → U1.2.2.1 = 0 → pz_mV v1 U1 → pz_mf v v1 → v1 223 20 = v 223 20 → Q (some (.int 1)) S v1) →
    (∀ v1 e, pz_a τ L D f U = .inl e → v1 223 20 = nI e.1 → v1 223 21 = nI e.2 → pz_mf v v1 → Q (some (.int 0)) S v1) → z_J G d mX11_reads (15, [.ref 223, .null, .null], [], S, v) Q := by
  obtain ⟨d, rfl⟩ : ∃ e, d = e + 1 := ⟨d - 1, by omega⟩
  intro f
  induction f with
  | zero => intro U v _ _ _ hI _ _ hf _ _; have := hI.1; omega
  | succ f ih =>
    intro U v hT hD hK hI hp hV hf h1 h0
    have pI := fun U1 => pz_1_I (U1 := U1) (τ := τ) h35 hI
    obtain ⟨p, m, k, o, σ, β⟩ := U
    have hI0 := hI
    obtain ⟨i1, i2, i3, i4, i5, i6, i7, i8⟩ := hI
    dsimp only at i1 i2 i3 i4 i5 i6 i7 i8 hp hf
    have hl := hT.2.1
    have b := t_s_b (τ := τ) i1
    refine sg_X11_reads_15 hL ?_
    refine sp_X11_peek hL hT hp i1 (fun v1 e1 a1 => ⟨_, rfl, rfl, ?_⟩)
    have T1 := a1.T hT
    have V1 : pz_mV v1 (p, m, k, o, σ, β) := hV.fr (a1.2 17 (by omega)) (a1.2 18 (by omega)) (a1.1 235 (by omega)) (a1.1 234 (by omega))
    obtain ⟨w1, w2, w3, w4, w5⟩ := V1
    dsimp only at w1 w2 w3 w4 w5
    have f20 : v1 223 20 = v 223 20 := a1.2 20 (by omega)
    have g1 : v1 224 0 = nI D := by rw [a1.1 224 (by omega)]; exact hD
    have g2 : v1 223 14 = nI (t_K D) := by rw [a1.2 14 (by omega)]; exact hK
    by_cases c1 : t_s τ L p < L
    · have hb := hT.2.2.1 (t_s τ L p)
      have ey : t_k τ L (t_s τ L p) = nI (τ (t_s τ L p)) := by unfold t_k; rw [if_pos c1]
      rw [ey]
      have stp : ¬ (τ (t_s τ L p) = 93 ∧ 0 < k) → z_J G d mX11_step (0, [.ref 223, .null, .null, .null], [], S, v1) (fun r S1 v2 => ∃ y2 : Int32, r = some (.int y2) ∧ S1 = S ∧ ((¬ y2 = 0 → ((vp_in ((4 : Int32) * (v1 223 17)) 128) ∧ ((¬ (v2 234 ((4 : Int32) * (v1 223 17)).toNatClampNeg) = 7 → (z_J G d mX11_sign (0, [.ref 223, .int 59], [], S, v2) (fun r S1 v3 => ∃ y3 : Int32, r = some (.int y3) ∧ S1 = S ∧ ((¬ y3 = 0 → (z_J G (d + 1) mX11_reads (15, [.ref 223, .null, .null], [], S, v3) Q)) ∧ (y3 = 0 → (Q (some (.int 0)) S v3)))))) ∧ ((v2 234 ((4 : Int32) * (v1 223 17)).toNatClampNeg) = 7 → (vp_in (v2 223 18) 2 ∧ (∀ v4, v4 = z_u v2 235 (v2 223 18).toNatClampNeg (v1 223 17) → (∀ v5, v5 = z_u v4 223 18 ((v4 223 18) + 1) → (z_J G (d + 1) mX11_reads (15, [.ref 223, .null, .null], [], S, v5) Q)))))))) ∧ (y2 = 0 → (Q (some (.int 0)) S v2)))) := by
        intro c2
        rw [w1, show (4 : Int32) = nI 4 from rfl, pk_mul, nI_clamp (n := 4 * m) (by omega)]
        have e1f : ∀ e, pz_s τ L D m k (t_s τ L p) = .inl e → pz_1 τ L D (p, m, k, o, σ, β) = .inl e := fun e r => by
          unfold pz_1
          dsimp only
          rw [if_pos c1, if_neg c2, r]; rfl
        refine sp_X11_step (D := D) (m := m) (k := k) (p := t_s τ L p) (by omega) hL h35 T1 e1 b.2 g1 g2 w1 i2 w2 i3 (fun v2 q2 s r2 l2 p2 m2 row f2 => ⟨_, rfl, rfl, fun _ => ⟨?_, fun c7 => ?_, fun c7 => ?_⟩, fun z => absurd z (by decide)⟩) (fun v2 e r2 y2 z2 f2 => ⟨_, rfl, rfl, fun z => absurd rfl z, fun _ => h0 v2 e (pz_a_l (e1f e r2)) y2 z2 (a1.f.tr f2)⟩)
        · obtain ⟨-, -, -, r4, -⟩ := pz_s_r h35 i2 i3 b.2 r2
          exact vp_in_nI (by omega) (by omega)
        · obtain ⟨r3, -, r5, r4, -⟩ := pz_s_r h35 i2 i3 b.2 r2
          rw [row.w r5.le] at c7
          have n7 : ¬ s.1 = 7 := fun z => c7 (by rw [z]; rfl)
          have F2 : pz_mf v v2 := a1.f.tr f2.f
          refine sp_X11_sgn (c := 59) (by omega) hL (F2.T hT) p2 l2 (by omega) (fun v3 q3 x3 g3 l3 p3 a3 => ⟨_, rfl, rfl, fun _ => ?_, fun z => absurd z (by decide)⟩) (fun v3 e g3 y3 z3 a3 => ⟨_, rfl, rfl, fun z => absurd rfl z, fun _ => h0 v3 e (pz_a_l ?_) y3 z3 (F2.tr a3.f)⟩)
          · have e1 : pz_1 τ L D (p, m, k, o, σ, β) = .inr (some (q3, m + 1, k, o, pz_up σ m s, β)) := by
              unfold pz_1
              dsimp only
              rw [if_pos c1, if_neg c2, r2]
              show (if s.1 = 7 then _ else _) = _
              rw [if_neg n7]; exact pz_b_r g3
            obtain ⟨J1, J2⟩ := pI _ e1
            have F3 : pz_mf v v3 := F2.tr a3.f
            have e20 : v3 223 20 = v 223 20 := ((a3.2 20 (by omega)).trans (f2.2.2 20 (by omega) (by omega) (by omega))).trans f20
            rw [pz_a_s e1] at h1 h0
            refine ih _ v3 (F3.T hT) (by rw [F3.1 224 (by omega) (by omega) (by omega)]; exact hD) (by rw [F3.2 14 (by omega) (by omega) (by omega) (by omega) (by omega) (by omega)]; exact hK) J1 p3 ?_ (by dsimp only at J2 ⊢; omega) (fun v4 U1 k1 k2 k3 k4 k5 k6 => h1 v4 U1 k1 k2 k3 k4 (F3.tr k5) (k6.trans e20)) (fun v4 e k1 k2 k3 k4 => h0 v4 e k1 k2 k3 (F3.tr k4))
            have q234 : v3 234 = v2 234 := a3.1 234 (by omega)
            refine ⟨(a3.2 17 (by omega)).trans m2, ((a3.2 18 (by omega)).trans (f2.2.2 18 (by omega) (by omega) (by omega))).trans w2, fun t ht => ?_, fun i hi => ?_, fun i hi hi7 hi8 => ?_⟩
            · rw [a3.1 235 (by omega), f2.1 235 (by omega) (by omega)]; exact w3 t ht
            · have hi : i < m + 1 := hi
              show pz_mr v3 i (pz_up σ m s i)
              by_cases z : i = m
              · subst z
                rw [pz_up_e rfl]; exact row.fr (fun j _ _ _ => by rw [q234])
              · rw [pz_up_n z]; exact (w4 i (by omega)).fr (fun j j1 j2 _ => by rw [q234]; exact f2.2.1 j (by omega))
            · have hi : i < m + 1 := hi
              have hi7 : (pz_up σ m s i).1 = 7 := hi7
              have z : ¬ i = m := fun z => by rw [pz_up_e z] at hi7; exact n7 hi7
              rw [pz_up_n z] at hi7
              rw [q234, f2.2.1 _ (by omega)]; exact w5 i (by omega) hi7 hi8
          · unfold pz_1
            dsimp only
            rw [if_pos c1, if_neg c2, r2]
            show (if s.1 = 7 then _ else _) = _
            rw [if_neg n7]; exact pz_b_l g3
        · obtain ⟨r3, -, r5, r4, r6⟩ := pz_s_r h35 i2 i3 b.2 r2
          rw [row.w r5.le] at c7
          have s7 : s.1 = 7 := (nI_eq (b := 7) (by have := r5.le; omega) (by omega)).mp c7
          have k2 := r6 s7
          have e18 : v2 223 18 = nI k := (f2.2.2 18 (by omega) (by omega) (by omega)).trans w2
          rw [e18, nI_clamp (n := k) (by omega)]
          refine ⟨vp_in_nI (by omega) (by omega), fun v4 e4 v5 e5 => ?_⟩
          rw [show v4 223 18 = nI k by rw [e4, z_u_ne (by omega)]; exact e18, nI_1] at e5
          have e1 : pz_1 τ L D (p, m, k, o, σ, β) = .inr (some (q2, m + 1, k + 1, pz_up o k m, pz_up σ m s, β)) := by
            unfold pz_1
            dsimp only
            rw [if_pos c1, if_neg c2, r2]
            show (if s.1 = 7 then _ else _) = _
            rw [if_pos s7]
          obtain ⟨J1, J2⟩ := pI _ e1
          have F5 : pz_mf v v5 := (a1.f.tr f2.f).tr ⟨fun b b1 b2 b3 => by rw [e5, z_u_ne b1, e4, z_u_ne b3], fun j _ j2 _ _ _ _ => by rw [e5, z_un (Or.inr j2), e4, z_u_ne (by omega)]⟩
          have e20 : v5 223 20 = v 223 20 := by rw [e5, z_un (by omega), e4, z_u_ne (by omega), f2.2.2 20 (by omega) (by omega) (by omega)]; exact f20
          rw [pz_a_s e1] at h1 h0
          refine ih _ v5 (F5.T hT) (by rw [F5.1 224 (by omega) (by omega) (by omega)]; exact hD) (by rw [F5.2 14 (by omega) (by omega) (by omega) (by omega) (by omega) (by omega)]; exact hK) J1 (by rw [e5, z_un (by omega), e4, z_u_ne (by omega)]; exact p2) ?_ (by dsimp only at J2 ⊢; omega) (fun v4 U1 k1 k2 k3 k4 k5 k6 => h1 v4 U1 k1 k2 k3 k4 (F5.tr k5) (k6.trans e20)) (fun v4 e k1 k2 k3 k4 => h0 v4 e k1 k2 k3 (F5.tr k4))
          have q234 : v5 234 = v2 234 := by rw [e5, z_u_ne (by omega), e4, z_u_ne (by omega)]
          refine ⟨by rw [e5, z_un (by omega), e4, z_u_ne (by omega)]; exact m2, by rw [e5, z_ue rfl rfl], fun t ht => ?_, fun i hi => ?_, fun i hi hi7 hi8 => ?_⟩
          · have ht : t < k + 1 := ht
            show v5 235 t = nI (pz_up o k m t)
            by_cases z : t = k
            · rw [pz_up_e z, e5, z_u_ne (by omega), e4, z_ue rfl z]
            · rw [pz_up_n z, e5, z_u_ne (by omega), e4, z_un (Or.inr z), f2.1 235 (by omega) (by omega)]; exact w3 t (by omega)
          · have hi : i < m + 1 := hi
            show pz_mr v5 i (pz_up σ m s i)
            by_cases z : i = m
            · subst z
              rw [pz_up_e rfl]; exact row.fr (fun j _ _ _ => by rw [q234])
            · rw [pz_up_n z]; exact (w4 i (by omega)).fr (fun j j1 j2 _ => by rw [q234]; exact f2.2.1 j (by omega))
          · have hi : i < m + 1 := hi
            have hi7 : (pz_up σ m s i).1 = 7 := hi7
            have hi8 : ∀ t, t < k + 1 → ¬ pz_up o k m t = i := hi8
            have z : ¬ i = m := fun z => hi8 k (by omega) (by rw [pz_up_e rfl, z])
            rw [pz_up_n z] at hi7
            rw [q234, f2.2.1 _ (by omega)]
            exact w5 i (by omega) hi7 (fun t ht y => hi8 t (by omega) (by rw [pz_up_n (by omega)]; exact y))
      refine ⟨fun _ => ⟨fun c2 => stp (fun z => c2 (by rw [z.1]; rfl)), fun c2 => ⟨fun c3 => stp (fun z => ?_), fun c3 v10 e10 v11 e11 => ?_⟩⟩, fun z => absurd z (nI_n1 (by omega))⟩
      · rw [w2] at c3
        have := (nI_leI (b := 0) (by omega) (by omega)).mp c3
        omega
      · have z93 : τ (t_s τ L p) = 93 := (nI_eq (b := 93) (by omega) (by omega)).mp c2
        have k0 : 0 < k := by
          rcases Nat.eq_zero_or_pos k with z | z
          · exact absurd (by rw [w2, z]; decide) c3
          · exact z
        obtain ⟨o1, o2⟩ := i5 (k - 1) (by omega)
        rw [e1, nI_1] at e10
        rw [show v10 223 18 = nI k by rw [e10, z_un (by omega)]; exact w2, show (1 : Int32) = nI 1 from rfl, pk_sub (by omega)] at e11
        have e18 : v11 223 18 = nI (k - 1) := by rw [e11, z_ue rfl rfl]
        have eo : v11 235 (k - 1) = nI (o (k - 1)) := by rw [e11, z_u_ne (by omega), e10, z_u_ne (by omega)]; exact w3 _ (by omega)
        rw [e18, nI_clamp (n := k - 1) (by omega), eo, show (4 : Int32) = nI 4 from rfl, pk_mul, show (2 : Int32) = nI 2 from rfl, nI_add, nI_clamp (n := 4 * o (k - 1) + 2) (by omega)]
        refine ⟨vp_in_nI (by omega) (by omega), vp_in_nI (by omega) (by omega), fun v12 e12 => ?_⟩
        rw [show v11 223 17 = nI m by rw [e11, z_un (by omega), e10, z_un (by omega)]; exact w1] at e12
        have F12 : pz_mf v v12 := a1.f.tr ⟨fun b b1 b2 b3 => by rw [e12, z_u_ne b2, e11, z_u_ne b1, e10, z_u_ne b1], fun j _ j2 j3 _ _ _ => by rw [e12, z_u_ne (by omega), e11, z_un (Or.inr j2), e10, z_un (Or.inr j3)]⟩
        refine sp_X11_sgn (c := 59) (p := t_s τ L p + 1) (by omega) hL (F12.T hT) (by rw [e12, z_u_ne (by omega), e11, z_un (by omega), e10, z_ue rfl rfl]) (by omega) (by omega) (fun v3 q3 x3 g3 l3 p3 a3 => ⟨_, rfl, rfl, fun _ => ?_, fun z => absurd z (by decide)⟩) (fun v3 e g3 y3 z3 a3 => ⟨_, rfl, rfl, fun z => absurd rfl z, fun _ => h0 v3 e (pz_a_l ?_) y3 z3 (F12.tr a3.f)⟩)
        · have e1 : pz_1 τ L D (p, m, k, o, σ, β) = .inr (some (q3, m, k - 1, o, σ, pz_up β (o (k - 1)) m)) := by
            unfold pz_1
            dsimp only
            rw [if_pos c1, if_pos ⟨z93, k0⟩]; exact pz_b_r g3
          obtain ⟨J1, J2⟩ := pI _ e1
          have F3 : pz_mf v v3 := F12.tr a3.f
          have e20 : v3 223 20 = v 223 20 := by rw [a3.2 20 (by omega), e12, z_u_ne (by omega), e11, z_un (by omega), e10, z_un (by omega)]; exact f20
          rw [pz_a_s e1] at h1 h0
          refine ih _ v3 (F3.T hT) (by rw [F3.1 224 (by omega) (by omega) (by omega)]; exact hD) (by rw [F3.2 14 (by omega) (by omega) (by omega) (by omega) (by omega) (by omega)]; exact hK) J1 p3 ?_ (by dsimp only at J2 ⊢; omega) (fun v4 U1 k1 k2 k3 k4 k5 k6 => h1 v4 U1 k1 k2 k3 k4 (F3.tr k5) (k6.trans e20)) (fun v4 e k1 k2 k3 k4 => h0 v4 e k1 k2 k3 (F3.tr k4))
          have q234 : ∀ j, ¬ j = 4 * o (k - 1) + 2 → v3 234 j = v1 234 j := fun j hj => by rw [a3.1 234 (by omega), e12, z_un (Or.inr hj), e11, z_u_ne (by omega), e10, z_u_ne (by omega)]
          refine ⟨by rw [a3.2 17 (by omega), e12, z_u_ne (by omega), e11, z_un (by omega), e10, z_un (by omega)]; exact w1, by rw [a3.2 18 (by omega), e12, z_u_ne (by omega)]; exact e18, fun t ht => ?_, fun i hi => ?_, fun i hi hi7 hi8 => ?_⟩
          · have ht : t < k - 1 := ht
            rw [a3.1 235 (by omega), e12, z_u_ne (by omega), e11, z_u_ne (by omega), e10, z_u_ne (by omega)]; exact w3 t (by omega)
          · have hi : i < m := hi
            refine (w4 i hi).fr (fun j j1 j2 j3 => q234 j (fun z => ?_))
            have ei : i = o (k - 1) := by omega
            exact j3 (by rw [ei]; exact o2) (by omega)
          · have hi : i < m := hi
            have hi7 : (σ i).1 = 7 := hi7
            have hi8 : ∀ t, t < k - 1 → ¬ o t = i := hi8
            show v3 234 (4 * i + 2) = nI (pz_up β (o (k - 1)) m i)
            by_cases z : i = o (k - 1)
            · rw [pz_up_e z, a3.1 234 (by omega), e12, z_ue rfl (by omega)]
            · rw [pz_up_n z, q234 _ (by omega)]
              refine w5 i hi hi7 (fun t ht y => ?_)
              by_cases z2 : t = k - 1
              · rw [z2] at y; exact z y.symm
              · exact hi8 t (by omega) y
        · unfold pz_1
          dsimp only
          rw [if_pos c1, if_pos ⟨z93, k0⟩]; exact pz_b_l g3
    · have ey : t_k τ L (t_s τ L p) = -1 := by unfold t_k; rw [if_neg c1]
      rw [ey, w2]
      refine ⟨fun z => absurd rfl z, fun _ => ⟨fun z => ?_, fun z => ?_⟩⟩
      · have k0 : k = 0 := (nI_eq (b := 0) (by omega) (by omega)).mp z
        have e1 : pz_1 τ L D (p, m, k, o, σ, β) = .inr none := by
          unfold pz_1
          dsimp only
          rw [if_neg c1, if_pos k0]
        exact h1 v1 _ (pz_a_n e1) hI0 k0 ⟨w1, w2, w3, w4, w5⟩ a1.f f20
      · have k0 : ¬ k = 0 := fun y => z (by rw [y]; rfl)
        have e1 : pz_1 τ L D (p, m, k, o, σ, β) = .inl (1, L) := by
          unfold pz_1
          dsimp only
          rw [if_neg c1, if_neg k0]
        rw [T1.1]
        refine sg_X11_bad_0 hL (fun v2 e2 v3 e3 => ⟨_, rfl, rfl, fun _ => ?_, fun z => absurd rfl z⟩)
        exact h0 v3 _ (pz_a_l e1) (by rw [e3, z_un (by omega), e2, z_ue rfl rfl]; rfl) (by rw [e3, z_ue rfl rfl]) (a1.f.tr ⟨fun b b1 b2 b3 => by rw [e3, z_u_ne b1, e2, z_u_ne b1], fun j _ _ _ j4 j5 _ => by rw [e3, z_un (Or.inr j5), e2, z_un (Or.inr j4)]⟩)
/-- the parse of the whole tape -/
def pz_all (τ : Nat → Nat) (L D : Nat) : pz_f ⊕ pz_U := pz_a τ L D 300 (0, 0, 0, fun _ => 0, fun _ => (0, 0, 0, 0), fun _ => 0)
theorem pz_I_0 : pz_I L D (0, 0, 0, fun _ => 0, fun _ => (0, 0, 0, 0), fun _ => 0) := ⟨by show 0 ≤ L; omega, by show 0 ≤ 30; omega, by show 0 ≤ 2; omega, fun i hi => absurd hi (Nat.not_lt_zero i), fun t ht => absurd ht (Nat.not_lt_zero t), fun _ => xz_P_nil, fun z => absurd z (by decide), fun z => absurd z (by decide)⟩
theorem sp_X11_reads {v : z_Dat} (hd : 4 ≤ d) (hL : z_L S) (h35 : D = 3 ∨ D = 5) (hT : m_Ts2 v τ L) (hD : v 224 0 = nI D) (hK : v 223 14 = nI (t_K D))
    (h1 : ∀ v1 U1, pz_all τ L D = .inr U1 → pz_I L D U1 → U1.2.2.1 = 0 → pz_mV v1 U1 → pz_mf v v1 → v1 223 20 = v 223 20 → Q (some (.int 1)) S v1)
    (h0 : ∀ v1 e, pz_all τ L D = .inl e → v1 223 20 = nI e.1 → v1 223 21 = nI e.2 → pz_mf v v1 → Q (some (.int 0)) S v1) : z_J G d mX11_reads (0, [.ref 223, .null, .null], [], S, v) Q := by
  refine sg_X11_reads_0 hL (fun v1 e1 v2 e2 v3 e3 => ?_)
  have hl := hT.2.1
  have F : pz_mf v v3 := ⟨fun b b1 _ _ => by rw [e3, z_u_ne b1, e2, z_u_ne b1, e1, z_u_ne b1], fun j j1 j2 j3 _ _ _ => by rw [e3, z_un (Or.inr j2), e2, z_un (Or.inr j1), e1, z_un (Or.inr j3)]⟩
  have e20 : v3 223 20 = v 223 20 := by rw [e3, z_un (by omega), e2, z_un (by omega), e1, z_un (by omega)]
  refine sp_X11_reads_15 (τ := τ) (L := L) (D := D) hd hL h35 300 (0, 0, 0, fun _ => 0, fun _ => (0, 0, 0, 0), fun _ => 0) v3 (F.T hT) (by rw [F.1 224 (by omega) (by omega) (by omega)]; exact hD) (by rw [F.2 14 (by omega) (by omega) (by omega) (by omega) (by omega) (by omega)]; exact hK) pz_I_0 ?_ ⟨?_, ?_, fun t ht => absurd ht (Nat.not_lt_zero t), fun i hi => absurd hi (Nat.not_lt_zero i), fun i hi => absurd hi (Nat.not_lt_zero i)⟩ (by show L < 0 + 300; omega) (fun v4 U1 k1 k2 k3 k4 k5 k6 => h1 v4 U1 k1 k2 k3 k4 (F.tr k5) (k6.trans e20)) (fun v4 e k1 k2 k3 k4 => h0 v4 e k1 k2 k3 (F.tr k4))
  · rw [e3, z_un (by omega), e2, z_un (by omega), e1, z_ue rfl rfl]; rfl
  · rw [e3, z_un (by omega), e2, z_ue rfl rfl]; rfl
  · rw [e3, z_ue rfl rfl]; rfl
end RD
