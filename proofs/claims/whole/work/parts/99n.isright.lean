/-! the class' isRight -/
def pz_cV (v : z_Dat) (U : pz_U) : Prop := v 141 11 = nI U.2.1 ∧ v 141 10 = nI U.2.2.1 ∧ (∀ t, t < U.2.2.1 → v 148 t = nI (U.2.2.2.1 t)) ∧ (∀ i, i < U.2.1 → cz_r v i (U.2.2.2.2.1 i)) ∧ ∀ i, i < U.2.1 → (U.2.2.2.2.1 i).1 = 7 → (∀ t, t < U.2.2.1 → ¬ U.2.2.2.1 t = i) → v 147 i = nI (U.2.2.2.2.2 i)
theorem cz_r.fr {v v1 : z_Dat} {i : Nat} {s : pz_4} (h : cz_r v i s) (g : ∀ a, 143 ≤ a → a ≤ 146 → v1 a i = v a i) : cz_r v1 i s := by
  unfold cz_r c_sp at h ⊢
  rw [g 143 (by omega) (by omega), g 144 (by omega) (by omega), g 145 (by omega) (by omega), g 146 (by omega) (by omega)]; exact h
section IR
variable {G : z_G} {d : Nat} {S : z_Shp} {Q : Option Value → z_Shp → z_Dat → Prop} {τ : Nat → Nat} {L D x1 : Nat}
theorem sp_X6_closeAgain {v : z_Dat} {q m k a : Nat} (hd : 2 ≤ d) (hL : z_L S) (hT : c_Tp v τ L) (hτ : ∀ i, τ i < 256) (hp : v 141 12 = nI q) (hq : q < L) (hqs : t_s τ L q = q) (h93 : τ q = 93) (hm : v 141 11 = nI m) (hk : v 141 10 = nI (k + 1)) (hk2 : k < 2) (ha : v 148 k = nI a) (ha30 : a < 30)
    (h1 : ∀ v1 p x, pz_G τ L 59 (q + 1) = .inr (p, x) → p ≤ L → v1 141 12 = nI p → v1 141 10 = nI k → v1 147 a = nI m → (∀ j, j ≠ a → v1 147 j = v 147 j) → (∀ b, b ≠ 141 → b ≠ 147 → v1 b = v b) → (∀ j, j ≠ 10 → j ≠ 12 → v1 141 j = v 141 j) → Q (some (.int 1)) S v1)
    (h0 : ∀ v1 e, pz_G τ L 59 (q + 1) = .inl e → v1 141 1 = nI e.1 → v1 141 2 = nI e.2 → cz_mf v v1 → Q (some (.int 0)) S v1) : z_J G d mX6_closeAgain (0, [.ref 141], [], S, v) Q := by
  obtain ⟨d, rfl⟩ : ∃ e, d = e + 1 := ⟨d - 1, by omega⟩
  refine sg_X6_closeAgain_0 hL (fun v1 e1 => ?_)
  rw [hk, show (1 : Int32) = nI 1 from rfl, pk_sub (by omega), show k + 1 - 1 = k by omega] at e1
  have k1 : v1 141 10 = nI k := by rw [e1, z_ue rfl rfl]
  have a1 : v1 148 k = nI a := by rw [e1, z_u_ne (by omega)]; exact ha
  have m1 : v1 141 11 = nI m := by rw [e1, z_un (by omega)]; exact hm
  rw [k1, nI_clamp (n := k) (by omega), a1, nI_clamp (n := a) (by omega), m1]
  refine ⟨vp_in_nI (by omega) (by omega), vp_in_nI ha30 (by omega), fun v2 e2 => ?_⟩
  have F2 : cz_mf v v2 := ⟨fun b b1 b2 => by rw [e2, z_u_ne (by omega), e1, z_u_ne b1], fun j _ _ j3 _ _ => by rw [e2, z_u_ne (by omega), e1, z_un (Or.inr j3)]⟩
  refine sp_X6_sgn (c := 93) (p := q) (by omega) hL (F2.T hT) hτ (by rw [e2, z_u_ne (by omega), e1, z_un (by omega)]; exact hp) (by omega) (by omega) (fun v3 q3 x3 r3 l3 p3 g3 => ⟨_, rfl, rfl, fun z => absurd z (by decide), fun _ => ?_⟩) (fun v3 f r3 y3 z3 g => ?_)
  · have e3 : pz_G τ L 93 q = .inr (q + 1, 0) := by unfold pz_G; rw [hqs, if_pos ⟨hq, h93⟩]
    rw [e3] at r3
    cases r3
    refine sp_X6_sgn (c := 59) (p := q + 1) (by omega) hL ((F2.tr g3.f).T hT) hτ p3 (by omega) (by omega) (fun v4 q4 x4 r4 l4 p4 g4 => ⟨_, rfl, rfl, fun z => absurd z (by decide), fun _ => ?_⟩) (fun v4 f r4 y4 z4 g => ⟨_, rfl, rfl, fun _ => h0 v4 f r4 y4 z4 ((F2.tr g3.f).tr g.f), fun z => absurd rfl z⟩)
    refine h1 v4 q4 x4 r4 l4 p4 ?_ ?_ (fun j hj => ?_) (fun b b1 b2 => ?_) (fun j j1 j2 => ?_)
    · rw [g4.2 10 (by omega), g3.2 10 (by omega), e2, z_u_ne (by omega)]; exact k1
    · rw [g4.1 147 (by omega), g3.1 147 (by omega), e2, z_ue rfl rfl]
    · rw [g4.1 147 (by omega), g3.1 147 (by omega), e2, z_un (Or.inr hj), e1, z_u_ne (by omega)]
    · rw [g4.1 b b1, g3.1 b b1, e2, z_u_ne b2, e1, z_u_ne b1]
    · rw [g4.2 j j2, g3.2 j j2, e2, z_u_ne (by omega), e1, z_un (Or.inr j1)]
  · have e3 : pz_G τ L 93 q = .inr (q + 1, 0) := by unfold pz_G; rw [hqs, if_pos ⟨hq, h93⟩]
    rw [e3] at r3
    cases r3
theorem sp_X6_isRight_62 (hd : 9 ≤ d) (hL : z_L S) (hx1 : z_isW x1) (h35 : D = 3 ∨ D = 5) (hτ : ∀ i, τ i < 256) (hL200 : L ≤ 200) : ∀ (f : Nat) (U : pz_U) (v : z_Dat) (turn : Nat), c_Tp v τ L → v 141 13 = nI D → v 141 14 = nI (t_K D) → pz_I L D U → v 141 12 = nI U.1 → pz_cV v U → L < U.1 + f → turn ≤ U.1 →
    (∀ v1 U1, pz_a τ L D f U = .inr U1 → pz_I L D U1 → U1.2.2.1 = 0 → pz_cV v1 U1 → cz_mf v v1 → v1 141 1 = v 141 1 → Q (some (.int 1)) S v1) →
    (∀ v1 e, pz_a τ L D f U = .inl e → v1 141 1 = nI e.1 → v1 141 2 = nI e.2 → cz_mf v v1 → Q (some (.int 0)) S v1) → z_J G d mX6_isRight (62, [.ref 141, .ref x1, .int (nI turn), .null, .null], [], S, v) Q := by
  obtain ⟨d, rfl⟩ : ∃ e, d = e + 1 := ⟨d - 1, by omega⟩
  intro f
  induction f with
  | zero => intro U v turn _ _ _ hI _ _ hf _ _ _; have := hI.1; omega
  | succ f ih =>
    intro U v turn hT h13 h14 hI hp hV hf htn h1 h0
    have pI := fun U1 => pz_1_I (U1 := U1) (τ := τ) h35 hI
    obtain ⟨p, m, k, o, σ, β⟩ := U
    have hI0 := hI
    obtain ⟨i1, i2, i3, i4, i5, i6, i7, i8⟩ := hI
    dsimp only at i1 i2 i3 i4 i5 i6 i7 i8 hp hf htn
    have b := t_s_b (τ := τ) i1
    have hqs := t_s_i (τ := τ) (L := L) (L - p) p (by omega)
    refine sg_X6_isRight_62 hL hx1 ⟨fun z => ?_, fun _ => ?_⟩
    · have := (nI_ltI (a := 200) (by omega) (by omega)).mp z
      omega
    refine sp_X6_signAhead hL hT hτ hp i1 (fun v1 e1 a1 => ⟨_, rfl, rfl, ?_⟩)
    have T1 := a1.T hT
    obtain ⟨w1, w2, w3, w4, w5⟩ := hV
    dsimp only at w1 w2 w3 w4 w5
    rw [← a1.2 11 (by omega)] at w1
    rw [← a1.2 10 (by omega)] at w2
    rw [← a1.1 148 (by omega)] at w3
    rw [← a1.1 147 (by omega)] at w5
    have w4 : ∀ i, i < m → cz_r v1 i (σ i) := fun i hi => (w4 i hi).fr (fun a g1 g2 => by rw [a1.1 a (by omega)])
    have f1 : v1 141 1 = v 141 1 := a1.2 1 (by omega)
    have g13 : v1 141 13 = nI D := by rw [a1.2 13 (by omega)]; exact h13
    have g14 : v1 141 14 = nI (t_K D) := by rw [a1.2 14 (by omega)]; exact h14
    have stp : ¬ (t_s τ L p < L ∧ τ (t_s τ L p) = 93 ∧ 0 < k) → ¬ (¬ t_s τ L p < L ∧ k = 0) → z_J G d mX6_readStep (0, [.ref 141, .null, .null, .null, .null, .null], [], S, v1) (fun r S1 v3 => ∃ y3 : Int32, r = some (.int y3) ∧ S1 = S ∧ ((¬ y3 = 0 → (z_J G (d + 1) mX6_isRight (62, [.ref 141, .ref x1, .int (nI turn + 1), .null, .null], [], S, v3) Q)) ∧ (y3 = 0 → (Q (some (.int 0)) S v3)))) := by
      intro c2 c3
      rw [nI_1]
      have fault : ∀ e, (pz_s τ L D m k (t_s τ L p) = .inl e ∨ ∃ p' s, pz_s τ L D m k (t_s τ L p) = .inr (p', s) ∧ ¬ s.1 = 7 ∧ pz_G τ L 59 p' = .inl e) → pz_1 τ L D (p, m, k, o, σ, β) = .inl e := by
        intro e he
        by_cases c1 : t_s τ L p < L
        · unfold pz_1
          dsimp only
          rw [if_pos c1, if_neg (fun z => c2 ⟨c1, z⟩)]
          rcases he with r | ⟨p', s, r, n7, g⟩
          · rw [r]; rfl
          · rw [r]
            show (if s.1 = 7 then _ else _) = _
            rw [if_neg n7]; exact pz_b_l g
        · have qL : t_s τ L p = L := by omega
          have k8 : t_kd τ L (t_s τ L p) = 8 := by
            rcases Nat.lt_or_ge (t_kd τ L (t_s τ L p)) 8 with z | z
            · have lt := t_kd_lt z
              rw [hqs] at lt
              have := t_w_le (τ := τ) (L := L) (L - t_s τ L p) (t_s τ L p) (by omega)
              omega
            · have := t_kd_le (τ := τ) (L := L) (p := t_s τ L p)
              omega
          have es : pz_s τ L D m k (t_s τ L p) = .inl (1, L) := by unfold pz_s; rw [if_pos k8, hqs, qL]
          rw [es] at he
          rcases he with r | ⟨p', s, r, -, -⟩
          · cases r
            unfold pz_1
            dsimp only
            rw [if_neg c1, if_neg (fun z => c3 ⟨c1, z⟩)]
          · cases r
      have step1 : ∀ r, pz_s τ L D m k (t_s τ L p) = .inr r → t_s τ L p < L := fun r hr => by
        rcases Nat.lt_or_ge (t_s τ L p) L with z | z
        · exact z
        · have := pz_s_r h35 i2 i3 b.2 (q := r.1) (s := r.2) hr
          omega
      refine sp_X6_readStep (q := t_s τ L p) (m := m) (k := k) (D := D) (by omega) hL h35 T1 hτ e1 b.2 hqs g13 g14 w1 i2 w2 i3 (fun v3 p3 s r3 s7 l3 q3 m3 k3 o3 o4 row F3 R3 E3 => ⟨_, rfl, rfl, fun _ => ?_, fun z => absurd z (by decide)⟩) (fun v3 p3 s p4 x4 r3 n7 r4 l4 q4 m4 row F3 => ⟨_, rfl, rfl, fun _ => ?_, fun z => absurd z (by decide)⟩) (fun v3 e he y3 z3 F3 => ⟨_, rfl, rfl, fun z => absurd rfl z, fun _ => h0 v3 e (pz_a_l (fault e he)) y3 z3 (a1.f.tr F3)⟩)
      · have c1 := step1 _ r3
        have e1 : pz_1 τ L D (p, m, k, o, σ, β) = .inr (some (p3, m + 1, k + 1, pz_up o k m, pz_up σ m s, β)) := by
          unfold pz_1
          dsimp only
          rw [if_pos c1, if_neg (fun z => c2 ⟨c1, z⟩), r3]
          show (if s.1 = 7 then _ else _) = _
          rw [if_pos s7]
        obtain ⟨J1, J2⟩ := pI _ e1
        have F : cz_mf v v3 := a1.f.tr ⟨fun b b1 b2 => F3 b b1 (by omega) (by omega), fun j _ _ j3 j4 j5 => E3 j j3 j4 j5⟩
        rw [pz_a_s e1] at h1 h0
        refine ih _ v3 (turn + 1) (F.T hT) (by rw [F.2 13 (by omega) (by omega) (by omega) (by omega) (by omega)]; exact h13) (by rw [F.2 14 (by omega) (by omega) (by omega) (by omega) (by omega)]; exact h14) J1 q3 ?_ (by dsimp only at J2 ⊢; omega) (by dsimp only at J2 ⊢; omega) (fun v4 U1 k1 k2 k3 k4 k5 k6 => h1 v4 U1 k1 k2 k3 k4 (F.tr k5) (k6.trans ((E3 1 (by omega) (by omega) (by omega)).trans f1))) (fun v4 e k1 k2 k3 k4 => h0 v4 e k1 k2 k3 (F.tr k4))
        refine ⟨m3, k3, fun t ht => ?_, fun i hi => ?_, fun i hi hi7 hi8 => ?_⟩
        · have ht : t < k + 1 := ht
          show v3 148 t = nI (pz_up o k m t)
          by_cases z : t = k
          · rw [pz_up_e z, z]; exact o3
          · rw [pz_up_n z, o4 t z]; exact w3 t (by omega)
        · have hi : i < m + 1 := hi
          show cz_r v3 i (pz_up σ m s i)
          by_cases z : i = m
          · subst z
            rw [pz_up_e rfl]; exact row
          · rw [pz_up_n z]; exact (w4 i (by omega)).fr (fun a g1 g2 => R3 a g1 g2 i z)
        · have hi : i < m + 1 := hi
          have hi7 : (pz_up σ m s i).1 = 7 := hi7
          have hi8 : ∀ t, t < k + 1 → ¬ pz_up o k m t = i := hi8
          have z : ¬ i = m := fun z => hi8 k (by omega) (by rw [pz_up_e rfl, z])
          rw [pz_up_n z] at hi7
          rw [F3 147 (by omega) (by omega) (by omega)]
          exact w5 i (by omega) hi7 (fun t ht y => hi8 t (by omega) (by rw [pz_up_n (by omega)]; exact y))
      · have c1 := step1 _ r3
        have e1 : pz_1 τ L D (p, m, k, o, σ, β) = .inr (some (p4, m + 1, k, o, pz_up σ m s, β)) := by
          unfold pz_1
          dsimp only
          rw [if_pos c1, if_neg (fun z => c2 ⟨c1, z⟩), r3]
          show (if s.1 = 7 then _ else _) = _
          rw [if_neg n7]; exact pz_b_r r4
        obtain ⟨J1, J2⟩ := pI _ e1
        have F : cz_mf v v3 := a1.f.tr F3.f
        rw [pz_a_s e1] at h1 h0
        refine ih _ v3 (turn + 1) (F.T hT) (by rw [F.2 13 (by omega) (by omega) (by omega) (by omega) (by omega)]; exact h13) (by rw [F.2 14 (by omega) (by omega) (by omega) (by omega) (by omega)]; exact h14) J1 q4 ?_ (by dsimp only at J2 ⊢; omega) (by dsimp only at J2 ⊢; omega) (fun v4 U1 k1 k2 k3 k4 k5 k6 => h1 v4 U1 k1 k2 k3 k4 (F.tr k5) (k6.trans ((F3.2.2 1 (by omega) (by omega)).trans f1))) (fun v4 e k1 k2 k3 k4 => h0 v4 e k1 k2 k3 (F.tr k4))
        refine ⟨m4, (F3.2.2 10 (by omega) (by omega)).trans w2, fun t ht => ?_, fun i hi => ?_, fun i hi hi7 hi8 => ?_⟩
        · rw [F3.1 148 (by omega) (by omega)]; exact w3 t ht
        · have hi : i < m + 1 := hi
          show cz_r v3 i (pz_up σ m s i)
          by_cases z : i = m
          · subst z
            rw [pz_up_e rfl]; exact row
          · rw [pz_up_n z]; exact (w4 i (by omega)).fr (fun a g1 g2 => F3.2.1 a g1 g2 i z)
        · have hi : i < m + 1 := hi
          have hi7 : (pz_up σ m s i).1 = 7 := hi7
          have z : ¬ i = m := fun z => by rw [pz_up_e z] at hi7; exact n7 hi7
          rw [pz_up_n z] at hi7
          rw [F3.1 147 (by omega) (by omega)]; exact w5 i (by omega) hi7 hi8
    by_cases c1 : t_s τ L p < L
    · have hb := hτ (t_s τ L p)
      have ey : t_k τ L (t_s τ L p) = nI (τ (t_s τ L p)) := by unfold t_k; rw [if_pos c1]
      rw [ey]
      refine ⟨fun _ => ⟨fun c2 => stp (fun z => c2 (by rw [z.2.1]; rfl)) (fun z => z.1 c1), fun c2 => ⟨fun c3 => stp (fun z => ?_) (fun z => z.1 c1), fun c3 => ?_⟩⟩, fun z => absurd z (nI_n1 (by omega))⟩
      · rw [w2] at c3
        have := (nI_leI (b := 0) (by omega) (by omega)).mp c3
        omega
      · have z93 : τ (t_s τ L p) = 93 := (nI_eq (b := 93) (by omega) (by omega)).mp c2
        have k0 : 0 < k := by
          rcases Nat.eq_zero_or_pos k with z | z
          · exact absurd (by rw [w2, z]; decide) c3
          · exact z
        obtain ⟨o1, o2⟩ := i5 (k - 1) (by omega)
        rw [nI_1]
        refine sp_X6_closeAgain (q := t_s τ L p) (m := m) (k := k - 1) (a := o (k - 1)) (by omega) hL T1 hτ e1 c1 hqs z93 w1 (by rw [w2, show k - 1 + 1 = k by omega]) (by omega) (w3 (k - 1) (by omega)) (by omega) (fun v3 p3 x3 r3 l3 q3 k3 b3 b4 F3 E3 => ⟨_, rfl, rfl, fun _ => ?_, fun z => absurd z (by decide)⟩) (fun v3 e r3 y3 z3 F3 => ⟨_, rfl, rfl, fun z => absurd rfl z, fun _ => h0 v3 e (pz_a_l ?_) y3 z3 (a1.f.tr F3)⟩)
        · have e1 : pz_1 τ L D (p, m, k, o, σ, β) = .inr (some (p3, m, k - 1, o, σ, pz_up β (o (k - 1)) m)) := by
            unfold pz_1
            dsimp only
            rw [if_pos c1, if_pos ⟨z93, k0⟩]; exact pz_b_r r3
          obtain ⟨J1, J2⟩ := pI _ e1
          have F : cz_mf v v3 := a1.f.tr ⟨fun b b1 b2 => F3 b b1 (by omega), fun j _ _ j3 _ j5 => E3 j j3 j5⟩
          rw [pz_a_s e1] at h1 h0
          refine ih _ v3 (turn + 1) (F.T hT) (by rw [F.2 13 (by omega) (by omega) (by omega) (by omega) (by omega)]; exact h13) (by rw [F.2 14 (by omega) (by omega) (by omega) (by omega) (by omega)]; exact h14) J1 q3 ?_ (by dsimp only at J2 ⊢; omega) (by dsimp only at J2 ⊢; omega) (fun v4 U1 k1 k2 k3 k4 k5 k6 => h1 v4 U1 k1 k2 k3 k4 (F.tr k5) (k6.trans ((E3 1 (by omega) (by omega)).trans f1))) (fun v4 e k1 k2 k3 k4 => h0 v4 e k1 k2 k3 (F.tr k4))
          refine ⟨(E3 11 (by omega) (by omega)).trans w1, k3, fun t ht => ?_, fun i hi => ?_, fun i hi hi7 hi8 => ?_⟩
          · have ht : t < k - 1 := ht
            rw [F3 148 (by omega) (by omega)]; exact w3 t (by omega)
          · exact (w4 i hi).fr (fun a g1 g2 => by rw [F3 a (by omega) (by omega)])
          · have hi8 : ∀ t, t < k - 1 → ¬ o t = i := hi8
            show v3 147 i = nI (pz_up β (o (k - 1)) m i)
            by_cases z : i = o (k - 1)
            · rw [pz_up_e z, z]; exact b3
            · rw [pz_up_n z, b4 i z]
              refine w5 i hi hi7 (fun t ht y => ?_)
              by_cases z2 : t = k - 1
              · rw [z2] at y; exact z y.symm
              · exact hi8 t (by omega) y
        · unfold pz_1
          dsimp only
          rw [if_pos c1, if_pos ⟨z93, k0⟩]; exact pz_b_l r3
    · have ey : t_k τ L (t_s τ L p) = -1 := by unfold t_k; rw [if_neg c1]
      rw [ey]
      refine ⟨fun z => absurd rfl z, fun _ => ⟨fun z => ⟨fun _ => stp (fun y => c1 y.1) (fun y => z (by rw [w2, y.2]; rfl)), fun y => absurd y (by decide)⟩, fun z => ?_⟩⟩
      rw [w2] at z
      have k0 : k = 0 := (nI_eq (b := 0) (by omega) (by omega)).mp z
      have e1 : pz_1 τ L D (p, m, k, o, σ, β) = .inr none := by
        unfold pz_1
        dsimp only
        rw [if_neg c1, if_pos k0]
      exact h1 v1 _ (pz_a_n e1) hI0 k0 ⟨w1, w2, w3, w4, w5⟩ a1.f f1
theorem sp_X6_isRight {v : z_Dat} (hd : 9 ≤ d) (hL : z_L S) (hx1 : z_isW x1) (h35 : D = 3 ∨ D = 5) (hτ : ∀ i, τ i < 256) (hT : c_Tp v τ L) (hw0 : v x1 0 = nI D) (hw2 : v x1 2 = nI (t_K D)) (hne : x1 ≠ 141)
    (h1 : ∀ v1 U1, L ≤ 200 → pz_all τ L D = .inr U1 → pz_I L D U1 → U1.2.2.1 = 0 → pz_cV v1 U1 → v1 141 13 = nI D → v1 141 1 = nI 0 → (∀ b, b ≠ 141 → b < 143 ∨ 148 < b → v1 b = v b) → Q (some (.int 1)) S v1)
    (h0 : ∀ v1 e, (L ≤ 200 ∧ pz_all τ L D = .inl e) ∨ (200 < L ∧ e = (1, 200)) → v1 141 1 = nI e.1 → v1 141 2 = nI e.2 → (∀ b, b ≠ 141 → b < 143 ∨ 148 < b → v1 b = v b) → Q (some (.int 0)) S v1) : z_J G d mX6_isRight (0, [.ref 141, .ref x1, .null, .null, .null], [], S, v) Q := by
  obtain ⟨d, rfl⟩ : ∃ e, d = e + 1 := ⟨d - 1, by omega⟩
  have hl := hT.2.1
  refine sg_X6_isRight_0 hL hx1 (fun v1 e1 v2 e2 v3 e3 v4 e4 v5 e5 v6 e6 v7 e7 => ?_)
  rw [show v1 x1 2 = nI (t_K D) by rw [e1, z_u_ne hne]; exact hw2] at e2
  rw [hw0] at e1
  have F : ∀ b, b ≠ 141 → v7 b = v b := fun b hb => by rw [e7, z_u_ne hb, e6, z_u_ne hb, e5, z_u_ne hb, e4, z_u_ne hb, e3, z_u_ne hb, e2, z_u_ne hb, e1, z_u_ne hb]
  have rd : v7 141 0 = nI L ∧ v7 141 1 = nI 0 ∧ v7 141 10 = nI 0 ∧ v7 141 11 = nI 0 ∧ v7 141 12 = nI 0 ∧ v7 141 13 = nI D ∧ v7 141 14 = nI (t_K D) := by
    rw [e7, e6, e5, e4, e3, e2, e1]
    simp (disch := omega) only [z_ue, z_un]
    exact ⟨hT.1, rfl, rfl, rfl, rfl, trivial, trivial⟩
  obtain ⟨r0, r1, r10, r11, r12, r13, r14⟩ := rd
  have T7 : c_Tp v7 τ L := ⟨r0, hl, fun i hi => by rw [F 142 (by omega)]; exact hT.2.2 i hi⟩
  rw [r0]
  refine ⟨fun z => ?_, fun z => ?_⟩
  · have z : L ≤ 200 := (nI_leI (b := 200) (by omega) (by omega)).mp z
    refine sp_X6_isRight_62 (τ := τ) (L := L) (D := D) hd hL hx1 h35 hτ z 300 (0, 0, 0, fun _ => 0, fun _ => (0, 0, 0, 0), fun _ => 0) v7 0 T7 r13 r14 pz_I_0 r12 ⟨r11, r10, fun t ht => absurd ht (Nat.not_lt_zero t), fun i hi => absurd hi (Nat.not_lt_zero i), fun i hi => absurd hi (Nat.not_lt_zero i)⟩ (by show L < 0 + 300; omega) (Nat.le_refl _) (fun v8 U1 k1 k2 k3 k4 k5 k6 => h1 v8 U1 z k1 k2 k3 k4 ((k5.2 13 (by omega) (by omega) (by omega) (by omega) (by omega)).trans r13) (k6.trans r1) (fun b b1 b2 => (k5.1 b b1 b2).trans (F b b1))) (fun v8 e k1 k2 k3 k4 => h0 v8 e (Or.inl ⟨z, k1⟩) k2 k3 (fun b b1 b2 => (k4.1 b b1 b2).trans (F b b1)))
  · have z : ¬ L ≤ 200 := fun y => z (nI_le (b := 200) y (by omega))
    refine sg_X6_hasFault_0 hL (fun v8 e8 v9 e9 => ⟨_, rfl, rfl, rfl, ?_⟩)
    exact h0 v9 (1, 200) (Or.inr ⟨by omega, rfl⟩) (by rw [e9, z_un (by omega), e8, z_ue rfl rfl]; rfl) (by rw [e9, z_ue rfl rfl]; rfl) (fun b b1 _ => by rw [e9, z_u_ne b1, e8, z_u_ne b1]; exact F b b1)
end IR
