/-! THE CLASS' FOREST: branches of a spot; a forest has leaves; layForest -/
def u_at (ρ : Nat → Nat) (κ e y : Nat) : Nat := if n_lo ρ κ e = y ∨ n_hi ρ κ e = y then 1 else 0
theorem u_at_1 {ρ : Nat → Nat} {κ e y : Nat} : u_at ρ κ e y = 1 ↔ (n_lo ρ κ e = y ∨ n_hi ρ κ e = y) := by
  unfold u_at
  by_cases c : n_lo ρ κ e = y ∨ n_hi ρ κ e = y
  · rw [if_pos c]; exact ⟨fun _ => c, fun _ => rfl⟩
  · rw [if_neg c]; exact ⟨fun h => (by cases h), fun h => absurd h c⟩
theorem u_at_le {ρ : Nat → Nat} {κ e y : Nat} : u_at ρ κ e y ≤ 1 := by unfold u_at; split <;> omega
def u_dg (ρ : Nat → Nat) (κ : Nat) (R : Nat → Nat) (y : Nat) : Nat := m_sum (fun e => R e * u_at ρ κ e y) (n_E ρ)
/-- the sum without carry of the places where a row is 1 -/
def u_x (f : Nat → Nat) : Nat → Nat
  | 0 => 0
  | n + 1 => u_x f n ^^^ (if f n = 1 then n else 0)
def u_xr (ρ : Nat → Nat) (κ : Nat) (R : Nat → Nat) (y : Nat) : Nat := u_x (fun e => R e * u_at ρ κ e y) (n_E ρ)
theorem p_up_fn {R : Nat → Nat} {ρ : Nat → Nat} {κ e x y : Nat} : (fun e' => p_up R e x e' * u_at ρ κ e' y) = p_up (fun e' => R e' * u_at ρ κ e' y) e (x * u_at ρ κ e y) := by
  funext e'
  by_cases z : e' = e
  · rw [p_ue z, p_ue z, z]
  · rw [p_un z, p_un z]
theorem u_x_c {f g : Nat → Nat} : ∀ n, (∀ e, e < n → f e = g e) → u_x f n = u_x g n
  | 0, _ => rfl
  | n + 1, h => by rw [u_x, u_x, u_x_c n (fun e he => h e (by omega)), h n (by omega)]
theorem u_x_p {f : Nat → Nat} {e x : Nat} (h : (f e = 1 ∧ x ≠ 1) ∨ (f e ≠ 1 ∧ x = 1)) : ∀ n, e < n → u_x (p_up f e x) n = u_x f n ^^^ e
  | 0, hn => by omega
  | n + 1, hn => by
    rw [u_x, u_x]
    by_cases z : e = n
    · subst z
      rw [u_x_c e (fun e' he' => p_un (by omega)), p_ue rfl]
      rcases h with ⟨h1, h2⟩ | ⟨h1, h2⟩
      · rw [if_neg h2, if_pos h1, Nat.xor_zero, Nat.xor_assoc, Nat.xor_self, Nat.xor_zero]
      · rw [if_pos h2, if_neg h1, Nat.xor_zero]
    · rw [u_x_p h n (by omega), p_un (fun q => z q.symm), Nat.xor_assoc, Nat.xor_comm e, ← Nat.xor_assoc]
theorem u_x_0 {f : Nat → Nat} : ∀ n, (∀ e, e < n → f e = 0) → u_x f n = 0
  | 0, _ => rfl
  | n + 1, h => by
    rw [u_x, u_x_0 n (fun e he => h e (by omega)), h n (by omega), if_neg (show ¬ (0 : Nat) = 1 by omega), Nat.xor_zero]
theorem m_sum_0 {f : Nat → Nat} : ∀ n, m_sum f n = 0 → ∀ e, e < n → f e = 0
  | 0, _, e, he => by omega
  | n + 1, h, e, he => by
    have h : m_sum f n + f n = 0 := h
    by_cases z : e = n
    · rw [z]; omega
    · exact m_sum_0 n (by omega) e (by omega)
theorem m_sum_1 {f : Nat → Nat} : ∀ n, m_sum f n = 1 → ∃ e, e < n ∧ f e = 1 ∧ (∀ e', e' < n → e' ≠ e → f e' = 0) ∧ u_x f n = e
  | 0, h => by cases h
  | n + 1, h => by
    have h : m_sum f n + f n = 1 := h
    rcases (show (m_sum f n = 1 ∧ f n = 0) ∨ (m_sum f n = 0 ∧ f n = 1) by omega) with ⟨h1, h2⟩ | ⟨h1, h2⟩
    · obtain ⟨e, a1, a2, a3, a4⟩ := m_sum_1 n h1
      refine ⟨e, by omega, a2, fun e' he' hne => ?_, ?_⟩
      · by_cases z : e' = n
        · rw [z]; exact h2
        · exact a3 e' (by omega) hne
      · rw [u_x, a4, h2]; exact Nat.xor_zero e
    · refine ⟨n, by omega, h2, fun e' he' hne => m_sum_0 n h1 e' (by omega), ?_⟩
      rw [u_x, u_x_0 n (m_sum_0 n h1), h2, if_pos rfl, Nat.zero_xor]
theorem u_x_lt {f : Nat → Nat} : ∀ n, n ≤ 512 → u_x f n < 512
  | 0, _ => by show 0 < 512; omega
  | n + 1, h => by
    rw [u_x]
    have := u_x_lt (f := f) n (by omega)
    refine Nat.xor_lt_two_pow (n := 9) this ?_
    split <;> omega
theorem u_dg_p {ρ : Nat → Nat} {κ : Nat} {R : Nat → Nat} {e x y : Nat} (he : e < n_E ρ) : u_dg ρ κ (p_up R e x) y + R e * u_at ρ κ e y = u_dg ρ κ R y + x * u_at ρ κ e y := by
  unfold u_dg
  rw [p_up_fn]
  exact m_sum_p (n_E ρ) he
theorem u_xr_p {ρ : Nat → Nat} {κ : Nat} {R : Nat → Nat} {e x y : Nat} (he : e < n_E ρ) (h : (R e = 1 ∧ x = 0) ∨ (R e = 0 ∧ x = 1)) : u_xr ρ κ (p_up R e x) y = if u_at ρ κ e y = 1 then u_xr ρ κ R y ^^^ e else u_xr ρ κ R y := by
  unfold u_xr
  rw [p_up_fn]
  by_cases c : u_at ρ κ e y = 1
  · rw [if_pos c]
    refine u_x_p ?_ (n_E ρ) he
    rw [c]
    rcases h with ⟨h1, h2⟩ | ⟨h1, h2⟩
    · exact Or.inl ⟨by rw [h1], by omega⟩
    · exact Or.inr ⟨by rw [h1]; omega, by omega⟩
  · rw [if_neg c]
    have c0 : u_at ρ κ e y = 0 := by have := u_at_le (ρ := ρ) (κ := κ) (e := e) (y := y); omega
    refine u_x_c _ (fun e' _ => ?_)
    by_cases z : e' = e
    · rw [p_ue z, z, c0, Nat.mul_zero, Nat.mul_zero]
    · rw [p_un z]
/-- of every set of edges of the forest some spot, and not only a given one, has just one -/
theorem u_leaf {ρ : Nat → Nat} {κ : Nat} {wh : Nat → Nat} : ∀ n, n ≤ n_E ρ → ∀ R : Nat → Prop, (∀ e, R e → e < n ∧ (u_fs ρ κ wh (n_E ρ)).2 e = 1) → (∃ e, R e) → ∀ x, ∃ y, y ≠ x ∧ ∃ e, R e ∧ (n_lo ρ κ e = y ∨ n_hi ρ κ e = y) ∧ ∀ e', R e' → (n_lo ρ κ e' = y ∨ n_hi ρ κ e' = y) → e' = e
  | 0, _, R, hR, ⟨e, he⟩, x => by have := (hR e he).1; omega
  | n + 1, hn, R, hR, hex, x => by
    by_cases hRn : R n
    · have hF := (hR n hRn).2
      rw [u_fs_e (show n < n_E ρ by omega)] at hF
      have hc : wh n = 1 ∧ (u_fs ρ κ wh n).1 (n_lo ρ κ n) ≠ (u_fs ρ κ wh n).1 (n_hi ρ κ n) := Classical.byContradiction fun z => by rw [if_neg z] at hF; cases hF
      have hw : ∀ e, R e → e < n → (u_fs ρ κ wh n).1 (n_lo ρ κ e) = (u_fs ρ κ wh n).1 (n_hi ρ κ e) := fun e he hen => by
        have hFe := (hR e he).2
        rw [u_fs_e (show e < n_E ρ by omega)] at hFe
        have : wh e = 1 ∧ (u_fs ρ κ wh e).1 (n_lo ρ κ e) ≠ (u_fs ρ κ wh e).1 (n_hi ρ κ e) := Classical.byContradiction fun z => by rw [if_neg z] at hFe; cases hFe
        exact u_fs_w hen this.1
      have key : ∀ a b, ((n_lo ρ κ n = a ∧ n_hi ρ κ n = b) ∨ (n_lo ρ κ n = b ∧ n_hi ρ κ n = a)) → (u_fs ρ κ wh n).1 a ≠ (u_fs ρ κ wh n).1 b → (u_fs ρ κ wh n).1 x ≠ (u_fs ρ κ wh n).1 b → ∃ y, y ≠ x ∧ ∃ e, R e ∧ (n_lo ρ κ e = y ∨ n_hi ρ κ e = y) ∧ ∀ e', R e' → (n_lo ρ κ e' = y ∨ n_hi ρ κ e' = y) → e' = e := by
        intro a b hab hne hx
        by_cases hb : ∃ e, R e ∧ e < n ∧ (u_fs ρ κ wh n).1 (n_lo ρ κ e) = (u_fs ρ κ wh n).1 b
        · obtain ⟨y, hy, e, ⟨e1, e2, e3⟩, e4, e5⟩ := u_leaf n (by omega) (fun e => R e ∧ e < n ∧ (u_fs ρ κ wh n).1 (n_lo ρ κ e) = (u_fs ρ κ wh n).1 b) (fun e he => ⟨he.2.1, (hR e he.1).2⟩) hb b
          have hyl : (u_fs ρ κ wh n).1 y = (u_fs ρ κ wh n).1 b := by
            rcases e4 with z | z
            · rw [← z]; exact e3
            · rw [← z, ← hw e e1 e2]; exact e3
          refine ⟨y, fun z => hx (by rw [← z]; exact hyl), e, e1, e4, fun e' r' i' => ?_⟩
          have hlt : e' < n := by
            rcases Nat.lt_or_ge e' n with q | q
            · exact q
            · have : e' = n := by have := (hR e' r').1; omega
              rw [this] at i'
              have hya : y = a ∨ y = b := by
                rcases hab with ⟨w1, w2⟩ | ⟨w1, w2⟩ <;> rw [w1, w2] at i' <;> rcases i' with i' | i'
                · exact Or.inl i'.symm
                · exact Or.inr i'.symm
                · exact Or.inr i'.symm
                · exact Or.inl i'.symm
              rcases hya with z | z
              · rw [z] at hyl; exact absurd hyl hne
              · exact absurd z hy
          refine e5 e' ⟨r', hlt, ?_⟩ i'
          rcases i' with z | z
          · rw [z]; exact hyl
          · rw [hw e' r' hlt, z]; exact hyl
        · refine ⟨b, fun z => hx (by rw [z]), n, hRn, ?_, fun e' r' i' => ?_⟩
          · rcases hab with ⟨_, w2⟩ | ⟨w1, _⟩
            · exact Or.inr w2
            · exact Or.inl w1
          · rcases Nat.lt_or_ge e' n with q | q
            · refine absurd ⟨e', r', q, ?_⟩ hb
              rcases i' with z | z
              · rw [z]
              · rw [hw e' r' q, z]
            · have := (hR e' r').1; omega
      by_cases hx : (u_fs ρ κ wh n).1 x = (u_fs ρ κ wh n).1 (n_hi ρ κ n)
      · exact key (n_hi ρ κ n) (n_lo ρ κ n) (Or.inr ⟨rfl, rfl⟩) (fun z => hc.2 z.symm) (fun z => hc.2 (z.symm.trans hx))
      · exact key (n_lo ρ κ n) (n_hi ρ κ n) (Or.inl ⟨rfl, rfl⟩) hc.2 hx
    · refine u_leaf n (by omega) R (fun e he => ⟨?_, (hR e he).2⟩) hex x
      have h1 := (hR e he).1
      rcases Nat.lt_or_ge e n with q | q
      · exact q
      · have : e = n := by omega
        rw [this] at he; exact absurd he hRn
section LC
variable {G : z_G} {d : Nat} {S : z_Shp} {v v0 : z_Dat} {Q : Option Value → z_Shp → z_Dat → Prop} {ρ : Nat → Nat} {κ : Nat}
theorem sp_X1_addBranch {y e n x : Nat} (hL : z_L S) (hy : y < 109) (h1 : v 193 y = nI n) (h2 : v 194 y = nI x) (h : ∀ v1, v1 = z_u (z_u v 193 y (nI (n + 1))) 194 y (nI (x ^^^ e)) → Q none S v1) : z_J G d mX1_addBranch (0, [.ref 186, .int (nI y), .int (nI e)], [], S, v) Q := by
  have hin : vp_in (nI y) 109 := vp_in_nI hy (by omega)
  refine sg_X1_addBranch_0 hL ⟨hin, hin, fun v1 e1 => ⟨hin, hin, fun v2 e2 => h v2 ?_⟩⟩
  rw [nI_clamp (by omega), h1, nI_1] at e1
  rw [nI_clamp (by omega), show v1 194 y = nI x by rw [e1, z_u_ne (by omega)]; exact h2, nx_xor] at e2
  rw [e2, e1]
theorem sp_X1_layForest {wh : Nat → Nat} (hd : 2 ≤ d) (hL : z_L S) (hV : p_V ρ) (hκ : κ < 2) (hR : c_R ρ κ v) (hw1 : ∀ e, wh e ≤ 1) (hw : ∀ e, e < n_E ρ → v 189 e = nI (wh e))
    (h : ∀ v1, v1 186 2 = nI (u_fl ρ κ wh (n_E ρ)).length → (∀ y, y ≤ n_B ρ → v1 193 y = nI (u_dg ρ κ (u_fs ρ κ wh (n_E ρ)).2 y) ∧ v1 194 y = nI (u_xr ρ κ (u_fs ρ κ wh (n_E ρ)).2 y)) → (∀ b, b ≠ 186 → b ≠ 190 → b ≠ 191 → b ≠ 193 → b ≠ 194 → v1 b = v b) → (∀ j, j ≠ 2 → v1 186 j = v 186 j) → Q none S v1) : z_J G d mX1_layForest (0, [.ref 186, .ref 149, .null], [], S, v) Q := by
  obtain ⟨d, rfl⟩ : ∃ e, d = e + 1 := ⟨d - 1, by omega⟩
  have hBn := n_B_le hV.1 hV.2.1
  have hE := n_E_le hV.1 hV.2.1
  have key : ∀ j e v1 ab t, e + j = n_E ρ → u_UF (n_B ρ) ab (u_fs ρ κ wh e).1 t → (∀ u, u ≤ n_B ρ → v1 190 u = nI (ab u)) → v1 186 2 = nI (u_fl ρ κ wh e).length → (∀ y, y ≤ n_B ρ → v1 193 y = nI (u_dg ρ κ (u_fs ρ κ wh e).2 y) ∧ v1 194 y = nI (u_xr ρ κ (u_fs ρ κ wh e).2 y)) → (∀ b, b ≠ 186 → b ≠ 190 → b ≠ 191 → b ≠ 193 → b ≠ 194 → v1 b = v b) → (∀ j, j ≠ 2 → v1 186 j = v 186 j) → z_J G (d + 1) mX1_layForest (28, [.ref 186, .ref 149, .int (nI e)], [], S, v1) Q := by
    intro j
    induction j with
    | zero =>
      intro e v1 ab t he U1 a1 k1 k2 k3 k4
      have he : e = n_E ρ := by omega
      subst he
      exact sg_X1_layForest_28 hL ⟨fun _ => h v1 k1 k2 k3 k4, fun c => absurd (by rw [k3 149 (by omega) (by omega) (by omega) (by omega) (by omega), hR.1.2.2.1]; exact nI_le (Nat.le_refl _) (by omega)) c⟩
    | succ j ih =>
      intro e v1 ab t he U1 a1 k1 k2 k3 k4
      have he2 : e < n_E ρ := by omega
      obtain ⟨q1, q2, q3⟩ := n_ends hV.1 hκ he2
      have R1 : c_R ρ κ v1 := hR.fr (fun a a1 a2 => k3 a (by omega) (by omega) (by omega) (by omega) (by omega))
      obtain ⟨r1, r2, r3⟩ := R1.2.1 e he2
      have hin : vp_in (nI e) 321 := vp_in_nI (by omega) (by omega)
      have hwe := hw1 e
      have hFo := u_fs_o (ρ := ρ) (κ := κ) (wh := wh) e (Nat.le_refl e)
      have nx := ih (e + 1)
      rw [u_fs, u_fl] at nx
      generalize hfs : u_fs ρ κ wh e = W at *
      generalize hfl : u_fl ρ κ wh e = l at *
      refine sg_X1_layForest_28 hL ⟨fun c => absurd c (by rw [R1.1.2.2.1]; exact nI_ge (by omega) (by omega)), fun _ => ⟨hin, ?_⟩⟩
      rw [nI_clamp (n := e) (by omega), k3 189 (by omega) (by omega) (by omega) (by omega) (by omega), hw e he2, nI_1]
      refine ⟨fun c => ?_, fun c => ?_⟩
      · rw [if_neg (fun z => c (by rw [z.1]; rfl)), if_neg (fun z => c (by rw [z.1]; rfl))] at nx
        exact nx v1 ab t (by omega) U1 a1 k1 k2 k3 k4
      · have c := (nI_eq (b := 1) (by omega) (by omega)).mp c
        refine sp_X1_joinEnds (by omega) hL hV hκ R1 he2 U1 a1 (fun v2 ab2 hs U2 f1 f2 => ⟨_, rfl, rfl, fun _ => ?_, fun c2 => absurd rfl c2⟩) (fun v2 ab2 t2 hs U2 f1 f3 f2 => ⟨_, rfl, rfl, fun c2 => absurd c2 (by decide), fun _ v3 e3 => ⟨hin, ?_⟩⟩)
        · rw [if_neg (fun z => z.2 hs), if_neg (fun z => z.2 hs)] at nx
          exact nx v2 ab2 t (by omega) U2 f1 (by rw [f2 186 (by omega)]; exact k1) (fun y hy => by rw [f2 193 (by omega), f2 194 (by omega)]; exact k2 y hy) (fun b b1 b2 b3 b4 b5 => by rw [f2 b b2]; exact k3 b b1 b2 b3 b4 b5) (fun j hj => by rw [f2 186 (by omega)]; exact k4 j hj)
        · rw [if_pos ⟨c, hs⟩, if_pos ⟨c, hs⟩] at nx
          have w3 : ∀ b, b ≠ 186 → b ≠ 190 → b ≠ 191 → v3 b = v1 b := fun b b1 b2 b3 => by rw [e3, z_u_ne b1, f2 b b2 b3]
          rw [show v3 150 e = nI (n_lo ρ κ e) by rw [w3 150 (by omega) (by omega) (by omega)]; exact r1]
          have klo := k2 _ (show n_lo ρ κ e ≤ n_B ρ by omega)
          have khi := k2 _ q3
          refine sp_X1_addBranch (n := u_dg ρ κ W.2 (n_lo ρ κ e)) (x := u_xr ρ κ W.2 (n_lo ρ κ e)) hL (by omega) (by rw [w3 193 (by omega) (by omega) (by omega)]; exact klo.1) (by rw [w3 194 (by omega) (by omega) (by omega)]; exact klo.2) (fun v4 e4 => ⟨rfl, rfl, hin, ?_⟩)
          have w4 : ∀ b, b ≠ 193 → b ≠ 194 → v4 b = v3 b := fun b b1 b2 => by rw [e4, z_u_ne b2, z_u_ne b1]
          rw [show v4 151 e = nI (n_hi ρ κ e) by rw [w4 151 (by omega) (by omega), w3 151 (by omega) (by omega) (by omega)]; exact r2]
          refine sp_X1_addBranch (n := u_dg ρ κ W.2 (n_hi ρ κ e)) (x := u_xr ρ κ W.2 (n_hi ρ κ e)) hL (by omega) (by rw [e4, z_u_ne (by omega), z_un (by omega), w3 193 (by omega) (by omega) (by omega)]; exact khi.1) (by rw [e4, z_un (by omega), z_u_ne (by omega), w3 194 (by omega) (by omega) (by omega)]; exact khi.2) (fun v5 e5 => ⟨rfl, rfl, ?_⟩)
          have w5 : ∀ b, b ≠ 193 → b ≠ 194 → v5 b = v4 b := fun b b1 b2 => by rw [e5, z_u_ne b2, z_u_ne b1]
          refine nx v5 ab2 t2 (by omega) U2 (fun u hu => ?_) ?_ (fun y hy => ?_) (fun b b1 b2 b3 b4 b5 => by rw [w5 b b4 b5, w4 b b4 b5, w3 b b1 b2 b3]; exact k3 b b1 b2 b3 b4 b5) (fun j hj => ?_)
          · rw [w5 190 (by omega) (by omega), w4 190 (by omega) (by omega), e3, z_u_ne (by omega)]; exact f1 u hu
          · rw [w5 186 (by omega) (by omega), w4 186 (by omega) (by omega), e3, z_ue rfl rfl, f2 186 (by omega) (by omega), k1, nI_1, List.length_append, List.length_singleton]
          · have hd1 := u_dg_p (ρ := ρ) (κ := κ) (R := W.2) (e := e) (x := 1) (y := y) he2
            have hx1 := u_xr_p (ρ := ρ) (κ := κ) (R := W.2) (e := e) (x := 1) (y := y) he2 (Or.inr ⟨hFo, rfl⟩)
            rw [hFo, Nat.zero_mul, Nat.one_mul, Nat.add_zero] at hd1
            show v5 193 y = nI (u_dg ρ κ (p_up W.2 e 1) y) ∧ v5 194 y = nI (u_xr ρ κ (p_up W.2 e 1) y)
            rw [hd1, hx1]
            have ky := k2 y hy
            by_cases z1 : y = n_hi ρ κ e
            · have ha : u_at ρ κ e y = 1 := u_at_1.mpr (Or.inr z1.symm)
              rw [ha, if_pos rfl]
              exact ⟨by rw [e5, z_u_ne (by omega), z_ue rfl z1, z1], by rw [e5, z_ue rfl z1, z1]⟩
            · by_cases z2 : y = n_lo ρ κ e
              · have ha : u_at ρ κ e y = 1 := u_at_1.mpr (Or.inl z2.symm)
                rw [ha, if_pos rfl]
                exact ⟨by rw [e5, z_u_ne (by omega), z_un (Or.inr z1), e4, z_u_ne (by omega), z_ue rfl z2, z2], by rw [e5, z_un (Or.inr z1), z_u_ne (by omega), e4, z_ue rfl z2, z2]⟩
              · have ha : u_at ρ κ e y = 0 := by
                  have h1 := u_at_le (ρ := ρ) (κ := κ) (e := e) (y := y)
                  have h2 : ¬ u_at ρ κ e y = 1 := fun q => by
                    rcases u_at_1.mp q with q | q
                    · exact z2 q.symm
                    · exact z1 q.symm
                  omega
                rw [ha, if_neg (show ¬ (0 : Nat) = 1 by omega), Nat.add_zero]
                exact ⟨by rw [e5, z_u_ne (by omega), z_un (Or.inr z1), e4, z_u_ne (by omega), z_un (Or.inr z2), w3 193 (by omega) (by omega) (by omega)]; exact ky.1, by rw [e5, z_un (Or.inr z1), z_u_ne (by omega), e4, z_un (Or.inr z2), z_u_ne (by omega), w3 194 (by omega) (by omega) (by omega)]; exact ky.2⟩
          · rw [w5 186 (by omega) (by omega), w4 186 (by omega) (by omega), e3, z_un (Or.inr hj), f2 186 (by omega) (by omega)]; exact k4 j hj
  refine sg_X1_layForest_0 hL (sp_J7_fill (zk_193 hL) (by rw [zl_193 hL]; omega) (fun g hg => ⟨rfl, rfl, ?_⟩))
  refine sp_J7_fill (zk_194 hL) (by rw [zl_194 hL]; omega) (fun g' hg' => ⟨rfl, rfl, fun v3 e3 => ?_⟩)
  have w3 : ∀ b, b ≠ 186 → b ≠ 193 → b ≠ 194 → v3 b = v b := fun b b1 b2 b3 => by rw [e3, z_u_ne b1, z_ua_ne b3, z_ua_ne b2]
  refine sp_X1_partAll hL hBn (by rw [w3 149 (by omega) (by omega) (by omega)]; exact hR.1.2.1) (fun v4 p1 p2 => ⟨rfl, rfl, ?_⟩)
  have d0 : ∀ y, u_dg ρ κ (fun _ => 0) y = 0 := fun y => by
    unfold u_dg
    have e : (fun e => 0 * u_at ρ κ e y) = fun _ => 0 := funext fun e => Nat.zero_mul _
    rw [e, m_sum_c, Nat.mul_zero]
  have x0 : ∀ y, u_xr ρ κ (fun _ => 0) y = 0 := fun y => u_x_0 _ (fun e _ => Nat.zero_mul _)
  refine key _ 0 v4 _ _ (Nat.zero_add _) u_UF_0 p1 (by rw [p2 186 (by omega), e3, z_ue rfl rfl]; rfl) (fun y hy => ?_) (fun b b1 b2 b3 b4 b5 => by rw [p2 b b2, w3 b b1 b4 b5]) (fun j hj => by rw [p2 186 (by omega), e3, z_un (Or.inr hj), z_ua_ne (by omega), z_ua_ne (by omega)])
  show v4 193 y = nI (u_dg ρ κ (fun _ => 0) y) ∧ v4 194 y = nI (u_xr ρ κ (fun _ => 0) y)
  rw [d0, x0, p2 193 (by omega), p2 194 (by omega), e3, z_u_ne (by omega), z_u_ne (by omega), z_ua_ne (by omega)]
  exact ⟨by rw [z_uae rfl, hg y (by rw [zl_193 hL]; omega)]; rfl, by rw [z_uae rfl, hg' y (by rw [zl_194 hL]; omega)]; rfl⟩
end LC
