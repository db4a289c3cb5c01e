/-! THE TABLE of best pairings; the reference's aims again, and pairs -/
def q_T (N : Nat) (D : Nat → Nat → Nat) (Bd : Nat → Nat) : Nat → Nat → Nat × Nat
  | 0 => fun _ => (0, 1)
  | a + 1 => fun b => if b = a + 1 then q_f D Bd (q_T N D Bd a) (a + 1) (q_lo (a + 1)) N else q_T N D Bd a b
def q_P (N : Nat) (D : Nat → Nat → Nat) (Bd : Nat → Nat) (a : Nat) : Nat × Nat := q_T N D Bd a a
theorem q_T_st {N : Nat} {D : Nat → Nat → Nat} {Bd : Nat → Nat} {b : Nat} : ∀ a, b ≤ a → q_T N D Bd a b = q_P N D Bd b
  | 0, h => by
    have : b = 0 := by omega
    rw [this]; rfl
  | a + 1, h => by
    by_cases e : b = a + 1
    · rw [e]; rfl
    · rw [q_T]
      show (if b = a + 1 then _ else _) = _
      rw [if_neg e]
      exact q_T_st a (by omega)
theorem q_f_c {D : Nat → Nat → Nat} {Bd : Nat → Nat} {f g : Nat → Nat × Nat} {a i : Nat} (hb : a / 2 ^ i % 2 = 1) (h : ∀ b, b < a → f b = g b) : ∀ j, q_f D Bd f a i j = q_f D Bd g a i j
  | 0 => by rw [q_f, q_f, h _ (q_lt hb)]
  | j + 1 => by
    rw [q_f, q_f, q_f_c hb h j]
    by_cases c : j ≠ i ∧ a / 2 ^ j % 2 = 1
    · have := q_lt hb
      have := q_lt ((q_xb (a := a) c.1).mpr c.2)
      rw [if_pos c, if_pos c, h (a ^^^ 2 ^ i ^^^ 2 ^ j) (by omega)]
    · rw [if_neg c, if_neg c]
theorem q_P_s {N : Nat} {D : Nat → Nat → Nat} {Bd : Nat → Nat} {a : Nat} (h0 : 0 < a) (ha : a < 16384) : q_P N D Bd a = q_f D Bd (q_P N D Bd) a (q_lo a) N := by
  obtain ⟨a, rfl⟩ : ∃ b, a = b + 1 := ⟨a - 1, by omega⟩
  have e : q_P N D Bd (a + 1) = q_f D Bd (q_T N D Bd a) (a + 1) (q_lo (a + 1)) N := by
    unfold q_P
    rw [q_T]
    show (if a + 1 = a + 1 then _ else _) = _
    rw [if_pos rfl]
  rw [e]
  exact q_f_c (q_lo_ok h0 ha).1.1 (fun b hb => q_T_st a (by omega)) N
noncomputable def n_D (ρ : Nat → Nat) (κ i j : Nat) : Nat := n_ds ρ κ ((n_evs ρ κ).getD j 0) ((n_evs ρ κ).getD i 0)
noncomputable def n_Bd (ρ : Nat → Nat) (κ i : Nat) : Nat := n_ds ρ κ (n_B ρ) ((n_evs ρ κ).getD i 0)
/-- what pairs leaves of the reference -/
def m_f7 (v v1 : z_Dat) : Prop := (∀ b, b ≠ 223 → (b < 238 ∨ 246 < b) → v1 b = v b) ∧ ∀ j, j ≠ 0 → j ≠ 36 → (j < 31 ∨ 34 < j) → v1 223 j = v 223 j
theorem m_f6.f7 {v v1 : z_Dat} (h : m_f6 v v1) : m_f7 v v1 := ⟨fun b h1 h2 => h.1 b h1 (by omega), h.2⟩
section PA
variable {G : z_G} {d : Nat} {S : z_Shp} {v v0 : z_Dat} {Q : Option Value → z_Shp → z_Dat → Prop} {ρ : Nat → Nat} {κ : Nat} {x1 x2 x3 : Int32}
theorem sp_X11_aims2 {T : Nat} (hd : 1 ≤ d) (hL : z_L S) (hV : p_V ρ) (hκ : κ < 2) (ho : (x3 = -1 ∧ T = n_B ρ) ∨ ∃ j, x3 = nI j ∧ j < (n_evs ρ κ).length ∧ T = (n_evs ρ κ).getD j 0) (hN : m_N ρ κ v0 v (n_E ρ)) (hE : m_Ev ρ κ v (n_B ρ)) (h : ∀ v1, m_D ρ κ T v1 → (∀ a, a ≠ 241 → v1 a = v a) → n_isD ρ κ T (n_ds ρ κ T) → Q none S v1) : z_J G d mX11_aims (0, [.ref 223, .int x3], [], S, v) Q := by
  obtain ⟨d, rfl⟩ : ∃ e, d = e + 1 := ⟨d - 1, by omega⟩
  have hB := n_B_le hV.1 hV.2.1
  have hlen := n_evs_len (ρ := ρ) (κ := κ)
  have hTB : T ≤ n_B ρ := by
    rcases ho with ⟨_, e⟩ | ⟨j, _, hj, e⟩
    · omega
    · have := n_evs_lt hj; omega
  have fin : ∀ v1, (∀ s, s < n_B ρ → v1 241 s = nI (n_ds ρ κ T s)) → (T = n_B ρ → v1 241 (n_B ρ) = 0) → (T ≠ n_B ρ → v1 241 (n_B ρ) = 1000000) → (∀ a, a ≠ 241 → v1 a = v a) → n_isD ρ κ T (n_ds ρ κ T) → Q none S v1 := fun v1 b1 b2 b3 b4 b5 => h v1 ⟨b1, by
    by_cases z : T = n_B ρ
    · rw [if_pos z]; exact b2 z
    · rw [if_neg z]; exact b3 z⟩ b4 b5
  rcases ho with ⟨q1, q2⟩ | ⟨j, q1, q2, q3⟩
  · refine sg_X11_aims_0 hL ⟨fun c => absurd c (by rw [q1]; decide), fun _ => ?_⟩
    rw [hN.1.2, ← q2]
    exact sp_X11_laysLeft hL hV hκ hN hTB (fun v1 b1 b2 b3 b4 b5 => ⟨rfl, rfl, fin v1 b1 b2 b3 b4 b5⟩)
  · refine sg_X11_aims_0 hL ⟨fun _ => ⟨by rw [q1]; exact vp_in_nI (by omega) (by omega), ?_⟩, fun c => absurd (by rw [q1]; exact nI_pos' (by omega)) c⟩
    rw [q1, nI_clamp (by omega), hE.2 j q2]
    have q3 : T = (n_ev ρ κ (n_B ρ)).getD j 0 := q3
    rw [← q3]
    exact sp_X11_laysLeft hL hV hκ hN hTB (fun v1 b1 b2 b3 b4 b5 => ⟨rfl, rfl, fin v1 b1 b2 b3 b4 b5⟩)
/-- the loop over the sets -/
theorem sp_X11_pairs_93 {N : Nat} {D : Nat → Nat → Nat} {Bd : Nat → Nat} (hd : 3 ≤ d) (hL : z_L S) (hN : N ≤ 14) (hI : q_In N D Bd v) (h0 : v 244 0 = 0 ∧ v 245 0 = 1)
    (h : ∀ v1, q_Tb (q_P N D Bd) v1 (2 ^ N) → q_In N D Bd v1 → (∀ b, b ≠ 244 → b ≠ 245 → v1 b = v b) → Q (some (.int 1)) S v1) : z_J G d mX11_pairs (93, [.ref 223, .int x1, .int 1, .null], [], S, v) Q := by
  obtain ⟨d, rfl⟩ : ∃ e, d = e + 1 := ⟨d - 1, by omega⟩
  have h2N : 2 ^ N ≤ 16384 := Nat.pow_le_pow_right (n := 2) (by omega) hN
  have h2p : 0 < 2 ^ N := Nat.pow_pos (by omega)
  have tI : ∀ v1 : z_Dat, (∀ b, b ≠ 244 → b ≠ 245 → v1 b = v b) → q_In N D Bd v1 := fun v1 k1 => by
    unfold q_In; rw [k1 223 (by omega) (by omega), k1 246 (by omega) (by omega)]; exact hI
  have key : ∀ j a v1, a + j = 2 ^ N → 0 < a → q_Tb (q_P N D Bd) v1 a → (∀ b, b ≠ 244 → b ≠ 245 → v1 b = v b) → z_J G (d + 1) mX11_pairs (93, [.ref 223, .int x1, .int (nI a), .null], [], S, v1) Q := by
    intro j
    induction j with
    | zero =>
      intro a v1 ha hp hT k1
      have ha : a = 2 ^ N := by omega
      refine sg_X11_pairs_93 hL ⟨fun _ => h v1 (by rw [← ha]; exact hT) (tI v1 k1) k1, fun c => absurd ?_ c⟩
      rw [(tI v1 k1).1, zb_1 (by omega), ha]; exact nI_le (Nat.le_refl _) (by omega)
    | succ j ih =>
      intro a v1 ha hp hT k1
      refine sg_X11_pairs_93 hL ⟨fun c => ?_, fun _ => ?_⟩
      · rw [(tI v1 k1).1, zb_1 (by omega)] at c
        exact absurd c (nI_ge (by omega) (by omega))
      · refine sp_X11_best (by omega) hL hN hp (by omega) (tI v1 k1) hT (fun v2 b1 b2 b3 b4 => ⟨rfl, rfl, ?_⟩)
        rw [nI_1]
        refine ih (a + 1) v2 (by omega) (by omega) (fun b hb => ?_) (fun b c1 c2 => (b3 b c1 c2).trans (k1 b c1 c2))
        by_cases e : b = a
        · subst e
          rw [q_P_s hp (by omega)]
          refine ⟨b1, b2, ?_⟩
          obtain ⟨⟨l1, -⟩, l3⟩ := q_lo_ok hp (by omega)
          have g1 := q_f_le (D := D) (Bd := Bd) (f := q_P N D Bd) (a := b) (i := q_lo b) N
          have g2 := (hT _ (q_lt l1)).2.2
          have g3 := (q_cn_x l1 14).2 (by omega)
          have g4 := ((tI v1 k1).2 _ (q_bN (show b < 2 ^ N by omega) l1)).2.1
          omega
        · rw [(b4 b e).1, (b4 b e).2]; exact hT b (by omega)
  refine key (2 ^ N - 1) 1 v (by omega) (by omega) (fun b hb => ?_) (fun _ _ _ => rfl)
  have : b = 0 := by omega
  subst this
  exact ⟨h0.1, h0.2, Nat.zero_le _⟩
end PA
