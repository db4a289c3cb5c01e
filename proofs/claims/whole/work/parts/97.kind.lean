/-! the reference's wordHere whole, kind -/
def m_a2 (v v1 : z_Dat) : Prop := (∀ b, b ≠ 223 → v1 b = v b) ∧ ∀ j, j ≠ 19 → j ≠ 23 → v1 223 j = v 223 j
section WK
variable {G : z_G} {d : Nat} {S : z_Shp} {v v0 : z_Dat} {Q : Option Value → z_Shp → z_Dat → Prop} {τ : Nat → Nat} {L p k : Nat}
theorem sp_X11_wordHere (hd : 1 ≤ d) (hL : z_L S) (hT : m_Ts2 v τ L) (hp : v 223 19 = nI p) (hpL : p ≤ L)
    (h1 : ∀ v1, t_kw τ (t_s τ L p) (t_w τ L (t_s τ L p)) < 8 → v1 223 19 = nI (t_s τ L p) → v1 223 23 = nI (t_w τ L (t_s τ L p)) → m_a2 v v1 → Q (some (.int (nI (t_kw τ (t_s τ L p) (t_w τ L (t_s τ L p)))))) S v1)
    (h0 : ∀ v1, t_kw τ (t_s τ L p) (t_w τ L (t_s τ L p)) = 8 → v1 223 19 = nI (t_s τ L p) → m_a2 v v1 → Q (some (.int (-1))) S v1) : z_J G d mX11_wordHere (0, [.ref 223, .null, .null, .null, .null, .null, .null], [], S, v) Q := by
  obtain ⟨d, rfl⟩ : ∃ e, d = e + 1 := ⟨d - 1, by omega⟩
  have hl := hT.2.1
  have hq := t_s_b (τ := τ) hpL
  refine sg_X11_wordHere_0 hL ?_
  refine sp_X11_peek hL hT hp hpL (fun v1 e1 a1 => ⟨_, rfl, rfl, ?_⟩)
  rw [e1]
  have T1 := a1.T hT
  generalize t_s τ L p = q at *
  have fin : ∀ e, t_w τ L q = e → q ≤ e → e ≤ L → z_J G (d + 1) mX11_wordHere (64, [.ref 223, .int (nI q), .int (nI e), .int 0, .int (nI q), .int 1, .int 0], [], S, v1) Q := by
    intro e he h2 h3
    rw [he] at h1 h0
    refine sp_X11_wordHere_64 hL T1 h2 h3 (fun v2 c e2 => ?_) (fun c => h0 v1 c e1 ⟨a1.1, fun j j1 _ => a1.2 j j1⟩)
    exact h1 v2 c (by rw [e2, z_un (by omega)]; exact e1) (by rw [e2, z_ue rfl rfl]) ⟨fun b b1 => by rw [e2, z_u_ne b1]; exact a1.1 b b1, fun j j1 j2 => by rw [e2, z_un (Or.inr j2)]; exact a1.2 j j1⟩
  have key : ∀ f i, i + f = L → q ≤ i → t_w τ L i = t_w τ L q → z_J G (d + 1) mX11_wordHere (17, [.ref 223, .int (nI q), .int (nI i), .null, .null, .null, .null], [], S, v1) Q := by
    intro f
    induction f with
    | zero =>
      intro i hf hi he
      rw [t_w_e (show L ≤ i by omega)] at he
      refine sg_X11_wordHere_17 hL ?_
      rw [T1.1]
      exact ⟨fun _ => fin i he.symm hi (by omega), fun c => absurd (nI_le (by omega) (by omega)) c⟩
    | succ f ih =>
      intro i hf hi he
      have hb := T1.2.2.1 i
      have hin : vp_in (nI i) 240 := vp_in_nI (by omega) (by omega)
      refine sg_X11_wordHere_17 hL ?_
      rw [T1.1, nI_clamp (n := i) (by omega), T1.2.2.2 i (by omega), nI_1, show (b_s (τ i) < 97) ↔ (τ i < 97 ∨ 128 ≤ τ i) from b_s_lt hb (c := 97) (by omega), show (122 < b_s (τ i)) ↔ (122 < τ i ∧ τ i < 128) from b_s_gt hb (c := 122) (by omega)]
      have stop : ¬ (97 ≤ τ i ∧ τ i ≤ 122) → _ := fun z => fin i (by rw [t_w_h (by omega) z] at he; exact he.symm) hi (by omega)
      refine ⟨fun c => absurd c (nI_ge (by omega) (by omega)), fun _ => ⟨hin, fun c => stop (by omega), fun c => ⟨hin, fun c2 => stop (by omega), fun c2 => ?_⟩⟩⟩
      exact ih (i + 1) (by omega) (by omega) (by rw [← t_w_n (show i < L by omega) (by omega)]; exact he)
  exact key (L - q) q (by omega) (Nat.le_refl _) rfl
/-- the kind's word that stands next -/
def t_kd (τ : Nat → Nat) (L p : Nat) : Nat := t_kw τ (t_s τ L p) (t_w τ L (t_s τ L p))
theorem sp_X11_kind (hd : 2 ≤ d) (hL : z_L S) (hk : k < 128) (hT : m_Ts2 v τ L) (hp : v 223 19 = nI p) (hpL : p ≤ L)
    (h1 : ∀ v1, t_kd τ L p < 2 → v1 223 19 = nI (t_w τ L (t_s τ L p)) → v1 234 k = nI (t_kd τ L p) → (∀ b, b ≠ 223 → b ≠ 234 → v1 b = v b) → (∀ j, j ≠ k → v1 234 j = v 234 j) → (∀ j, j ≠ 19 → j ≠ 23 → v1 223 j = v 223 j) → Q (some (.int 1)) S v1)
    (h0 : ∀ v1, ¬ t_kd τ L p < 2 → v1 223 20 = 1 → v1 223 21 = nI (t_s τ L p) → (∀ b, b ≠ 223 → v1 b = v b) → (∀ j, j ≠ 19 → j ≠ 23 → j ≠ 20 → j ≠ 21 → v1 223 j = v 223 j) → Q (some (.int 0)) S v1) : z_J G d mX11_kind (0, [.ref 223, .int (nI k), .null], [], S, v) Q := by
  obtain ⟨d, rfl⟩ : ∃ e, d = e + 1 := ⟨d - 1, by omega⟩
  have bad : ∀ v1 : z_Dat, ¬ t_kd τ L p < 2 → v1 223 19 = nI (t_s τ L p) → m_a2 v v1 → z_J G d mX11_bad (0, [.ref 223, .int 1, .int (v1 223 19)], [], S, v1) (fun r S1 v6 => ∃ y2 : Int32, r = some (.int y2) ∧ S1 = S ∧ (narrow .boolean (.int y2) = .int y2 ∧ Q (some (.int y2)) S v6)) := by
    intro v1 c e1 a1
    rw [e1]
    refine sg_X11_bad_0 hL (fun v2 e2 v3 e3 => ⟨_, rfl, rfl, rfl, ?_⟩)
    exact h0 v3 c (by rw [e3, z_un (by omega), e2, z_ue rfl rfl]) (by rw [e3, z_ue rfl rfl]) (fun b b1 => by rw [e3, z_u_ne b1, e2, z_u_ne b1]; exact a1.1 b b1) (fun j j1 j2 j3 j4 => by rw [e3, z_un (Or.inr j4), e2, z_un (Or.inr j3)]; exact a1.2 j j1 j2)
  refine sg_X11_kind_0 hL ?_
  refine sp_X11_wordHere (by omega) hL hT hp hpL (fun v1 c e1 e2 a1 => ⟨_, rfl, rfl, ?_⟩) (fun v1 c e1 a1 => ⟨_, rfl, rfl, fun q => absurd q (by decide), fun _ => ⟨fun q => absurd q (by decide), fun _ => bad v1 (by unfold t_kd; omega) e1 a1⟩⟩)
  have put : t_kd τ L p < 2 → ∀ v2 v3 : z_Dat, v2 = z_u v1 234 (nI k).toNatClampNeg (nI (t_kd τ L p)) → v3 = z_u v2 223 19 (v2 223 23) → Q (some (.int 1)) S v3 := by
    intro c2 v2 v3 e3 e4
    rw [nI_clamp (by omega)] at e3
    rw [show v2 223 23 = nI (t_w τ L (t_s τ L p)) by rw [e3, z_u_ne (by omega)]; exact e2] at e4
    exact h1 v3 c2 (by rw [e4, z_ue rfl rfl]) (by rw [e4, z_u_ne (by omega), e3, z_ue rfl rfl]) (fun b b1 b2 => by rw [e4, z_u_ne b1, e3, z_u_ne b2]; exact a1.1 b b1) (fun j hj => by rw [e4, z_u_ne (by omega), e3, z_un (Or.inr hj)]; exact congrFun (a1.1 234 (by omega)) j) (fun j j1 j2 => by rw [e4, z_un (Or.inr j1), e3, z_u_ne (by omega)]; exact a1.2 j j1 j2)
  have hin : vp_in (nI k) 128 := vp_in_nI hk (by omega)
  refine ⟨fun c2 => ⟨hin, fun v2 e3 v3 e4 => put ?_ v2 v3 e3 e4⟩, fun c2 => ⟨fun c3 => ⟨hin, fun v2 e3 v3 e4 => put ?_ v2 v3 e3 e4⟩, fun c3 => bad v1 (fun z => ?_) e1 a1⟩⟩
  · have := (nI_eq (b := 0) (by omega) (by omega)).mp c2
    unfold t_kd; omega
  · have := (nI_eq (b := 1) (by omega) (by omega)).mp c3
    unfold t_kd; omega
  · unfold t_kd at z
    rcases (show t_kw τ (t_s τ L p) (t_w τ L (t_s τ L p)) = 0 ∨ t_kw τ (t_s τ L p) (t_w τ L (t_s τ L p)) = 1 by omega) with y | y
    · exact c2 (by rw [y]; rfl)
    · exact c3 (by rw [y]; rfl)
end WK
