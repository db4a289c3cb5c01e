/-! THE PARSE: its turns, pure; how agains lie in one another -/
def xz_P (σ : Nat → pz_4) (β : Nat → Nat) : Nat → Nat → Nat → Prop
  | 0, i, j => i ≤ j ∧ ∀ a, i ≤ a → a < j → ¬ (σ a).1 = 7
  | l + 1, i, j => i ≤ j ∧ ∀ a, i ≤ a → a < j → (σ a).1 = 7 → a + 1 ≤ β a ∧ β a ≤ j ∧ xz_P σ β l (a + 1) (β a)
theorem xz_P_le {σ : Nat → pz_4} {β : Nat → Nat} : ∀ {l i j : Nat}, xz_P σ β l i j → i ≤ j
  | 0, _, _, h => h.1
  | _ + 1, _, _, h => h.1
theorem xz_P_nil {σ : Nat → pz_4} {β : Nat → Nat} : ∀ {l i : Nat}, xz_P σ β l i i
  | 0, _ => ⟨Nat.le_refl _, fun a h1 h2 => by omega⟩
  | _ + 1, _ => ⟨Nat.le_refl _, fun a h1 h2 => by omega⟩
theorem xz_P_up {σ : Nat → pz_4} {β : Nat → Nat} : ∀ {l i j : Nat}, xz_P σ β l i j → xz_P σ β (l + 1) i j
  | 0, _, _, h => ⟨h.1, fun a h1 h2 h3 => absurd h3 (h.2 a h1 h2)⟩
  | _ + 1, _, _, h => ⟨h.1, fun a h1 h2 h3 => ⟨(h.2 a h1 h2 h3).1, (h.2 a h1 h2 h3).2.1, xz_P_up (h.2 a h1 h2 h3).2.2⟩⟩
theorem xz_P_cg {σ σ' : Nat → pz_4} {β β' : Nat → Nat} : ∀ {l i j : Nat}, (∀ a, i ≤ a → a < j → σ' a = σ a ∧ ((σ a).1 = 7 → β' a = β a)) → xz_P σ β l i j → xz_P σ' β' l i j
  | 0, _, _, g, h => ⟨h.1, fun a h1 h2 => by rw [(g a h1 h2).1]; exact h.2 a h1 h2⟩
  | l + 1, i, j, g, h => ⟨h.1, fun a h1 h2 h3 => by
      rw [(g a h1 h2).1] at h3
      obtain ⟨k1, k2, k3⟩ := h.2 a h1 h2 h3
      rw [(g a h1 h2).2 h3]
      exact ⟨k1, k2, xz_P_cg (fun b b1 b2 => g b (by omega) (by omega)) k3⟩⟩
theorem xz_P_sn {σ : Nat → pz_4} {β : Nat → Nat} : ∀ {l i j : Nat}, xz_P σ β l i j → ¬ (σ j).1 = 7 → xz_P σ β l i (j + 1)
  | 0, _, j, h, g => ⟨Nat.le_succ_of_le h.1, fun a h1 h2 => by
      by_cases z : a = j
      · rw [z]; exact g
      · exact h.2 a h1 (by omega)⟩
  | _ + 1, _, j, h, g => ⟨Nat.le_succ_of_le h.1, fun a h1 h2 h3 => by
      by_cases z : a = j
      · rw [z] at h3; exact absurd h3 g
      · obtain ⟨k1, k2, k3⟩ := h.2 a h1 (by omega) h3
        exact ⟨k1, by omega, k3⟩⟩
theorem xz_P_cl {σ : Nat → pz_4} {β : Nat → Nat} {l i a m : Nat} (h1 : xz_P σ β l (a + 1) m) (h2 : xz_P σ β (l + 1) i a) (hb : β a = m) : xz_P σ β (l + 1) i m := by
  have l1 := xz_P_le h1
  have l2 := xz_P_le h2
  refine ⟨by omega, fun b b1 b2 b3 => ?_⟩
  rcases Nat.lt_trichotomy b a with z | z | z
  · obtain ⟨k1, k2, k3⟩ := h2.2 b b1 z b3
    exact ⟨k1, by omega, k3⟩
  · subst z
    rw [hb]
    exact ⟨l1, Nat.le_refl _, h1⟩
  · exact (xz_P_up h1).2 b (by omega) b2 b3
def pz_up {α : Type} (f : Nat → α) (i : Nat) (x : α) : Nat → α := fun j => if j = i then x else f j
theorem pz_up_e {α : Type} {f : Nat → α} {i j : Nat} {x : α} (h : j = i) : pz_up f i x j = x := if_pos h
theorem pz_up_n {α : Type} {f : Nat → α} {i j : Nat} {x : α} (h : ¬ j = i) : pz_up f i x j = f j := if_neg h
/-- place, steps, open agains, which they are, the steps, where their bodies end -/
abbrev pz_U : Type := Nat × Nat × Nat × (Nat → Nat) × (Nat → pz_4) × (Nat → Nat)
def pz_t (r : pz_f ⊕ (Nat × pz_4)) (f : Nat → pz_4 → pz_f ⊕ Option pz_U) : pz_f ⊕ Option pz_U := match r with
  | .inl e => .inl e
  | .inr a => f a.1 a.2
def pz_1 (τ : Nat → Nat) (L D : Nat) (U : pz_U) : pz_f ⊕ Option pz_U :=
  if t_s τ L U.1 < L then
    (if τ (t_s τ L U.1) = 93 ∧ 0 < U.2.2.1 then pz_b (pz_G τ L 59 (t_s τ L U.1 + 1)) (fun p _ => .inr (some (p, U.2.1, U.2.2.1 - 1, U.2.2.2.1, U.2.2.2.2.1, pz_up U.2.2.2.2.2 (U.2.2.2.1 (U.2.2.1 - 1)) U.2.1)))
    else pz_t (pz_s τ L D U.2.1 U.2.2.1 (t_s τ L U.1)) (fun p s => if s.1 = 7 then .inr (some (p, U.2.1 + 1, U.2.2.1 + 1, pz_up U.2.2.2.1 U.2.2.1 U.2.1, pz_up U.2.2.2.2.1 U.2.1 s, U.2.2.2.2.2))
      else pz_b (pz_G τ L 59 p) (fun p _ => .inr (some (p, U.2.1 + 1, U.2.2.1, U.2.2.2.1, pz_up U.2.2.2.2.1 U.2.1 s, U.2.2.2.2.2)))))
  else if U.2.2.1 = 0 then .inr none else .inl (1, L)
def pz_a (τ : Nat → Nat) (L D : Nat) : Nat → pz_U → pz_f ⊕ pz_U
  | 0, U => .inr U
  | f + 1, U => match pz_1 τ L D U with
    | .inl e => .inl e
    | .inr none => .inr U
    | .inr (some U1) => pz_a τ L D f U1
theorem pz_a_l {τ : Nat → Nat} {L D f : Nat} {U : pz_U} {e : pz_f} (h : pz_1 τ L D U = .inl e) : pz_a τ L D (f + 1) U = .inl e := by rw [pz_a, h]
theorem pz_a_n {τ : Nat → Nat} {L D f : Nat} {U : pz_U} (h : pz_1 τ L D U = .inr none) : pz_a τ L D (f + 1) U = .inr U := by rw [pz_a, h]
theorem pz_a_s {τ : Nat → Nat} {L D f : Nat} {U U1 : pz_U} (h : pz_1 τ L D U = .inr (some U1)) : pz_a τ L D (f + 1) U = pz_a τ L D f U1 := by rw [pz_a, h]
/-- a step that may stand there -/
def pz_ok (D : Nat) (s : pz_4) : Prop := d_ok D s ∨ (s.1 = 7 ∧ 1 ≤ s.2.2.2 ∧ s.2.2.2 ≤ 9)
def pz_I (L D : Nat) (U : pz_U) : Prop := U.1 ≤ L ∧ U.2.1 ≤ 30 ∧ U.2.2.1 ≤ 2 ∧ (∀ i, i < U.2.1 → pz_ok D (U.2.2.2.2.1 i)) ∧ (∀ t, t < U.2.2.1 → U.2.2.2.1 t < U.2.1 ∧ (U.2.2.2.2.1 (U.2.2.2.1 t)).1 = 7) ∧
  (U.2.2.1 = 0 → xz_P U.2.2.2.2.1 U.2.2.2.2.2 2 0 U.2.1) ∧ (U.2.2.1 = 1 → xz_P U.2.2.2.2.1 U.2.2.2.2.2 2 0 (U.2.2.2.1 0) ∧ xz_P U.2.2.2.2.1 U.2.2.2.2.2 1 (U.2.2.2.1 0 + 1) U.2.1) ∧
  (U.2.2.1 = 2 → xz_P U.2.2.2.2.1 U.2.2.2.2.2 2 0 (U.2.2.2.1 0) ∧ xz_P U.2.2.2.2.1 U.2.2.2.2.2 1 (U.2.2.2.1 0 + 1) (U.2.2.2.1 1) ∧ xz_P U.2.2.2.2.1 U.2.2.2.2.2 0 (U.2.2.2.1 1 + 1) U.2.1)
theorem pz_b_i {α : Type} {r : pz_f ⊕ (Nat × Nat)} {f : Nat → Nat → pz_f ⊕ α} {y : α} (h : pz_b r f = .inr y) : ∃ q x, r = .inr (q, x) ∧ f q x = .inr y := by
  cases r with
  | inl e => cases h
  | inr a => exact ⟨a.1, a.2, rfl, h⟩
theorem t_m_lt {τ : Nat → Nat} {q e : Nat} {W : List Nat} (hW : 0 < W.length) (h : t_m τ q e W = true) : q < e := by
  unfold t_m at h
  rw [Bool.and_eq_true] at h
  have := of_decide_eq_true h.2
  omega
theorem t_W_pos : ∀ j, j < 8 → 0 < (t_W.getD j []).length := by decide
theorem t_wf_lt {τ : Nat → Nat} {q e : Nat} : ∀ f j, j + f = 8 → t_wf τ q e f j < 8 → q < e
  | 0, j, _, h => by rw [t_wf] at h; omega
  | f + 1, j, hj, h => by
    rw [t_wf] at h
    by_cases z : t_m τ q e (t_W.getD j []) = true
    · exact t_m_lt (t_W_pos j (by omega)) z
    · rw [if_neg z] at h
      exact t_wf_lt f (j + 1) (by omega) h
theorem t_kd_lt {τ : Nat → Nat} {L p : Nat} (h : t_kd τ L p < 8) : t_s τ L p < t_w τ L (t_s τ L p) := t_wf_lt 8 0 rfl h
theorem t_s_i {τ : Nat → Nat} {L : Nat} : ∀ f p, p + f = L → t_s τ L (t_s τ L p) = t_s τ L p
  | 0, p, h => by rw [t_s_e (show L ≤ p by omega), t_s_e (show L ≤ p by omega)]
  | f + 1, p, h => by
    by_cases z : τ p = 32
    · rw [t_s_n (by omega) z]; exact t_s_i f (p + 1) (by omega)
    · rw [t_s_h (by omega) z, t_s_h (by omega) z]
theorem pz_st_r {τ : Nat → Nat} {L D w p q : Nat} {s : pz_4} (h35 : D = 3 ∨ D = 5) (hw : w ≤ 7) (hp : p ≤ L) (h : pz_st τ L D w p = .inr (q, s)) : p ≤ q ∧ q ≤ L ∧ pz_ok D s ∧ s.1 = w := by
  have hK1 : 1 ≤ t_K D := by rcases h35 with rfl | rfl <;> decide
  have hD1 : 1 ≤ D := by omega
  rcases (show w < 3 ∨ w = 3 ∨ w = 4 ∨ w = 5 ∨ w = 6 ∨ w = 7 by omega) with z | z | z | z | z | z
  · rw [pz_st0 z] at h
    obtain ⟨q1, x1, r1, h⟩ := pz_b_i h
    obtain ⟨q2, x2, r2, h⟩ := pz_b_i h
    have a1 := pz_N_r hp r1
    have a2 := pz_N_r a1.2.1 r2
    cases h
    exact ⟨by omega, by omega, Or.inl ⟨by show w < 7; omega, fun _ => ⟨by show x1 < D; omega, by show x2 < D; omega⟩, fun y => by have y : w = 3 ∨ w = 6 := y; omega, fun y => by have y : w = 5 ∨ w = 6 := y; omega⟩, rfl⟩
  · subst z
    rw [pz_st3] at h
    obtain ⟨q1, x1, r1, h⟩ := pz_b_i h
    obtain ⟨q2, x2, r2, h⟩ := pz_b_i h
    have a1 := pz_K_r hp r1
    have a2 := pz_N_r a1.2.1 r2
    cases h
    exact ⟨by omega, by omega, Or.inl ⟨by show 3 < 7; omega, fun y => by have y : 3 < 3 ∨ 3 = 5 := y; omega, fun _ => ⟨a1.2.2, by show x2 < t_K D; omega⟩, fun y => by have y : 3 = 5 ∨ 3 = 6 := y; omega⟩, rfl⟩
  · subst z
    rw [pz_st4] at h
    cases h
    exact ⟨by omega, by omega, Or.inl ⟨by show 4 < 7; omega, fun y => by have y : 4 < 3 ∨ 4 = 5 := y; omega, fun y => by have y : 4 = 3 ∨ 4 = 6 := y; omega, fun y => by have y : 4 = 5 ∨ 4 = 6 := y; omega⟩, rfl⟩
  · subst z
    rw [pz_st5] at h
    obtain ⟨q1, x1, r1, h⟩ := pz_b_i h
    obtain ⟨q2, x2, r2, h⟩ := pz_b_i h
    obtain ⟨q3, x3, r3, h⟩ := pz_b_i h
    have a1 := pz_N_r hp r1
    have a2 := pz_N_r a1.2.1 r2
    have a3 := pz_N_r a2.2.1 r3
    cases h
    exact ⟨by omega, by omega, Or.inl ⟨by show 5 < 7; omega, fun _ => ⟨by show x1 < D; omega, by show x2 < D; omega⟩, fun y => by have y : 5 = 3 ∨ 5 = 6 := y; omega, fun _ => ⟨a3.2.2.1, a3.2.2.2⟩⟩, rfl⟩
  · subst z
    rw [pz_st6] at h
    obtain ⟨q1, x1, r1, h⟩ := pz_b_i h
    obtain ⟨q2, x2, r2, h⟩ := pz_b_i h
    obtain ⟨q3, x3, r3, h⟩ := pz_b_i h
    have a1 := pz_K_r hp r1
    have a2 := pz_N_r a1.2.1 r2
    have a3 := pz_N_r a2.2.1 r3
    cases h
    exact ⟨by omega, by omega, Or.inl ⟨by show 6 < 7; omega, fun y => by have y : 6 < 3 ∨ 6 = 5 := y; omega, fun _ => ⟨a1.2.2, by show x2 < t_K D; omega⟩, fun _ => ⟨a3.2.2.1, a3.2.2.2⟩⟩, rfl⟩
  · subst z
    rw [pz_st7] at h
    obtain ⟨q1, x1, r1, h⟩ := pz_b_i h
    obtain ⟨q2, x2, r2, h⟩ := pz_b_i h
    have a1 := pz_N_r hp r1
    have a2 := pz_G_r a1.2.1 r2
    cases h
    exact ⟨by omega, by omega, Or.inr ⟨rfl, a1.2.2.1, a1.2.2.2⟩, rfl⟩
theorem pz_s_r {τ : Nat → Nat} {L D m k p q : Nat} {s : pz_4} (h35 : D = 3 ∨ D = 5) (hm : m ≤ 30) (hk : k ≤ 2) (hp : p ≤ L) (h : pz_s τ L D m k p = .inr (q, s)) : p < q ∧ q ≤ L ∧ pz_ok D s ∧ m < 30 ∧ (s.1 = 7 → k < 2) := by
  have b := t_s_b (τ := τ) hp
  have b2 := t_w_le (τ := τ) (L := L) (L - t_s τ L p) (t_s τ L p) (by omega)
  have w8 := t_kd_le (τ := τ) (L := L) (p := p)
  unfold pz_s at h
  by_cases c1 : t_kd τ L p = 8
  · rw [if_pos c1] at h; cases h
  rw [if_neg c1] at h
  by_cases c2 : m = 30
  · rw [if_pos c2] at h; cases h
  rw [if_neg c2] at h
  by_cases c3 : t_kd τ L p = 7 ∧ k = 2
  · rw [if_pos c3] at h; cases h
  rw [if_neg c3] at h
  have lt := t_kd_lt (show t_kd τ L p < 8 by omega)
  obtain ⟨a1, a2, a3, a4⟩ := pz_st_r h35 (by omega) b2.2 h
  exact ⟨by omega, a2, a3, by omega, fun z => by omega⟩
/-- a turn: what it comes to -/
theorem pz_1_I {τ : Nat → Nat} {L D : Nat} {U U1 : pz_U} (h35 : D = 3 ∨ D = 5) (hI : pz_I L D U) (h : pz_1 τ L D U = .inr (some U1)) : pz_I L D U1 ∧ U.1 < U1.1 := by
  obtain ⟨p, m, k, o, σ, β⟩ := U
  obtain ⟨i1, i2, i3, i4, i5, i6, i7, i8⟩ := hI
  dsimp only at i1 i2 i3 i4 i5 i6 i7 i8
  have b := t_s_b (τ := τ) i1
  unfold pz_1 at h
  dsimp only at h
  by_cases c1 : t_s τ L p < L
  · rw [if_pos c1] at h
    by_cases c2 : τ (t_s τ L p) = 93 ∧ 0 < k
    · rw [if_pos c2] at h
      obtain ⟨q, x, r, h⟩ := pz_b_i h
      have g := pz_G_r (by omega) r
      cases h
      obtain ⟨k1, k2⟩ := i5 (k - 1) (by omega)
      refine ⟨⟨g.2, i2, by show k - 1 ≤ 2; omega, i4, fun t ht => i5 t (by have ht : t < k - 1 := ht; omega), fun z => ?_, fun z => ?_, fun z => ?_⟩, by show p < q; omega⟩
      · have z : k - 1 = 0 := z
        have z : k = 1 := by omega
        subst z
        obtain ⟨j1, j2⟩ := i7 rfl
        have l1 := xz_P_le j1
        refine xz_P_cl (a := o 0) (xz_P_cg (fun a a1 a2 => ⟨rfl, fun _ => pz_up_n (by show ¬ a = o (1 - 1); rw [show 1 - 1 = 0 from rfl]; omega)⟩) j2) (xz_P_cg (fun a a1 a2 => ⟨rfl, fun _ => pz_up_n (by show ¬ a = o (1 - 1); rw [show 1 - 1 = 0 from rfl]; omega)⟩) j1) (pz_up_e rfl)
      · have z : k - 1 = 1 := z
        have z : k = 2 := by omega
        subst z
        obtain ⟨j1, j2, j3⟩ := i8 rfl
        have l2 := xz_P_le j2
        have l3 := xz_P_le j3
        refine ⟨xz_P_cg (fun a a1 a2 => ⟨rfl, fun _ => pz_up_n (by have a2 : a < o 0 := a2; show ¬ a = o (2 - 1); rw [show 2 - 1 = 1 from rfl]; omega)⟩) j1, ?_⟩
        refine xz_P_cl (a := o 1) (xz_P_cg (fun a a1 a2 => ⟨rfl, fun _ => pz_up_n (by show ¬ a = o (2 - 1); rw [show 2 - 1 = 1 from rfl]; omega)⟩) j3) (xz_P_cg (fun a a1 a2 => ⟨rfl, fun _ => pz_up_n (by show ¬ a = o (2 - 1); rw [show 2 - 1 = 1 from rfl]; omega)⟩) j2) (pz_up_e rfl)
      · have z : k - 1 = 2 := z
        omega
    · rw [if_neg c2] at h
      cases hs : pz_s τ L D m k (t_s τ L p) with
      | inl e => rw [hs] at h; cases h
      | inr a =>
        obtain ⟨q, s⟩ := a
        rw [hs] at h
        obtain ⟨r1, r2, r3, r4, r5⟩ := pz_s_r h35 i2 i3 (by omega) hs
        have hσ : ∀ i, i < m → pz_up σ m s i = σ i := fun i hi => pz_up_n (by omega)
        have cg : ∀ l i j, j ≤ m → xz_P σ β l i j → xz_P (pz_up σ m s) β l i j := fun l i j hj g => xz_P_cg (fun a a1 a2 => ⟨hσ a (by omega), fun _ => rfl⟩) g
        have rows : ∀ i, i < m + 1 → pz_ok D (pz_up σ m s i) := fun i hi => by
          by_cases z : i = m
          · rw [pz_up_e z]; exact r3
          · rw [pz_up_n z]; exact i4 i (by omega)
        change (if s.1 = 7 then _ else _) = _ at h
        by_cases c3 : s.1 = 7
        · rw [if_pos c3] at h
          cases h
          have k2 := r5 c3
          refine ⟨⟨r2, by show m + 1 ≤ 30; omega, by show k + 1 ≤ 2; omega, rows, fun t ht => ?_, fun z => absurd z (by show ¬ k + 1 = 0; omega), fun z => ?_, fun z => ?_⟩, by show p < q; omega⟩
          · have ht : t < k + 1 := ht
            show pz_up o k m t < m + 1 ∧ (pz_up σ m s (pz_up o k m t)).1 = 7
            by_cases z : t = k
            · rw [pz_up_e z, pz_up_e rfl]; exact ⟨by omega, c3⟩
            · obtain ⟨u1, u2⟩ := i5 t (by omega)
              rw [pz_up_n z, hσ _ u1]; exact ⟨by omega, u2⟩
          · have z : k + 1 = 1 := z
            have z : k = 0 := by omega
            subst z
            refine ⟨?_, ?_⟩
            · show xz_P (pz_up σ m s) β 2 0 (pz_up o 0 m 0)
              rw [pz_up_e rfl]; exact cg _ _ _ (Nat.le_refl _) (i6 rfl)
            · show xz_P (pz_up σ m s) β 1 (pz_up o 0 m 0 + 1) (m + 1)
              rw [pz_up_e rfl]; exact xz_P_nil
          · have z : k + 1 = 2 := z
            have z : k = 1 := by omega
            subst z
            obtain ⟨j1, j2⟩ := i7 rfl
            have u1 := (i5 0 (by omega)).1
            refine ⟨?_, ?_, ?_⟩
            · show xz_P (pz_up σ m s) β 2 0 (pz_up o 1 m 0)
              rw [pz_up_n (by omega)]; exact cg _ _ _ (by omega) j1
            · show xz_P (pz_up σ m s) β 1 (pz_up o 1 m 0 + 1) (pz_up o 1 m 1)
              rw [pz_up_n (by omega), pz_up_e rfl]; exact cg _ _ _ (Nat.le_refl _) j2
            · show xz_P (pz_up σ m s) β 0 (pz_up o 1 m 1 + 1) (m + 1)
              rw [pz_up_e rfl]; exact xz_P_nil
        · rw [if_neg c3] at h
          obtain ⟨q2, x2, g2, h⟩ := pz_b_i h
          have g := pz_G_r r2 g2
          cases h
          have no : ¬ (pz_up σ m s m).1 = 7 := by rw [pz_up_e rfl]; exact c3
          refine ⟨⟨g.2, by show m + 1 ≤ 30; omega, i3, rows, fun t ht => ?_, fun z => ?_, fun z => ?_, fun z => ?_⟩, by show p < q2; omega⟩
          · obtain ⟨u1, u2⟩ := i5 t ht
            show o t < m + 1 ∧ (pz_up σ m s (o t)).1 = 7
            rw [hσ _ u1]; exact ⟨by omega, u2⟩
          · exact xz_P_sn (cg _ _ _ (Nat.le_refl _) (i6 z)) no
          · obtain ⟨j1, j2⟩ := i7 z
            have u1 := (i5 0 (by have z : k = 1 := z; omega)).1
            exact ⟨cg _ _ (o 0) (by omega) j1, xz_P_sn (cg _ _ _ (Nat.le_refl _) j2) no⟩
          · obtain ⟨j1, j2, j3⟩ := i8 z
            have u1 := (i5 0 (by have z : k = 2 := z; omega)).1
            have u2 := (i5 1 (by have z : k = 2 := z; omega)).1
            exact ⟨cg _ _ (o 0) (by omega) j1, cg _ _ (o 1) (by omega) j2, xz_P_sn (cg _ _ _ (Nat.le_refl _) j3) no⟩
  · rw [if_neg c1] at h
    split at h <;> cases h
