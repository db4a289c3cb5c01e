/-! THE PARSE of a work, pure: the parts of a step, a step -/
abbrev pz_f : Type := Nat × Nat
abbrev pz_4 : Type := Nat × Nat × Nat × Nat
def pz_N (τ : Nat → Nat) (L lo hi p : Nat) : pz_f ⊕ (Nat × Nat) := if t_s τ L p < L ∧ 48 ≤ τ (t_s τ L p) ∧ τ (t_s τ L p) ≤ 57 then (if lo ≤ t_n τ L (t_s τ L p) 0 ∧ t_n τ L (t_s τ L p) 0 ≤ hi then .inr (t_e τ L (t_s τ L p), t_n τ L (t_s τ L p) 0) else .inl (2, t_s τ L p)) else .inl (1, t_s τ L p)
def pz_K (τ : Nat → Nat) (L p : Nat) : pz_f ⊕ (Nat × Nat) := if t_kd τ L p < 2 then .inr (t_w τ L (t_s τ L p), t_kd τ L p) else .inl (1, t_s τ L p)
def pz_G (τ : Nat → Nat) (L c p : Nat) : pz_f ⊕ (Nat × Nat) := if t_s τ L p < L ∧ τ (t_s τ L p) = c then .inr (t_s τ L p + 1, 0) else .inl (1, t_s τ L p)
def pz_b {α : Type} (r : pz_f ⊕ (Nat × Nat)) (f : Nat → Nat → pz_f ⊕ α) : pz_f ⊕ α := match r with
  | .inl e => .inl e
  | .inr a => f a.1 a.2
theorem pz_b_l {α : Type} {r : pz_f ⊕ (Nat × Nat)} {f : Nat → Nat → pz_f ⊕ α} {e : pz_f} (h : r = .inl e) : pz_b r f = .inl e := by rw [h]; rfl
theorem pz_b_r {α : Type} {r : pz_f ⊕ (Nat × Nat)} {f : Nat → Nat → pz_f ⊕ α} {q x : Nat} (h : r = .inr (q, x)) : pz_b r f = f q x := by rw [h]; rfl
/-- the parts of a step behind its word -/
def pz_st (τ : Nat → Nat) (L D w p : Nat) : pz_f ⊕ (Nat × pz_4) :=
  if w = 3 then pz_b (pz_K τ L p) (fun p a => pz_b (pz_N τ L 0 (t_K D - 1) p) (fun p b => .inr (p, 3, a, b, 0)))
  else if w = 4 then .inr (p, 4, 0, 0, 0)
  else if w = 5 then pz_b (pz_N τ L 0 (D - 1) p) (fun p a => pz_b (pz_N τ L 0 (D - 1) p) (fun p b => pz_b (pz_N τ L 1 9 p) (fun p n => .inr (p, 5, a, b, n))))
  else if w = 6 then pz_b (pz_K τ L p) (fun p a => pz_b (pz_N τ L 0 (t_K D - 1) p) (fun p b => pz_b (pz_N τ L 1 9 p) (fun p n => .inr (p, 6, a, b, n))))
  else if w = 7 then pz_b (pz_N τ L 1 9 p) (fun p n => pz_b (pz_G τ L 91 p) (fun p _ => .inr (p, 7, 0, 0, n)))
  else pz_b (pz_N τ L 0 (D - 1) p) (fun p a => pz_b (pz_N τ L 0 (D - 1) p) (fun p b => .inr (p, w, a, b, 0)))
theorem pz_st3 {τ : Nat → Nat} {L D p : Nat} : pz_st τ L D 3 p = pz_b (pz_K τ L p) (fun p a => pz_b (pz_N τ L 0 (t_K D - 1) p) (fun p b => .inr (p, 3, a, b, 0))) := if_pos rfl
theorem pz_st4 {τ : Nat → Nat} {L D p : Nat} : pz_st τ L D 4 p = .inr (p, 4, 0, 0, 0) := rfl
theorem pz_st5 {τ : Nat → Nat} {L D p : Nat} : pz_st τ L D 5 p = pz_b (pz_N τ L 0 (D - 1) p) (fun p a => pz_b (pz_N τ L 0 (D - 1) p) (fun p b => pz_b (pz_N τ L 1 9 p) (fun p n => .inr (p, 5, a, b, n)))) := rfl
theorem pz_st6 {τ : Nat → Nat} {L D p : Nat} : pz_st τ L D 6 p = pz_b (pz_K τ L p) (fun p a => pz_b (pz_N τ L 0 (t_K D - 1) p) (fun p b => pz_b (pz_N τ L 1 9 p) (fun p n => .inr (p, 6, a, b, n)))) := rfl
theorem pz_st7 {τ : Nat → Nat} {L D p : Nat} : pz_st τ L D 7 p = pz_b (pz_N τ L 1 9 p) (fun p n => pz_b (pz_G τ L 91 p) (fun p _ => .inr (p, 7, 0, 0, n))) := rfl
theorem pz_st0 {τ : Nat → Nat} {L D w p : Nat} (h : w < 3) : pz_st τ L D w p = pz_b (pz_N τ L 0 (D - 1) p) (fun p a => pz_b (pz_N τ L 0 (D - 1) p) (fun p b => .inr (p, w, a, b, 0))) := by
  unfold pz_st
  rw [if_neg (by omega), if_neg (by omega), if_neg (by omega), if_neg (by omega), if_neg (by omega)]
/-- a step: m steps are there, k agains are open -/
def pz_s (τ : Nat → Nat) (L D m k p : Nat) : pz_f ⊕ (Nat × pz_4) := if t_kd τ L p = 8 then .inl (1, t_s τ L p) else if m = 30 then .inl (3, t_s τ L p) else if t_kd τ L p = 7 ∧ k = 2 then .inl (4, t_s τ L p) else pz_st τ L D (t_kd τ L p) (t_w τ L (t_s τ L p))
theorem t_kd_le {τ : Nat → Nat} {L p : Nat} : t_kd τ L p ≤ 8 := t_wf_le 8 0 rfl
theorem pz_N_r {τ : Nat → Nat} {L lo hi p q x : Nat} (hp : p ≤ L) (h : pz_N τ L lo hi p = .inr (q, x)) : p < q ∧ q ≤ L ∧ lo ≤ x ∧ x ≤ hi := by
  unfold pz_N at h
  split at h
  · rename_i c
    split at h
    · rename_i c2
      cases h
      have a1 := t_s_b (τ := τ) hp
      have a2 := t_e_gt c.1 c.2
      have a3 := t_e_le (τ := τ) (L := L) (L - t_s τ L p) (t_s τ L p) (by omega)
      omega
    · cases h
  · cases h
theorem pz_K_r {τ : Nat → Nat} {L p q x : Nat} (hp : p ≤ L) (h : pz_K τ L p = .inr (q, x)) : p ≤ q ∧ q ≤ L ∧ x < 2 := by
  unfold pz_K at h
  split at h
  · rename_i c
    cases h
    have a1 := t_s_b (τ := τ) hp
    have a3 := t_w_le (τ := τ) (L := L) (L - t_s τ L p) (t_s τ L p) (by omega)
    omega
  · cases h
theorem pz_G_r {τ : Nat → Nat} {L c p q x : Nat} (hp : p ≤ L) (h : pz_G τ L c p = .inr (q, x)) : p < q ∧ q ≤ L := by
  unfold pz_G at h
  split at h
  · rename_i c
    cases h
    have a1 := t_s_b (τ := τ) hp
    omega
  · cases h
/-- the reference: what a parse may change; what a step that is read may change -/
def pz_mf (v v1 : z_Dat) : Prop := (∀ b, b ≠ 223 → b ≠ 234 → b ≠ 235 → v1 b = v b) ∧ ∀ j, j ≠ 17 → j ≠ 18 → j ≠ 19 → j ≠ 20 → j ≠ 21 → j ≠ 23 → v1 223 j = v 223 j
def pz_ms (m : Nat) (v v1 : z_Dat) : Prop := (∀ b, b ≠ 223 → b ≠ 234 → v1 b = v b) ∧ (∀ j, j < 4 * m ∨ 4 * m + 4 ≤ j → v1 234 j = v 234 j) ∧ ∀ j, j ≠ 17 → j ≠ 19 → j ≠ 23 → v1 223 j = v 223 j
theorem pz_mf.rf {v : z_Dat} : pz_mf v v := ⟨fun _ _ _ _ => rfl, fun _ _ _ _ _ _ _ => rfl⟩
theorem pz_mf.tr {v v1 v2 : z_Dat} (h1 : pz_mf v v1) (h2 : pz_mf v1 v2) : pz_mf v v2 := ⟨fun b b1 b2 b3 => (h2.1 b b1 b2 b3).trans (h1.1 b b1 b2 b3), fun j j1 j2 j3 j4 j5 j6 => (h2.2 j j1 j2 j3 j4 j5 j6).trans (h1.2 j j1 j2 j3 j4 j5 j6)⟩
theorem pz_ms.f {m : Nat} {v v1 : z_Dat} (h : pz_ms m v v1) : pz_mf v v1 := ⟨fun b b1 b2 _ => h.1 b b1 b2, fun j j1 _ j3 _ _ j6 => h.2.2 j j1 j3 j6⟩
theorem m_nx.f {k : Nat} {v v1 : z_Dat} (h : m_nx k v v1) : pz_mf v v1 := ⟨fun b b1 b2 _ => h.1 b b1 b2, fun j _ _ j3 j4 j5 _ => h.2.2 j j3 j4 j5⟩
theorem m_ft.f {v v1 : z_Dat} (h : m_ft v v1) : pz_mf v v1 := ⟨fun b b1 _ _ => h.1 b b1, fun j _ _ j3 j4 j5 _ => h.2 j j3 j4 j5⟩
theorem m_at.f {v v1 : z_Dat} (h : m_at v v1) : pz_mf v v1 := ⟨fun b b1 _ _ => h.1 b b1, fun j _ _ j3 _ _ _ => h.2 j j3⟩
theorem m_a2.f {v v1 : z_Dat} (h : m_a2 v v1) : pz_mf v v1 := ⟨fun b b1 _ _ => h.1 b b1, fun j _ _ j3 _ _ j6 => h.2 j j3 j6⟩
theorem pz_mf.T {v v1 : z_Dat} {τ : Nat → Nat} {L : Nat} (h : pz_mf v v1) (hT : m_Ts2 v τ L) : m_Ts2 v1 τ L := by
  unfold m_Ts2
  rw [h.2 9 (by omega) (by omega) (by omega) (by omega) (by omega) (by omega), h.1 229 (by omega) (by omega) (by omega)]; exact hT
/-- a step that was read, as the reference keeps it -/
def pz_mr (v : z_Dat) (i : Nat) (s : pz_4) : Prop := (s.1 < 7 → m_sp v i s) ∧ (s.1 = 7 → v 234 (4 * i) = nI 7 ∧ v 234 (4 * i + 1) = nI s.2.2.2)
/-- a step is being read -/
def pz_A (v : z_Dat) (m w : Nat) (v1 : z_Dat) : Prop := pz_ms m v v1 ∧ v1 223 17 = nI (m + 1) ∧ v1 234 (4 * m) = nI w
theorem pz_A.nw {v v1 v2 : z_Dat} {m w t : Nat} (ht : 1 ≤ t ∧ t ≤ 3) (h : pz_A v m w v1) (g : m_nw (4 * m + t) v1 v2) : pz_A v m w v2 :=
  ⟨⟨fun b b1 b2 => (g.1 b b1 b2).trans (h.1.1 b b1 b2), fun j hj => (g.2.1 j (by omega)).trans (h.1.2.1 j hj), fun j j1 j2 j3 => (g.2.2 j j2).trans (h.1.2.2 j j1 j2 j3)⟩, (g.2.2 17 (by omega)).trans h.2.1, (g.2.1 _ (by omega)).trans h.2.2⟩
theorem pz_A.kd {v v1 v2 : z_Dat} {m w t : Nat} (ht : 1 ≤ t ∧ t ≤ 3) (h : pz_A v m w v1) (g1 : ∀ b, b ≠ 223 → b ≠ 234 → v2 b = v1 b) (g2 : ∀ j, j ≠ 4 * m + t → v2 234 j = v1 234 j) (g3 : ∀ j, j ≠ 19 → j ≠ 23 → v2 223 j = v1 223 j) : pz_A v m w v2 :=
  ⟨⟨fun b b1 b2 => (g1 b b1 b2).trans (h.1.1 b b1 b2), fun j hj => (g2 j (by omega)).trans (h.1.2.1 j hj), fun j j1 j2 j3 => (g3 j j2 j3).trans (h.1.2.2 j j1 j2 j3)⟩, (g3 17 (by omega) (by omega)).trans h.2.1, (g2 _ (by omega)).trans h.2.2⟩
theorem pz_A.at {v v1 v2 : z_Dat} {m w : Nat} (h : pz_A v m w v1) (g : m_at v1 v2) : pz_A v m w v2 :=
  ⟨⟨fun b b1 b2 => (g.1 b b1).trans (h.1.1 b b1 b2), fun j hj => (congrFun (g.1 234 (by omega)) j).trans (h.1.2.1 j hj), fun j j1 j2 j3 => (g.2 j j2).trans (h.1.2.2 j j1 j2 j3)⟩, (g.2 17 (by omega)).trans h.2.1, (congrFun (g.1 234 (by omega)) _).trans h.2.2⟩
theorem pz_4i {v : z_Dat} {m t : Nat} {x : Int32} (h : v 223 17 = nI m) (hx : x = nI t) : (4 : Int32) * (v 223 17) + x = nI (4 * m + t) := by rw [h, hx, show (4 : Int32) = nI 4 from rfl, pk_mul, nI_add]
section PM
variable {G : z_G} {d : Nat} {S : z_Shp} {v v0 : z_Dat} {Q : Option Value → z_Shp → z_Dat → Prop} {τ : Nat → Nat} {L p lo hi k c m D : Nat}
theorem sp_X11_num (hd : 1 ≤ d) (hL : z_L S) (hk : k < 128) (hh : hi ≤ 99) (hlo : lo ≤ 99) (hT : m_Ts2 v τ L) (hp : v 223 19 = nI p) (hpL : p ≤ L)
    (h1 : ∀ v1 q x, pz_N τ L lo hi p = .inr (q, x) → q ≤ L → v1 223 19 = nI q → v1 234 k = nI x → m_nw k v v1 → Q (some (.int 1)) S v1)
    (h0 : ∀ v1 f, pz_N τ L lo hi p = .inl f → v1 223 20 = nI f.1 → v1 223 21 = nI f.2 → m_nx k v v1 → Q (some (.int 0)) S v1) : z_J G d mX11_number (0, [.ref 223, .int (nI k), .int (nI lo), .int (nI hi), .null, .null, .null], [], S, v) Q := by
  refine sp_X11_number hd hL hk hh hlo hT hp hpL (fun v1 hok e1 e2 a => ?_) (fun v1 fk hf e1 e2 a => ?_)
  · have c : t_s τ L p < L ∧ 48 ≤ τ (t_s τ L p) ∧ τ (t_s τ L p) ≤ 57 := hok.1
    have e : pz_N τ L lo hi p = .inr (t_e τ L (t_s τ L p), t_n τ L (t_s τ L p) 0) := by unfold pz_N; rw [if_pos c, if_pos hok.2]
    exact h1 v1 _ _ e (pz_N_r hpL e).2.1 e1 e2 a
  · refine h0 v1 (fk, t_s τ L p) ?_ e1 e2 a
    unfold pz_N
    rcases hf with ⟨rfl, c⟩ | ⟨rfl, c, c2⟩
    · have c : ¬ (t_s τ L p < L ∧ 48 ≤ τ (t_s τ L p) ∧ τ (t_s τ L p) ≤ 57) := c
      rw [if_neg c]
    · have c3 : t_s τ L p < L ∧ 48 ≤ τ (t_s τ L p) ∧ τ (t_s τ L p) ≤ 57 := c
      rw [if_pos c3, if_neg (fun z => c2 ⟨c, z⟩)]
theorem sp_X11_knd (hd : 2 ≤ d) (hL : z_L S) (hk : k < 128) (hT : m_Ts2 v τ L) (hp : v 223 19 = nI p) (hpL : p ≤ L)
    (h1 : ∀ v1 q x, pz_K τ L p = .inr (q, x) → q ≤ L → v1 223 19 = nI q → v1 234 k = nI x → (∀ b, b ≠ 223 → b ≠ 234 → v1 b = v b) → (∀ j, j ≠ k → v1 234 j = v 234 j) → (∀ j, j ≠ 19 → j ≠ 23 → v1 223 j = v 223 j) → Q (some (.int 1)) S v1)
    (h0 : ∀ v1 f, pz_K τ L p = .inl f → v1 223 20 = nI f.1 → v1 223 21 = nI f.2 → pz_mf v v1 → Q (some (.int 0)) S v1) : z_J G d mX11_kind (0, [.ref 223, .int (nI k), .null], [], S, v) Q := by
  refine sp_X11_kind hd hL hk hT hp hpL (fun v1 c e1 e2 a1 a2 a3 => ?_) (fun v1 c e1 e2 a1 a2 => ?_)
  · have e : pz_K τ L p = .inr (t_w τ L (t_s τ L p), t_kd τ L p) := by unfold pz_K; rw [if_pos c]
    exact h1 v1 _ _ e (pz_K_r hpL e).2.1 e1 e2 a1 a2 a3
  · exact h0 v1 (1, t_s τ L p) (by unfold pz_K; rw [if_neg c]) e1 e2 ⟨fun b b1 _ _ => a1 b b1, fun j _ _ j3 j4 j5 j6 => a2 j j3 j6 j4 j5⟩
theorem sp_X11_sgn (hd : 1 ≤ d) (hL : z_L S) (hT : m_Ts2 v τ L) (hp : v 223 19 = nI p) (hpL : p ≤ L) (hc : c < 256)
    (h1 : ∀ v1 q x, pz_G τ L c p = .inr (q, x) → q ≤ L → v1 223 19 = nI q → m_at v v1 → Q (some (.int 1)) S v1)
    (h0 : ∀ v1 f, pz_G τ L c p = .inl f → v1 223 20 = nI f.1 → v1 223 21 = nI f.2 → m_ft v v1 → Q (some (.int 0)) S v1) : z_J G d mX11_sign (0, [.ref 223, .int (nI c)], [], S, v) Q := by
  refine sp_X11_sign hd hL hT hp hpL hc (fun v1 q e1 a => ?_) (fun v1 q e1 e2 a => ?_)
  · have q : t_s τ L p < L ∧ τ (t_s τ L p) = c := q
    have e : pz_G τ L c p = .inr (t_s τ L p + 1, 0) := by unfold pz_G; rw [if_pos q]
    exact h1 v1 _ _ e (pz_G_r hpL e).2 e1 a
  · have q : ¬ (t_s τ L p < L ∧ τ (t_s τ L p) = c) := q
    exact h0 v1 (1, t_s τ L p) (by unfold pz_G; rw [if_neg q]) e1 e2 a
theorem sp_X11_step (hd : 3 ≤ d) (hL : z_L S) (h35 : D = 3 ∨ D = 5) (hT : m_Ts2 v τ L) (hp : v 223 19 = nI p) (hpL : p ≤ L) (hD : v 224 0 = nI D) (hK : v 223 14 = nI (t_K D)) (hm : v 223 17 = nI m) (hm30 : m ≤ 30) (hk : v 223 18 = nI k) (hk2 : k ≤ 2)
    (h1 : ∀ v1 q s, pz_s τ L D m k p = .inr (q, s) → q ≤ L → v1 223 19 = nI q → v1 223 17 = nI (m + 1) → pz_mr v1 m s → pz_ms m v v1 → Q (some (.int 1)) S v1)
    (h0 : ∀ v1 f, pz_s τ L D m k p = .inl f → v1 223 20 = nI f.1 → v1 223 21 = nI f.2 → pz_mf v v1 → Q (some (.int 0)) S v1) : z_J G d mX11_step (0, [.ref 223, .null, .null, .null], [], S, v) Q := by
  obtain ⟨d, rfl⟩ : ∃ e, d = e + 1 := ⟨d - 1, by omega⟩
  have hl := hT.2.1
  have hq := t_s_b (τ := τ) hpL
  have hK12 := t_Kle h35
  have hK1 : 1 ≤ t_K D := by rcases h35 with rfl | rfl <;> decide
  have hw8 := t_kd_le (τ := τ) (L := L) (p := p)
  have hwe := t_w_le (τ := τ) (L := L) (L - t_s τ L p) (t_s τ L p) (by omega)
  have bad : ∀ (v5 : z_Dat) (fk : Nat) (x : Int32), x = nI fk → pz_s τ L D m k p = .inl (fk, t_s τ L p) → v5 223 19 = nI (t_s τ L p) → pz_mf v v5 → z_J G d mX11_bad (0, [.ref 223, .int x, .int (v5 223 19)], [], S, v5) (fun r S1 v34 => ∃ y28 : Int32, r = some (.int y28) ∧ S1 = S ∧ (narrow .boolean (.int y28) = .int y28 ∧ Q (some (.int y28)) S v34)) := by
    intro v5 fk x hx hs e5 a5
    rw [e5, hx]
    refine sg_X11_bad_0 hL (fun v2 e2 v3 e3 => ⟨_, rfl, rfl, rfl, ?_⟩)
    refine h0 v3 _ hs (by rw [e3, z_un (by omega), e2, z_ue rfl rfl]) (by rw [e3, z_ue rfl rfl]) (a5.tr ⟨fun b b1 b2 b3 => by rw [e3, z_u_ne b1, e2, z_u_ne b1], fun j _ _ _ j4 j5 _ => by rw [e3, z_un (Or.inr j5), e2, z_un (Or.inr j4)]⟩)
  have hs : pz_s τ L D m k p = if t_kd τ L p = 8 then .inl (1, t_s τ L p) else if m = 30 then .inl (3, t_s τ L p) else if t_kd τ L p = 7 ∧ k = 2 then .inl (4, t_s τ L p) else pz_st τ L D (t_kd τ L p) (t_w τ L (t_s τ L p)) := rfl
  refine sg_X11_step_0 hL ?_
  refine sp_X11_wordHere (by omega) hL hT hp hpL (fun v1 c e1 e2 a1 => ⟨_, rfl, rfl, ?_⟩) (fun v1 c e1 a1 => ⟨_, rfl, rfl, fun q => absurd q (by decide), fun _ => bad v1 1 1 rfl (by rw [hs]; exact if_pos c) e1 a1.f⟩)
  have c : t_kd τ L p < 8 := c
  have e17 : v1 223 17 = nI m := by rw [a1.2 17 (by omega) (by omega)]; exact hm
  have e18 : v1 223 18 = nI k := by rw [a1.2 18 (by omega) (by omega)]; exact hk
  have eD : ∀ v5 w, pz_A v m w v5 → v5 224 0 - 1 = nI (D - 1) := fun v5 w a => by
    rw [a.1.1 224 (by omega) (by omega), hD]; exact pk_sub (a := D) (b := 1) (by omega)
  have eK : ∀ v5 w, pz_A v m w v5 → v5 223 14 - 1 = nI (t_K D - 1) := fun v5 w a => by
    rw [a.1.2.2 14 (by omega) (by omega) (by omega), hK]; exact pk_sub (a := t_K D) (b := 1) hK1
  rw [show t_kw τ (t_s τ L p) (t_w τ L (t_s τ L p)) = t_kd τ L p from rfl]
  rw [hs] at h1 h0
  rw [if_neg (by omega)] at h1 h0
  generalize t_kd τ L p = w at *
  generalize t_w τ L (t_s τ L p) = q0 at *
  refine ⟨fun _ => ⟨fun cm => ?_, fun cm => ?_⟩, fun cc => absurd (Int32.not_lt.mp (nI_pos (by omega))) cc⟩
  rotate_left
  · have cm : m = 30 := by
      rw [e17] at cm
      exact (nI_eq (b := 30) (by omega) (by omega)).mp cm
    exact bad v1 3 3 rfl (by rw [hs, if_neg (by omega), if_pos cm]) e1 a1.f
  have cm : ¬ m = 30 := fun z => cm (by rw [e17, z]; rfl)
  rw [if_neg cm] at h1 h0
  have k0 : 4 * m < 128 := by omega
  have begun : ∀ v2 v3 v4 : z_Dat, v2 = z_u v1 223 19 (v1 223 23) → v3 = z_u v2 234 ((4 : Int32) * (v2 223 17)).toNatClampNeg (nI w) → v4 = z_u v3 223 17 ((v3 223 17) + 1) → pz_A v m w v4 ∧ v4 223 19 = nI q0 ∧ v2 223 17 = nI m := by
    intro v2 v3 v4 q2 q3 q4
    have f17 : v2 223 17 = nI m := by rw [q2, z_un (by omega)]; exact e17
    rw [f17, show (4 : Int32) = nI 4 from rfl, pk_mul, nI_clamp (by omega)] at q3
    have g17 : v3 223 17 = nI m := by rw [q3, z_u_ne (by omega)]; exact f17
    rw [g17, nI_1] at q4
    refine ⟨⟨⟨fun b b1 b2 => ?_, fun j hj => ?_, fun j j1 j2 j3 => ?_⟩, ?_, ?_⟩, ?_, f17⟩
    · rw [q4, z_u_ne b1, q3, z_u_ne b2, q2, z_u_ne b1]; exact a1.1 b b1
    · rw [q4, z_u_ne (by omega), q3, z_un (by omega), q2, z_u_ne (by omega)]; exact congrFun (a1.1 234 (by omega)) j
    · rw [q4, z_un (Or.inr j1), q3, z_u_ne (by omega), q2, z_un (Or.inr j2)]; exact a1.2 j j2 j3
    · rw [q4, z_ue rfl rfl]
    · rw [q4, z_u_ne (by omega), q3, z_ue rfl rfl]
    · rw [q4, z_un (by omega), q3, z_u_ne (by omega), q2, z_ue rfl rfl]; exact e2
  have hin : ∀ v2 : z_Dat, v2 = z_u v1 223 19 (v1 223 23) → vp_in ((4 : Int32) * (v2 223 17)) 128 := fun v2 q2 => by
    rw [q2, z_un (by omega), e17, show (4 : Int32) = nI 4 from rfl, pk_mul]; exact vp_in_nI (by omega) (by omega)
  have fn : ∀ {v5 v6 : z_Dat} {t : Nat}, pz_A v m w v5 → m_nx (4 * m + t) v5 v6 → pz_mf v v6 := fun a b => a.1.f.tr b.f
  refine ⟨fun c7 v2 q2 => ⟨hin v2 q2, fun v3 q3 v4 q4 => ?_⟩, fun c7 => ?_⟩
  · have n7 : ¬ w = 7 := fun z => c7 (by rw [z]; rfl)
    rw [if_neg (fun z => n7 z.1)] at h1 h0
    obtain ⟨A4, p4, f17⟩ := begun v2 v3 v4 q2 q3 q4
    rw [pz_4i (t := 1) (x := 1) f17 rfl, pz_4i (t := 2) (x := 2) f17 rfl, pz_4i (t := 3) (x := 3) f17 rfl, eD v4 w A4]
    refine ⟨fun z => ?_, fun z => ?_, fun z => ?_, fun z => ?_, fun z => absurd z c7, fun z3 z4 z5 z6 z7 => ?_⟩
    · have z : w = 3 := (nI_eq (b := 3) (by omega) (by omega)).mp z
      subst z
      rw [pz_st3] at h1 h0
      refine sp_X11_knd (by omega) hL (by omega) (A4.1.f.T hT) p4 (by omega) (fun v5 q5 x5 r5 l5 p5 y5 g1 g2 g3 => ⟨_, rfl, rfl, fun z => absurd z (by decide), fun _ => ?_⟩) (fun v5 f r5 y5 z5 g => ⟨_, rfl, rfl, fun _ => h0 v5 f (pz_b_l r5) y5 z5 (A4.1.f.tr g), fun z => absurd rfl z⟩)
      have A5 := A4.kd (t := 1) (by omega) g1 g2 g3
      rw [pz_b_r r5] at h1 h0
      rw [eK v5 3 A5]
      refine sp_X11_num (lo := 0) (by omega) hL (by omega) (by omega) (by omega) (A5.1.f.T hT) p5 l5 (fun v6 q6 x6 r6 l6 p6 y6 g => ⟨_, rfl, rfl, fun z => absurd z (by decide), fun _ => ?_⟩) (fun v6 f r6 y6 z6 g => ⟨_, rfl, rfl, fun _ => h0 v6 f (pz_b_l r6) y6 z6 (fn A5 g), fun z => absurd rfl z⟩)
      have A6 := A5.nw (t := 2) (by omega) g
      refine h1 v6 q6 _ (pz_b_r r6) l6 p6 A6.2.1 ⟨fun _ => ⟨A6.2.2, fun _ => ⟨?_, y6⟩, fun z => absurd z (by dsimp only; omega)⟩, fun z => absurd z (by dsimp only; omega)⟩ A6.1
      exact (g.2.1 _ (by omega)).trans y5
    · have z : w = 4 := (nI_eq (b := 4) (by omega) (by omega)).mp z
      subst z
      exact h1 v4 q0 _ pz_st4 (by omega) p4 A4.2.1 ⟨fun _ => ⟨A4.2.2, fun z => absurd rfl z, fun z => absurd z (by decide)⟩, fun z => absurd z (by decide)⟩ A4.1
    · have z : w = 5 := (nI_eq (b := 5) (by omega) (by omega)).mp z
      subst z
      rw [pz_st5] at h1 h0
      refine sp_X11_num (lo := 0) (by omega) hL (by omega) (by omega) (by omega) (A4.1.f.T hT) p4 (by omega) (fun v5 q5 x5 r5 l5 p5 y5 g5 => ⟨_, rfl, rfl, fun z => absurd z (by decide), fun _ => ?_⟩) (fun v5 f r5 y5 z5 g => ⟨_, rfl, rfl, fun _ => h0 v5 f (pz_b_l r5) y5 z5 (fn A4 g), fun z => absurd rfl z⟩)
      have A5 := A4.nw (t := 1) (by omega) g5
      rw [pz_b_r r5] at h1 h0
      refine sp_X11_num (lo := 0) (by omega) hL (by omega) (by omega) (by omega) (A5.1.f.T hT) p5 l5 (fun v6 q6 x6 r6 l6 p6 y6 g6 => ⟨_, rfl, rfl, fun z => absurd z (by decide), fun _ => ?_⟩) (fun v6 f r6 y6 z6 g => ⟨_, rfl, rfl, fun _ => h0 v6 f (pz_b_l r6) y6 z6 (fn A5 g), fun z => absurd rfl z⟩)
      have A6 := A5.nw (t := 2) (by omega) g6
      rw [pz_b_r r6] at h1 h0
      refine sp_X11_num (lo := 1) (hi := 9) (by omega) hL (by omega) (by omega) (by omega) (A6.1.f.T hT) p6 l6 (fun v7 q7 x7 r7 l7 p7 y7 g7 => ⟨_, rfl, rfl, fun z => absurd z (by decide), fun _ => ?_⟩) (fun v7 f r7 y7 z7 g => ⟨_, rfl, rfl, fun _ => h0 v7 f (pz_b_l r7) y7 z7 (fn A6 g), fun z => absurd rfl z⟩)
      have A7 := A6.nw (t := 3) (by omega) g7
      refine h1 v7 q7 _ (pz_b_r r7) l7 p7 A7.2.1 ⟨fun _ => ⟨A7.2.2, fun _ => ⟨?_, ?_⟩, fun _ => y7⟩, fun z => absurd z (by dsimp only; omega)⟩ A7.1
      · exact (g7.2.1 _ (by omega)).trans ((g6.2.1 _ (by omega)).trans y5)
      · exact (g7.2.1 _ (by omega)).trans y6
    · have z : w = 6 := (nI_eq (b := 6) (by omega) (by omega)).mp z
      subst z
      rw [pz_st6] at h1 h0
      refine sp_X11_knd (by omega) hL (by omega) (A4.1.f.T hT) p4 (by omega) (fun v5 q5 x5 r5 l5 p5 y5 g1 g2 g3 => ⟨_, rfl, rfl, fun z => absurd z (by decide), fun _ => ?_⟩) (fun v5 f r5 y5 z5 g => ⟨_, rfl, rfl, fun _ => h0 v5 f (pz_b_l r5) y5 z5 (A4.1.f.tr g), fun z => absurd rfl z⟩)
      have A5 := A4.kd (t := 1) (by omega) g1 g2 g3
      rw [pz_b_r r5] at h1 h0
      rw [eK v5 6 A5]
      refine sp_X11_num (lo := 0) (by omega) hL (by omega) (by omega) (by omega) (A5.1.f.T hT) p5 l5 (fun v6 q6 x6 r6 l6 p6 y6 g6 => ⟨_, rfl, rfl, fun z => absurd z (by decide), fun _ => ?_⟩) (fun v6 f r6 y6 z6 g => ⟨_, rfl, rfl, fun _ => h0 v6 f (pz_b_l r6) y6 z6 (fn A5 g), fun z => absurd rfl z⟩)
      have A6 := A5.nw (t := 2) (by omega) g6
      rw [pz_b_r r6] at h1 h0
      refine sp_X11_num (lo := 1) (hi := 9) (by omega) hL (by omega) (by omega) (by omega) (A6.1.f.T hT) p6 l6 (fun v7 q7 x7 r7 l7 p7 y7 g7 => ⟨_, rfl, rfl, fun z => absurd z (by decide), fun _ => ?_⟩) (fun v7 f r7 y7 z7 g => ⟨_, rfl, rfl, fun _ => h0 v7 f (pz_b_l r7) y7 z7 (fn A6 g), fun z => absurd rfl z⟩)
      have A7 := A6.nw (t := 3) (by omega) g7
      refine h1 v7 q7 _ (pz_b_r r7) l7 p7 A7.2.1 ⟨fun _ => ⟨A7.2.2, fun _ => ⟨?_, ?_⟩, fun _ => y7⟩, fun z => absurd z (by dsimp only; omega)⟩ A7.1
      · exact (g7.2.1 _ (by omega)).trans ((g6.2.1 _ (by omega)).trans y5)
      · exact (g7.2.1 _ (by omega)).trans y6
    · have n3 : ¬ w = 3 := fun z => z3 (by rw [z]; rfl)
      have n4 : ¬ w = 4 := fun z => z4 (by rw [z]; rfl)
      have n5 : ¬ w = 5 := fun z => z5 (by rw [z]; rfl)
      have n6 : ¬ w = 6 := fun z => z6 (by rw [z]; rfl)
      rw [pz_st0 (by omega)] at h1 h0
      refine sp_X11_num (lo := 0) (by omega) hL (by omega) (by omega) (by omega) (A4.1.f.T hT) p4 (by omega) (fun v5 q5 x5 r5 l5 p5 y5 g5 => ⟨_, rfl, rfl, fun z => absurd z (by decide), fun _ => ?_⟩) (fun v5 f r5 y5 z5 g => ⟨_, rfl, rfl, fun _ => h0 v5 f (pz_b_l r5) y5 z5 (fn A4 g), fun z => absurd rfl z⟩)
      have A5 := A4.nw (t := 1) (by omega) g5
      rw [pz_b_r r5] at h1 h0
      refine sp_X11_num (lo := 0) (by omega) hL (by omega) (by omega) (by omega) (A5.1.f.T hT) p5 l5 (fun v6 q6 x6 r6 l6 p6 y6 g6 => ⟨_, rfl, rfl, fun z => absurd z (by decide), fun _ => ?_⟩) (fun v6 f r6 y6 z6 g => ⟨_, rfl, rfl, fun _ => h0 v6 f (pz_b_l r6) y6 z6 (fn A5 g), fun z => absurd rfl z⟩)
      have A6 := A5.nw (t := 2) (by omega) g6
      refine h1 v6 q6 _ (pz_b_r r6) l6 p6 A6.2.1 ⟨fun _ => ⟨A6.2.2, fun _ => ⟨?_, y6⟩, fun z => ?_⟩, fun z => absurd z n7⟩ A6.1
      · exact (g6.2.1 _ (by omega)).trans y5
      · exact absurd z (by show ¬ (w = 5 ∨ w = 6); omega)
  · have w7 : w = 7 := (nI_eq (b := 7) (by omega) (by omega)).mp c7
    subst w7
    refine ⟨fun ck v2 q2 => ⟨hin v2 q2, fun v3 q3 v4 q4 => ?_⟩, fun ck => ?_⟩
    · have nk : ¬ k = 2 := fun z => ck (by rw [e18, z]; rfl)
      rw [if_neg (fun z => nk z.2)] at h1 h0
      obtain ⟨A4, p4, f17⟩ := begun v2 v3 v4 q2 q3 q4
      rw [pz_4i (t := 1) (x := 1) f17 rfl, pz_4i (t := 2) (x := 2) f17 rfl, pz_4i (t := 3) (x := 3) f17 rfl, eD v4 7 A4]
      refine ⟨fun z => absurd z (by decide), fun z => absurd z (by decide), fun z => absurd z (by decide), fun z => absurd z (by decide), fun _ => ?_, fun _ _ _ _ z => absurd rfl z⟩
      rw [pz_st7] at h1 h0
      refine sp_X11_num (lo := 1) (hi := 9) (by omega) hL (by omega) (by omega) (by omega) (A4.1.f.T hT) p4 (by omega) (fun v5 q5 x5 r5 l5 p5 y5 g5 => ⟨_, rfl, rfl, fun z => absurd z (by decide), fun _ => ?_⟩) (fun v5 f r5 y5 z5 g => ⟨_, rfl, rfl, fun _ => h0 v5 f (pz_b_l r5) y5 z5 (fn A4 g), fun z => absurd rfl z⟩)
      have A5 := A4.nw (t := 1) (by omega) g5
      rw [pz_b_r r5] at h1 h0
      refine sp_X11_sgn (c := 91) (by omega) hL (A5.1.f.T hT) p5 l5 (by omega) (fun v6 q6 x6 r6 l6 p6 g6 => ⟨_, rfl, rfl, fun z => absurd z (by decide), fun _ => ?_⟩) (fun v6 f r6 y6 z6 g => ⟨_, rfl, rfl, fun _ => h0 v6 f (pz_b_l r6) y6 z6 (A5.1.f.tr g.f), fun z => absurd rfl z⟩)
      have A6 := A5.at g6
      refine h1 v6 q6 _ (pz_b_r r6) l6 p6 A6.2.1 ⟨fun z => absurd z (by dsimp only; omega), fun _ => ⟨A6.2.2, ?_⟩⟩ A6.1
      exact (congrFun (g6.1 234 (by omega)) _).trans y5
    · have ck : k = 2 := by
        rw [e18] at ck
        exact (nI_eq (b := 2) (by omega) (by omega)).mp ck
      exact bad v1 4 4 rfl (by rw [hs, if_neg (by omega), if_neg cm, if_pos ⟨rfl, ck⟩]) e1 a1.f
end PM
