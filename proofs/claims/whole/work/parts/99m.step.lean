/-! the class' readStep, closeAgain -/
/-- the class: what a parse may change; what a step that is read may change -/
def cz_mf (v v1 : z_Dat) : Prop := (∀ b, b ≠ 141 → b < 143 ∨ 148 < b → v1 b = v b) ∧ ∀ j, j ≠ 1 → j ≠ 2 → j ≠ 10 → j ≠ 11 → j ≠ 12 → v1 141 j = v 141 j
def cz_ms (m : Nat) (v v1 : z_Dat) : Prop := (∀ b, b ≠ 141 → b < 143 ∨ 146 < b → v1 b = v b) ∧ (∀ a, 143 ≤ a → a ≤ 146 → ∀ j, j ≠ m → v1 a j = v a j) ∧ ∀ j, j ≠ 11 → j ≠ 12 → v1 141 j = v 141 j
theorem cz_mf.rf {v : z_Dat} : cz_mf v v := ⟨fun _ _ _ => rfl, fun _ _ _ _ _ _ => rfl⟩
theorem cz_mf.tr {v v1 v2 : z_Dat} (h1 : cz_mf v v1) (h2 : cz_mf v1 v2) : cz_mf v v2 := ⟨fun b b1 b2 => (h2.1 b b1 b2).trans (h1.1 b b1 b2), fun j j1 j2 j3 j4 j5 => (h2.2 j j1 j2 j3 j4 j5).trans (h1.2 j j1 j2 j3 j4 j5)⟩
theorem cz_ms.f {m : Nat} {v v1 : z_Dat} (h : cz_ms m v v1) : cz_mf v v1 := ⟨fun b b1 b2 => h.1 b b1 (by omega), fun j _ _ _ j4 j5 => h.2.2 j j4 j5⟩
theorem c_ft.f {v v1 : z_Dat} (h : c_ft v v1) : cz_mf v v1 := ⟨fun b b1 _ => h.1 b b1, fun j j1 j2 _ _ j5 => h.2 j j5 j1 j2⟩
theorem c_at.f {v v1 : z_Dat} (h : c_at v v1) : cz_mf v v1 := ⟨fun b b1 _ => h.1 b b1, fun j _ _ _ _ j5 => h.2 j j5⟩
theorem cz_mf.T {v v1 : z_Dat} {τ : Nat → Nat} {L : Nat} (h : cz_mf v v1) (hT : c_Tp v τ L) : c_Tp v1 τ L := by
  unfold c_Tp
  rw [h.2 0 (by omega) (by omega) (by omega) (by omega) (by omega), h.1 142 (by omega) (by omega)]; exact hT
/-- a step that was read, as the class keeps it -/
def cz_r (v : z_Dat) (i : Nat) (s : pz_4) : Prop := (s.1 < 7 → c_sp v i s) ∧ (s.1 = 7 → v 143 i = nI 7 ∧ v 146 i = nI s.2.2.2)
def cz_A (v : z_Dat) (m w : Nat) (v1 : z_Dat) : Prop := cz_ms m v v1 ∧ v1 141 11 = nI (m + 1) ∧ v1 143 m = nI w
theorem cz_A.nw {v v1 v2 : z_Dat} {m w a : Nat} (ha : 144 ≤ a ∧ a ≤ 146) (h : cz_A v m w v1) (g : c_nw a m v1 v2) : cz_A v m w v2 := by
  obtain ⟨⟨h1, h2, h3⟩, h4, h5⟩ := h
  obtain ⟨g1, g2, g3⟩ := g
  refine ⟨⟨fun b b1 b2 => (g1 b b1 (by omega)).trans (h1 b b1 b2), fun b b1 b2 j hj => ?_, fun j j1 j2 => (g3 j j2).trans (h3 j j1 j2)⟩, (g3 11 (by omega)).trans h4, ?_⟩
  · by_cases z : b = a
    · subst z; exact (g2 j hj).trans (h2 b b1 b2 j hj)
    · rw [g1 b (by omega) z]; exact h2 b b1 b2 j hj
  · rw [g1 143 (by omega) (by omega)]; exact h5
theorem cz_A.at {v v1 v2 : z_Dat} {m w : Nat} (h : cz_A v m w v1) (g : c_at v1 v2) : cz_A v m w v2 :=
  ⟨⟨fun b b1 b2 => (g.1 b b1).trans (h.1.1 b b1 b2), fun a a1 a2 j hj => (congrFun (g.1 a (by omega)) j).trans (h.1.2.1 a a1 a2 j hj), fun j j1 j2 => (g.2 j j2).trans (h.1.2.2 j j1 j2)⟩, (g.2 11 (by omega)).trans h.2.1, (congrFun (g.1 143 (by omega)) _).trans h.2.2⟩
section RS
variable {G : z_G} {d : Nat} {S : z_Shp} {v v0 : z_Dat} {Q : Option Value → z_Shp → z_Dat → Prop} {τ : Nat → Nat} {L D m k q w p : Nat} {x1 x2 : Int32}
theorem cz_pt {sy t : Nat} {c : Int32} (hd : 3 ≤ d) (hL : z_L S) (hy : sy < 14) (ht : t < z_slen.getD sy 0) (hc : (z_sbyt.getD sy []).getD t 0 = c)
    (h : z_J G d mX6_readPart (0, [.ref 141, .int c, .int (nI m)], [], S, v) (fun r S1 v1 => ∃ y1 : Int32, r = some (.int y1) ∧ S1 = S ∧ ((¬ y1 = 0 → (z_J G (d + 1) mX6_readStep (90, [.ref 141, .int x1, .int x2, .int (nI m), .ref (z_X + sy), .int (nI (t + 1))], [], S, v1) Q)) ∧ (y1 = 0 → (Q (some (.int 0)) S v1))))) :
    z_J G (d + 1) mX6_readStep (90, [.ref 141, .int x1, .int x2, .int (nI m), .ref (z_X + sy), .int (nI t)], [], S, v) Q := by
  have l5 : ∀ j, j < 14 → z_slen.getD j 0 ≤ 5 := by decide
  have h5 := l5 sy hy
  refine sg_X6_readStep_90 hL hy hd ?_
  rw [nI_clamp (n := t) (by omega), hc, nI_1]
  exact ⟨fun z => absurd z (nI_ge ht (by omega)), fun _ => ⟨vp_in_nI ht (by omega), h⟩⟩
theorem cz_ex {sy t : Nat} (hd : 3 ≤ d) (hL : z_L S) (hy : sy < 14) (ht : z_slen.getD sy 0 = t)
    (h : z_J G (d + 1) mX6_readStep (123, [.ref 141, .int x1, .int x2, .int (nI m), .ref (z_X + sy), .int (nI t)], [], S, v) Q) :
    z_J G (d + 1) mX6_readStep (90, [.ref 141, .int x1, .int x2, .int (nI m), .ref (z_X + sy), .int (nI t)], [], S, v) Q := by
  refine sg_X6_readStep_90 hL hy hd ?_
  rw [ht]
  exact ⟨fun _ => h, fun z => absurd (Int32.le_refl _) z⟩
/-- a number is read into row a; a kind; the bracket -/
theorem cz_pN {a lo hi : Nat} {c : Int32} (hd : 2 ≤ d) (hL : z_L S) (h35 : D = 3 ∨ D = 5) (hm : m < 30) (hT : c_Tp v τ L) (hτ : ∀ i, τ i < 256) (hp : v 141 12 = nI p) (hpL : p ≤ L) (h13 : v 141 13 = nI D) (h14 : v 141 14 = nI (t_K D))
    (hc : (c = 82 ∧ a = 144 ∧ lo = 0 ∧ hi = D - 1) ∨ (c = 67 ∧ a = 145 ∧ lo = 0 ∧ hi = D - 1) ∨ (c = 107 ∧ a = 145 ∧ lo = 0 ∧ hi = t_K D - 1) ∨ (c = 78 ∧ a = 146 ∧ lo = 1 ∧ hi = 9))
    (h1 : ∀ v1 q x, pz_N τ L lo hi p = .inr (q, x) → q ≤ L → v1 141 12 = nI q → v1 a m = nI x → c_nw a m v v1 → Q (some (.int 1)) S v1)
    (h0 : ∀ v1 f, pz_N τ L lo hi p = .inl f → v1 141 1 = nI f.1 → v1 141 2 = nI f.2 → c_ft v v1 → Q (some (.int 0)) S v1) : z_J G d mX6_readPart (0, [.ref 141, .int c, .int (nI m)], [], S, v) Q := by
  obtain ⟨d, rfl⟩ : ∃ e, d = e + 1 := ⟨d - 1, by omega⟩
  have hK12 := t_Kle h35
  have hK1 : 1 ≤ t_K D := by rcases h35 with rfl | rfl <;> decide
  have e13 : v 141 13 - 1 = nI (D - 1) := by rw [h13]; exact pk_sub (a := D) (b := 1) (by omega)
  have e14 : v 141 14 - 1 = nI (t_K D - 1) := by rw [h14]; exact pk_sub (a := t_K D) (b := 1) hK1
  refine sg_X6_readPart_0 hL ?_
  rw [e13, e14]
  rcases hc with ⟨rfl, rfl, rfl, rfl⟩ | ⟨rfl, rfl, rfl, rfl⟩ | ⟨rfl, rfl, rfl, rfl⟩ | ⟨rfl, rfl, rfl, rfl⟩
  · refine ⟨fun z => absurd z (by decide), fun z => absurd z (by decide), fun z => absurd z (by decide), fun _ => ?_, fun z => absurd z (by decide), fun _ _ _ z => absurd rfl z⟩
    exact sp_X6_num (a := 144) (lo := 0) (by omega) hL (zk_144 hL) (zl_144 hL) (by omega) hm (by omega) (by omega) hT hτ hp hpL (fun v1 q x r l e1 e2 g => ⟨_, rfl, rfl, rfl, h1 v1 q x r l e1 e2 g⟩) (fun v1 f r e1 e2 g => ⟨_, rfl, rfl, rfl, h0 v1 f r e1 e2 g⟩)
  · refine ⟨fun _ => ?_, fun z => absurd z (by decide), fun z => absurd z (by decide), fun z => absurd z (by decide), fun z => absurd z (by decide), fun z => absurd rfl z⟩
    exact sp_X6_num (a := 145) (lo := 0) (by omega) hL (zk_145 hL) (zl_145 hL) (by omega) hm (by omega) (by omega) hT hτ hp hpL (fun v1 q x r l e1 e2 g => ⟨_, rfl, rfl, rfl, h1 v1 q x r l e1 e2 g⟩) (fun v1 f r e1 e2 g => ⟨_, rfl, rfl, rfl, h0 v1 f r e1 e2 g⟩)
  · refine ⟨fun z => absurd z (by decide), fun z => absurd z (by decide), fun z => absurd z (by decide), fun z => absurd z (by decide), fun _ => ?_, fun _ _ _ _ z => absurd rfl z⟩
    exact sp_X6_num (a := 145) (lo := 0) (by omega) hL (zk_145 hL) (zl_145 hL) (by omega) hm (by omega) (by omega) hT hτ hp hpL (fun v1 q x r l e1 e2 g => ⟨_, rfl, rfl, rfl, h1 v1 q x r l e1 e2 g⟩) (fun v1 f r e1 e2 g => ⟨_, rfl, rfl, rfl, h0 v1 f r e1 e2 g⟩)
  · refine ⟨fun z => absurd z (by decide), fun z => absurd z (by decide), fun _ => ?_, fun z => absurd z (by decide), fun z => absurd z (by decide), fun _ _ z => absurd rfl z⟩
    exact sp_X6_num (a := 146) (lo := 1) (hi := 9) (by omega) hL (zk_146 hL) (zl_146 hL) (by omega) hm (by omega) (by omega) hT hτ hp hpL (fun v1 q x r l e1 e2 g => ⟨_, rfl, rfl, rfl, h1 v1 q x r l e1 e2 g⟩) (fun v1 f r e1 e2 g => ⟨_, rfl, rfl, rfl, h0 v1 f r e1 e2 g⟩)
theorem cz_pK (hd : 7 ≤ d) (hL : z_L S) (hm : m < 30) (hT : c_Tp v τ L) (hτ : ∀ i, τ i < 256) (hp : v 141 12 = nI p) (hpL : p ≤ L)
    (h1 : ∀ v1 q x, pz_K τ L p = .inr (q, x) → q ≤ L → v1 141 12 = nI q → v1 144 m = nI x → c_nw 144 m v v1 → Q (some (.int 1)) S v1)
    (h0 : ∀ v1 f, pz_K τ L p = .inl f → v1 141 1 = nI f.1 → v1 141 2 = nI f.2 → c_ft v v1 → Q (some (.int 0)) S v1) : z_J G d mX6_readPart (0, [.ref 141, .int 75, .int (nI m)], [], S, v) Q := by
  obtain ⟨d, rfl⟩ : ∃ e, d = e + 1 := ⟨d - 1, by omega⟩
  refine sg_X6_readPart_0 hL ?_
  refine ⟨fun z => absurd z (by decide), fun _ => ?_, fun z => absurd z (by decide), fun z => absurd z (by decide), fun z => absurd z (by decide), fun _ z => absurd rfl z⟩
  exact sp_X6_knd (by omega) hL hm hT hτ hp hpL (fun v1 q x r l e1 e2 g => ⟨_, rfl, rfl, rfl, h1 v1 q x r l e1 e2 g⟩) (fun v1 f r e1 e2 g => ⟨_, rfl, rfl, rfl, h0 v1 f r e1 e2 g⟩)
theorem cz_pG (hd : 2 ≤ d) (hL : z_L S) (hT : c_Tp v τ L) (hτ : ∀ i, τ i < 256) (hp : v 141 12 = nI p) (hpL : p ≤ L)
    (h1 : ∀ v1 q x, pz_G τ L 91 p = .inr (q, x) → q ≤ L → v1 141 12 = nI q → c_at v v1 → Q (some (.int 1)) S v1)
    (h0 : ∀ v1 f, pz_G τ L 91 p = .inl f → v1 141 1 = nI f.1 → v1 141 2 = nI f.2 → c_ft v v1 → Q (some (.int 0)) S v1) : z_J G d mX6_readPart (0, [.ref 141, .int 91, .int (nI m)], [], S, v) Q := by
  obtain ⟨d, rfl⟩ : ∃ e, d = e + 1 := ⟨d - 1, by omega⟩
  refine sg_X6_readPart_0 hL ?_
  refine ⟨fun z => absurd z (by decide), fun z => absurd z (by decide), fun z => absurd z (by decide), fun z => absurd z (by decide), fun z => absurd z (by decide), fun _ _ _ _ _ => ?_⟩
  exact sp_X6_sgn (c := 91) (by omega) hL hT hτ hp hpL (by omega) (fun v1 q x r l e1 g => ⟨_, rfl, rfl, rfl, h1 v1 q x r l e1 g⟩) (fun v1 f r e1 e2 g => ⟨_, rfl, rfl, rfl, h0 v1 f r e1 e2 g⟩)
/-- the parts of a step, up to its end -/
theorem cz_st (hd : 8 ≤ d) (hL : z_L S) (h35 : D = 3 ∨ D = 5) (hm : m < 30) (hw : w ≤ 7) (hT : c_Tp v0 τ L) (hτ : ∀ i, τ i < 256) (hp : v0 141 12 = nI p) (hpL : p ≤ L) (h13 : v 141 13 = nI D) (h14 : v 141 14 = nI (t_K D)) (hA : cz_A v m w v0)
    (h1 : ∀ (v1 : z_Dat) (q : Nat) (s : pz_4) (sy : Nat) (t : Int32), pz_st τ L D w p = .inr (q, s) → sy < 14 → q ≤ L → v1 141 12 = nI q → cz_r v1 m s → cz_A v m w v1 → z_J G d mX6_readStep (123, [.ref 141, .int x1, .int (nI w), .int (nI m), .ref (z_X + sy), .int t], [], S, v1) Q)
    (h0 : ∀ v1 f, pz_st τ L D w p = .inl f → v1 141 1 = nI f.1 → v1 141 2 = nI f.2 → cz_mf v v1 → Q (some (.int 0)) S v1) :
    z_J G (d - 1) mX6_shapeOf (0, [.int (nI w)], [], S, v0) (fun r S1 v3 => ∃ sy1 : Nat, sy1 < 14 ∧ r = some (.ref (z_X + sy1)) ∧ S1 = S ∧ (z_J G d mX6_readStep (90, [.ref 141, .int x1, .int (nI w), .int (nI m), .ref (z_X + sy1), .int 0], [], S, v3) Q)) := by
  obtain ⟨d, rfl⟩ : ∃ e, d = e + 1 := ⟨d - 1, by omega⟩
  have f13 : ∀ v5, cz_A v m w v5 → v5 141 13 = nI D := fun v5 a => by rw [a.1.2.2 13 (by omega) (by omega)]; exact h13
  have f14 : ∀ v5, cz_A v m w v5 → v5 141 14 = nI (t_K D) := fun v5 a => by rw [a.1.2.2 14 (by omega) (by omega)]; exact h14
  have fT : ∀ v5, c_Tp v5 τ L → ∀ v6, cz_mf v5 v6 → c_Tp v6 τ L := fun v5 a v6 g => g.T a
  refine sg_X6_shapeOf_0 ?_
  refine ⟨fun z => ⟨0, by omega, rfl, rfl, ?_⟩, fun z => ⟨1, by omega, rfl, rfl, ?_⟩, fun z => ⟨2, by omega, rfl, rfl, ?_⟩, fun z => ⟨3, by omega, rfl, rfl, ?_⟩, fun z => ⟨4, by omega, rfl, rfl, ?_⟩, fun z3 z4 z5 z6 z7 => ⟨5, by omega, rfl, rfl, ?_⟩⟩
  · have z : w = 3 := (nI_eq (b := 3) (by omega) (by omega)).mp z
    subst z
    rw [pz_st3] at h1 h0
    refine cz_pt (sy := 0) (t := 0) (c := 75) (by omega) hL (by omega) (by decide) rfl ?_
    refine cz_pK (by omega) hL hm hT hτ hp hpL (fun v5 q5 a5 r5 l5 p5 y5 g5 => ⟨_, rfl, rfl, fun _ => ?_, fun z => absurd z (by decide)⟩) (fun v5 f r5 y5 z5 g => ⟨_, rfl, rfl, fun z => absurd rfl z, fun _ => h0 v5 f (pz_b_l r5) y5 z5 (hA.1.f.tr g.f)⟩)
    have A5 := hA.nw (by omega) g5
    have T5 : c_Tp v5 τ L := by unfold c_Tp; rw [g5.2.2 0 (by omega), g5.1 142 (by omega) (by omega)]; exact hT
    rw [pz_b_r r5] at h1 h0
    refine cz_pt (sy := 0) (t := 1) (c := 107) (by omega) hL (by omega) (by decide) rfl ?_
    refine cz_pN (a := 145) (lo := 0) (hi := t_K D - 1) (by omega) hL h35 hm T5 hτ p5 l5 (f13 v5 A5) (f14 v5 A5) (by simp) (fun v6 q6 a6 r6 l6 p6 y6 g6 => ⟨_, rfl, rfl, fun _ => ?_, fun z => absurd z (by decide)⟩) (fun v6 f r6 y6 z6 g => ⟨_, rfl, rfl, fun z => absurd rfl z, fun _ => h0 v6 f (pz_b_l r6) y6 z6 (A5.1.f.tr g.f)⟩)
    have A6 := A5.nw (by omega) g6
    refine cz_ex (sy := 0) (t := 1 + 1) (by omega) hL (by omega) (by decide) ?_
    refine h1 v6 q6 _ 0 _ (pz_b_r r6) (by omega) l6 p6 ⟨fun _ => ⟨A6.2.2, fun _ => ⟨?_, y6⟩, fun z => absurd z (by dsimp only; omega)⟩, fun z => absurd z (by dsimp only; omega)⟩ A6
    rw [g6.1 144 (by omega) (by omega)]; exact y5
  · have z : w = 4 := (nI_eq (b := 4) (by omega) (by omega)).mp z
    subst z
    rw [pz_st4] at h1 h0
    refine cz_ex (sy := 1) (t := 0) (by omega) hL (by omega) (by decide) ?_
    exact h1 v0 p _ 1 _ rfl (by omega) hpL hp ⟨fun _ => ⟨hA.2.2, fun z => absurd rfl z, fun z => absurd z (by dsimp only; omega)⟩, fun z => absurd z (by dsimp only; omega)⟩ hA
  · have z : w = 5 := (nI_eq (b := 5) (by omega) (by omega)).mp z
    subst z
    rw [pz_st5] at h1 h0
    refine cz_pt (sy := 2) (t := 0) (c := 82) (by omega) hL (by omega) (by decide) rfl ?_
    refine cz_pN (a := 144) (lo := 0) (hi := D - 1) (by omega) hL h35 hm hT hτ hp hpL (f13 v0 hA) (f14 v0 hA) (by simp) (fun v5 q5 a5 r5 l5 p5 y5 g5 => ⟨_, rfl, rfl, fun _ => ?_, fun z => absurd z (by decide)⟩) (fun v5 f r5 y5 z5 g => ⟨_, rfl, rfl, fun z => absurd rfl z, fun _ => h0 v5 f (pz_b_l r5) y5 z5 (hA.1.f.tr g.f)⟩)
    have A5 := hA.nw (by omega) g5
    have T5 : c_Tp v5 τ L := by unfold c_Tp; rw [g5.2.2 0 (by omega), g5.1 142 (by omega) (by omega)]; exact hT
    rw [pz_b_r r5] at h1 h0
    refine cz_pt (sy := 2) (t := 1) (c := 67) (by omega) hL (by omega) (by decide) rfl ?_
    refine cz_pN (a := 145) (lo := 0) (hi := D - 1) (by omega) hL h35 hm T5 hτ p5 l5 (f13 v5 A5) (f14 v5 A5) (by simp) (fun v6 q6 a6 r6 l6 p6 y6 g6 => ⟨_, rfl, rfl, fun _ => ?_, fun z => absurd z (by decide)⟩) (fun v6 f r6 y6 z6 g => ⟨_, rfl, rfl, fun z => absurd rfl z, fun _ => h0 v6 f (pz_b_l r6) y6 z6 (A5.1.f.tr g.f)⟩)
    have A6 := A5.nw (by omega) g6
    have T6 : c_Tp v6 τ L := by unfold c_Tp; rw [g6.2.2 0 (by omega), g6.1 142 (by omega) (by omega)]; exact T5
    rw [pz_b_r r6] at h1 h0
    refine cz_pt (sy := 2) (t := 1 + 1) (c := 78) (by omega) hL (by omega) (by decide) rfl ?_
    refine cz_pN (a := 146) (lo := 1) (hi := 9) (by omega) hL h35 hm T6 hτ p6 l6 (f13 v6 A6) (f14 v6 A6) (by simp) (fun v7 q7 a7 r7 l7 p7 y7 g7 => ⟨_, rfl, rfl, fun _ => ?_, fun z => absurd z (by decide)⟩) (fun v7 f r7 y7 z7 g => ⟨_, rfl, rfl, fun z => absurd rfl z, fun _ => h0 v7 f (pz_b_l r7) y7 z7 (A6.1.f.tr g.f)⟩)
    have A7 := A6.nw (by omega) g7
    refine cz_ex (sy := 2) (t := 1 + 1 + 1) (by omega) hL (by omega) (by decide) ?_
    refine h1 v7 q7 _ 2 _ (pz_b_r r7) (by omega) l7 p7 ⟨fun _ => ⟨A7.2.2, fun _ => ⟨?_, ?_⟩, fun _ => y7⟩, fun z => absurd z (by dsimp only; omega)⟩ A7
    · rw [g7.1 144 (by omega) (by omega), g6.1 144 (by omega) (by omega)]; exact y5
    · rw [g7.1 145 (by omega) (by omega)]; exact y6
  · have z : w = 6 := (nI_eq (b := 6) (by omega) (by omega)).mp z
    subst z
    rw [pz_st6] at h1 h0
    refine cz_pt (sy := 3) (t := 0) (c := 75) (by omega) hL (by omega) (by decide) rfl ?_
    refine cz_pK (by omega) hL hm hT hτ hp hpL (fun v5 q5 a5 r5 l5 p5 y5 g5 => ⟨_, rfl, rfl, fun _ => ?_, fun z => absurd z (by decide)⟩) (fun v5 f r5 y5 z5 g => ⟨_, rfl, rfl, fun z => absurd rfl z, fun _ => h0 v5 f (pz_b_l r5) y5 z5 (hA.1.f.tr g.f)⟩)
    have A5 := hA.nw (by omega) g5
    have T5 : c_Tp v5 τ L := by unfold c_Tp; rw [g5.2.2 0 (by omega), g5.1 142 (by omega) (by omega)]; exact hT
    rw [pz_b_r r5] at h1 h0
    refine cz_pt (sy := 3) (t := 1) (c := 107) (by omega) hL (by omega) (by decide) rfl ?_
    refine cz_pN (a := 145) (lo := 0) (hi := t_K D - 1) (by omega) hL h35 hm T5 hτ p5 l5 (f13 v5 A5) (f14 v5 A5) (by simp) (fun v6 q6 a6 r6 l6 p6 y6 g6 => ⟨_, rfl, rfl, fun _ => ?_, fun z => absurd z (by decide)⟩) (fun v6 f r6 y6 z6 g => ⟨_, rfl, rfl, fun z => absurd rfl z, fun _ => h0 v6 f (pz_b_l r6) y6 z6 (A5.1.f.tr g.f)⟩)
    have A6 := A5.nw (by omega) g6
    have T6 : c_Tp v6 τ L := by unfold c_Tp; rw [g6.2.2 0 (by omega), g6.1 142 (by omega) (by omega)]; exact T5
    rw [pz_b_r r6] at h1 h0
    refine cz_pt (sy := 3) (t := 1 + 1) (c := 78) (by omega) hL (by omega) (by decide) rfl ?_
    refine cz_pN (a := 146) (lo := 1) (hi := 9) (by omega) hL h35 hm T6 hτ p6 l6 (f13 v6 A6) (f14 v6 A6) (by simp) (fun v7 q7 a7 r7 l7 p7 y7 g7 => ⟨_, rfl, rfl, fun _ => ?_, fun z => absurd z (by decide)⟩) (fun v7 f r7 y7 z7 g => ⟨_, rfl, rfl, fun z => absurd rfl z, fun _ => h0 v7 f (pz_b_l r7) y7 z7 (A6.1.f.tr g.f)⟩)
    have A7 := A6.nw (by omega) g7
    refine cz_ex (sy := 3) (t := 1 + 1 + 1) (by omega) hL (by omega) (by decide) ?_
    refine h1 v7 q7 _ 3 _ (pz_b_r r7) (by omega) l7 p7 ⟨fun _ => ⟨A7.2.2, fun _ => ⟨?_, ?_⟩, fun _ => y7⟩, fun z => absurd z (by dsimp only; omega)⟩ A7
    · rw [g7.1 144 (by omega) (by omega), g6.1 144 (by omega) (by omega)]; exact y5
    · rw [g7.1 145 (by omega) (by omega)]; exact y6
  · have z : w = 7 := (nI_eq (b := 7) (by omega) (by omega)).mp z
    subst z
    rw [pz_st7] at h1 h0
    refine cz_pt (sy := 4) (t := 0) (c := 78) (by omega) hL (by omega) (by decide) rfl ?_
    refine cz_pN (a := 146) (lo := 1) (hi := 9) (by omega) hL h35 hm hT hτ hp hpL (f13 v0 hA) (f14 v0 hA) (by simp) (fun v5 q5 a5 r5 l5 p5 y5 g5 => ⟨_, rfl, rfl, fun _ => ?_, fun z => absurd z (by decide)⟩) (fun v5 f r5 y5 z5 g => ⟨_, rfl, rfl, fun z => absurd rfl z, fun _ => h0 v5 f (pz_b_l r5) y5 z5 (hA.1.f.tr g.f)⟩)
    have A5 := hA.nw (by omega) g5
    have T5 : c_Tp v5 τ L := by unfold c_Tp; rw [g5.2.2 0 (by omega), g5.1 142 (by omega) (by omega)]; exact hT
    rw [pz_b_r r5] at h1 h0
    refine cz_pt (sy := 4) (t := 1) (c := 91) (by omega) hL (by omega) (by decide) rfl ?_
    refine cz_pG (by omega) hL T5 hτ p5 l5 (fun v6 q6 a6 r6 l6 p6 g6 => ⟨_, rfl, rfl, fun _ => ?_, fun z => absurd z (by decide)⟩) (fun v6 f r6 y6 z6 g => ⟨_, rfl, rfl, fun z => absurd rfl z, fun _ => h0 v6 f (pz_b_l r6) y6 z6 (A5.1.f.tr g.f)⟩)
    have A6 := A5.at g6
    refine cz_ex (sy := 4) (t := 1 + 1) (by omega) hL (by omega) (by decide) ?_
    refine h1 v6 q6 _ 4 _ (pz_b_r r6) (by omega) l6 p6 ⟨fun z => absurd z (by dsimp only; omega), fun _ => ⟨A6.2.2, ?_⟩⟩ A6
    rw [g6.1 146 (by omega)]; exact y5
  · have n3 : ¬ w = 3 := fun z => z3 (by rw [z]; rfl)
    have n4 : ¬ w = 4 := fun z => z4 (by rw [z]; rfl)
    have n5 : ¬ w = 5 := fun z => z5 (by rw [z]; rfl)
    have n6 : ¬ w = 6 := fun z => z6 (by rw [z]; rfl)
    have n7 : ¬ w = 7 := fun z => z7 (by rw [z]; rfl)
    rw [pz_st0 (by omega)] at h1 h0
    refine cz_pt (sy := 5) (t := 0) (c := 82) (by omega) hL (by omega) (by decide) rfl ?_
    refine cz_pN (a := 144) (lo := 0) (hi := D - 1) (by omega) hL h35 hm hT hτ hp hpL (f13 v0 hA) (f14 v0 hA) (by simp) (fun v5 q5 a5 r5 l5 p5 y5 g5 => ⟨_, rfl, rfl, fun _ => ?_, fun z => absurd z (by decide)⟩) (fun v5 f r5 y5 z5 g => ⟨_, rfl, rfl, fun z => absurd rfl z, fun _ => h0 v5 f (pz_b_l r5) y5 z5 (hA.1.f.tr g.f)⟩)
    have A5 := hA.nw (by omega) g5
    have T5 : c_Tp v5 τ L := by unfold c_Tp; rw [g5.2.2 0 (by omega), g5.1 142 (by omega) (by omega)]; exact hT
    rw [pz_b_r r5] at h1 h0
    refine cz_pt (sy := 5) (t := 1) (c := 67) (by omega) hL (by omega) (by decide) rfl ?_
    refine cz_pN (a := 145) (lo := 0) (hi := D - 1) (by omega) hL h35 hm T5 hτ p5 l5 (f13 v5 A5) (f14 v5 A5) (by simp) (fun v6 q6 a6 r6 l6 p6 y6 g6 => ⟨_, rfl, rfl, fun _ => ?_, fun z => absurd z (by decide)⟩) (fun v6 f r6 y6 z6 g => ⟨_, rfl, rfl, fun z => absurd rfl z, fun _ => h0 v6 f (pz_b_l r6) y6 z6 (A5.1.f.tr g.f)⟩)
    have A6 := A5.nw (by omega) g6
    refine cz_ex (sy := 5) (t := 1 + 1) (by omega) hL (by omega) (by decide) ?_
    refine h1 v6 q6 _ 5 _ (pz_b_r r6) (by omega) l6 p6 ⟨fun _ => ⟨A6.2.2, fun _ => ⟨?_, y6⟩, fun z => absurd z (by show ¬ (w = 5 ∨ w = 6); omega)⟩, fun z => absurd z n7⟩ A6
    rw [g6.1 144 (by omega) (by omega)]; exact y5
theorem sp_X6_readStep (hd : 8 ≤ d) (hL : z_L S) (h35 : D = 3 ∨ D = 5) (hT : c_Tp v τ L) (hτ : ∀ i, τ i < 256) (hp : v 141 12 = nI q) (hqL : q ≤ L) (hqs : t_s τ L q = q) (h13 : v 141 13 = nI D) (h14 : v 141 14 = nI (t_K D)) (hm : v 141 11 = nI m) (hm30 : m ≤ 30) (hk : v 141 10 = nI k) (hk2 : k ≤ 2)
    (h7 : ∀ v1 p s, pz_s τ L D m k q = .inr (p, s) → s.1 = 7 → p ≤ L → v1 141 12 = nI p → v1 141 11 = nI (m + 1) → v1 141 10 = nI (k + 1) → v1 148 k = nI m → (∀ t, t ≠ k → v1 148 t = v 148 t) → cz_r v1 m s → (∀ b, b ≠ 141 → b < 143 ∨ 146 < b → b ≠ 148 → v1 b = v b) → (∀ a, 143 ≤ a → a ≤ 146 → ∀ j, j ≠ m → v1 a j = v a j) → (∀ j, j ≠ 10 → j ≠ 11 → j ≠ 12 → v1 141 j = v 141 j) → Q (some (.int 1)) S v1)
    (h1 : ∀ v1 p s p2 x, pz_s τ L D m k q = .inr (p, s) → ¬ s.1 = 7 → pz_G τ L 59 p = .inr (p2, x) → p2 ≤ L → v1 141 12 = nI p2 → v1 141 11 = nI (m + 1) → cz_r v1 m s → cz_ms m v v1 → Q (some (.int 1)) S v1)
    (h0 : ∀ v1 e, (pz_s τ L D m k q = .inl e ∨ ∃ p s, pz_s τ L D m k q = .inr (p, s) ∧ ¬ s.1 = 7 ∧ pz_G τ L 59 p = .inl e) → v1 141 1 = nI e.1 → v1 141 2 = nI e.2 → cz_mf v v1 → Q (some (.int 0)) S v1) :
    z_J G d mX6_readStep (0, [.ref 141, .null, .null, .null, .null, .null], [], S, v) Q := by
  obtain ⟨d, rfl⟩ : ∃ e, d = e + 1 := ⟨d - 1, by omega⟩
  have w8 := t_kd_le (τ := τ) (L := L) (p := q)
  have hwe := t_w_le (τ := τ) (L := L) (L - q) q (by omega)
  have hs : pz_s τ L D m k q = if t_kd τ L q = 8 then .inl (1, q) else if m = 30 then .inl (3, q) else if t_kd τ L q = 7 ∧ k = 2 then .inl (4, q) else pz_st τ L D (t_kd τ L q) (t_w τ L q) := by unfold pz_s; rw [hqs]
  have bad : ∀ (v5 : z_Dat) (fk : Nat) (x : Int32), x = nI fk → pz_s τ L D m k q = .inl (fk, q) → cz_mf v v5 → z_J G d mX6_hasFault (0, [.ref 141, .int x, .int (nI q)], [], S, v5) (fun r S1 v3 => ∃ y3 : Int32, r = some (.int y3) ∧ S1 = S ∧ (narrow .boolean (.int y3) = .int y3 ∧ Q (some (.int y3)) S v3)) := by
    intro v5 fk x hx hs a5
    rw [hx]
    refine sg_X6_hasFault_0 hL (fun v3 e3 v4 e4 => ⟨_, rfl, rfl, rfl, ?_⟩)
    exact h0 v4 _ (Or.inl hs) (by rw [e4, z_un (by omega), e3, z_ue rfl rfl]) (by rw [e4, z_ue rfl rfl]) (a5.tr ⟨fun b b1 _ => by rw [e4, z_u_ne b1, e3, z_u_ne b1], fun j j1 j2 _ _ _ => by rw [e4, z_un (Or.inr j2), e3, z_un (Or.inr j1)]⟩)
  refine sg_X6_readStep_0 hL ?_
  rw [hp]
  refine sp_X6_readWord (by omega) hL hT hτ hp hqL (fun v1 e1 a1 => ⟨_, rfl, rfl, ?_⟩)
  have ekd : t_kw τ q (t_w τ L q) = t_kd τ L q := by unfold t_kd; rw [hqs]
  rw [ekd, a1.2 11 (by omega), a1.2 10 (by omega), hm, hk]
  refine ⟨fun c => ?_, fun c => ?_⟩
  · have c8 : ¬ t_kd τ L q = 8 := fun z => c (by unfold t_kI; rw [if_neg (by omega)])
    have ek : t_kI (t_kd τ L q) = nI (t_kd τ L q) := by unfold t_kI; rw [if_pos (by omega)]
    rw [ek]
    refine ⟨fun cm => ?_, fun cm => bad v1 3 3 rfl (by rw [hs, if_neg c8, if_pos (by rcases Nat.lt_or_ge m 30 with z | z; exact absurd (nI_lt (b := 30) z (by omega)) cm; omega)]) a1.f⟩
    have cm : m < 30 := (nI_ltI (b := 30) (by omega) (by omega)).mp cm
    have go : ¬ (t_kd τ L q = 7 ∧ k = 2) → z_J G (d + 1) mX6_readStep (59, [.ref 141, .int (nI q), .int (nI (t_kd τ L q)), .null, .null, .null], [], S, v1) Q := by
      intro c7
      rw [if_neg c8, if_neg (by omega), if_neg c7] at hs
      refine sg_X6_readStep_59 hL (fun v2 e2 => ?_)
      rw [show v1 141 11 = nI m by rw [a1.2 11 (by omega)]; exact hm] at e2 ⊢
      rw [nI_clamp (n := m) (by omega)]
      rw [nI_1] at e2
      refine ⟨vp_in_nI cm (by omega), fun v3 e3 => ?_⟩
      have A3 : cz_A v m (t_kd τ L q) v3 := by
        refine ⟨⟨fun b b1 b2 => ?_, fun a g1 g2 j hj => ?_, fun j j1 j2 => ?_⟩, ?_, ?_⟩
        · rw [e3, z_u_ne (by omega), e2, z_u_ne b1]; exact a1.1 b b1
        · rw [e3, z_un (Or.inr hj), e2, z_u_ne (by omega)]; exact congrFun (a1.1 a (by omega)) j
        · rw [e3, z_u_ne (by omega), e2, z_un (Or.inr j1)]; exact a1.2 j j2
        · rw [e3, z_u_ne (by omega), e2, z_ue rfl rfl]
        · rw [e3, z_ue rfl rfl]
      refine cz_st (v := v) (d := d + 1) (by omega) hL h35 cm (by omega) (A3.1.f.T hT) hτ (by rw [e3, z_u_ne (by omega), e2, z_un (by omega)]; exact e1) hwe.2 h13 h14 A3 (fun v5 p5 s5 sy t r5 ly l5 q5 row A5 => ?_) (fun v5 f r5 y5 z5 g => h0 v5 f (Or.inl (hs.trans r5)) y5 z5 g)
      have sw := (pz_st_r h35 (by omega) hwe.2 r5).2.2.2
      refine sg_X6_readStep_123 hL ly ⟨fun y7 => ?_, fun y7 => ?_⟩
      · have n7 : ¬ s5.1 = 7 := fun z => y7 (by rw [← sw, z]; rfl)
        exact sp_X6_sgn (c := 59) (by omega) hL (A5.1.f.T hT) hτ q5 l5 (by omega) (fun v6 q6 x6 r6 l6 p6 g => ⟨_, rfl, rfl, rfl, h1 v6 p5 s5 q6 x6 (hs.trans r5) n7 r6 l6 p6 (A5.at g).2.1 (by unfold cz_r c_sp; rw [g.1 143 (by omega), g.1 144 (by omega), g.1 145 (by omega), g.1 146 (by omega)]; exact row) (A5.at g).1⟩) (fun v6 f r6 y6 z6 g => ⟨_, rfl, rfl, rfl, h0 v6 f (Or.inr ⟨p5, s5, hs.trans r5, n7, r6⟩) y6 z6 (A5.1.f.tr g.f)⟩)
      · have s7 : t_kd τ L q = 7 := (nI_eq (b := 7) (by omega) (by omega)).mp y7
        have k1 : k < 2 := by omega
        rw [show v5 141 10 = nI k by rw [A5.1.2.2 10 (by omega) (by omega)]; exact hk, nI_clamp (n := k) (by omega)]
        refine ⟨vp_in_nI (by omega) (by omega), fun v6 e6 v7 e7 => ?_⟩
        rw [show v6 141 10 = nI k by rw [e6, z_u_ne (by omega), A5.1.2.2 10 (by omega) (by omega)]; exact hk, nI_1] at e7
        refine h7 v7 p5 s5 (hs.trans r5) (sw.trans s7) l5 (by rw [e7, z_un (by omega), e6, z_u_ne (by omega)]; exact q5) (by rw [e7, z_un (by omega), e6, z_u_ne (by omega)]; exact A5.2.1) (by rw [e7, z_ue rfl rfl]) (by rw [e7, z_u_ne (by omega), e6, z_ue rfl rfl]) (fun t ht => by rw [e7, z_u_ne (by omega), e6, z_un (Or.inr ht)]; exact congrFun (A5.1.1 148 (by omega) (by omega)) t) ?_ (fun b b1 b2 b3 => by rw [e7, z_u_ne b1, e6, z_u_ne b3]; exact A5.1.1 b b1 b2) (fun a g1 g2 j hj => by rw [e7, z_u_ne (by omega), e6, z_u_ne (by omega)]; exact A5.1.2.1 a g1 g2 j hj) (fun j j1 j2 j3 => by rw [e7, z_un (Or.inr j1), e6, z_u_ne (by omega)]; exact A5.1.2.2 j j2 j3)
        have u : ∀ b, 143 ≤ b → b ≤ 146 → v7 b = v5 b := fun b b1 b2 => by rw [e7, z_u_ne (by omega), e6, z_u_ne (by omega)]
        unfold cz_r c_sp
        rw [u 143 (by omega) (by omega), u 144 (by omega) (by omega), u 145 (by omega) (by omega), u 146 (by omega) (by omega)]; exact row
    refine ⟨fun c7 => go (fun z => c7 (by rw [z.1]; rfl)), fun c7 => ⟨fun ck => go (fun z => ?_), fun ck => ?_⟩⟩
    · have := (nI_ltI (b := 2) (by omega) (by omega)).mp ck
      omega
    · have s7 : t_kd τ L q = 7 := (nI_eq (b := 7) (by omega) (by omega)).mp c7
      have k2 : k = 2 := by
        rcases Nat.lt_or_ge k 2 with z | z
        · exact absurd (nI_lt (b := 2) z (by omega)) ck
        · omega
      exact bad v1 4 4 rfl (by rw [hs, if_neg c8, if_neg (by omega), if_pos ⟨s7, k2⟩]) a1.f
  · have c8 : t_kd τ L q = 8 := by
      rcases Nat.lt_or_ge (t_kd τ L q) 8 with z | z
      · unfold t_kI at c
        rw [if_pos z] at c
        exact absurd c (nI_n1 (by omega))
      · omega
    exact bad v1 1 1 rfl (by rw [hs, if_pos c8]) a1.f
end RS
