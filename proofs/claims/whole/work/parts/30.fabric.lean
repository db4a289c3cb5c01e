/-! THE WEAVE, as tables: faces (row, column, qubits), checks that a qubit is on, for the sizes 3 and 5 -/
def t_K (d : Nat) : Nat := (d * d - 1) / 2
def t_fiL3 : List Nat := [1, 1, 2, 2, 0, 0, 0, 0, 0, 0, 0, 0, 0, 1, 2, 3, 0, 0, 0, 0, 0, 0, 0, 0]
def t_fiL5 : List Nat := [1, 1, 1, 2, 2, 2, 3, 3, 3, 4, 4, 4, 0, 0, 1, 1, 2, 2, 3, 3, 4, 4, 5, 5]
/-- the row of a face -/
def t_fi (d κ k : Nat) : Nat := (if d = 3 then t_fiL3 else t_fiL5).getD (12 * κ + k) 0
def t_fjL3 : List Nat := [1, 3, 0, 2, 0, 0, 0, 0, 0, 0, 0, 0, 1, 2, 1, 2, 0, 0, 0, 0, 0, 0, 0, 0]
def t_fjL5 : List Nat := [1, 3, 5, 0, 2, 4, 1, 3, 5, 0, 2, 4, 1, 3, 2, 4, 1, 3, 2, 4, 1, 3, 2, 4]
/-- its column -/
def t_fj (d κ k : Nat) : Nat := (if d = 3 then t_fjL3 else t_fjL5).getD (12 * κ + k) 0
def t_fbL3 : List Nat := [27, 36, 72, 432, 0, 0, 0, 0, 0, 0, 0, 0, 3, 54, 216, 384, 0, 0, 0, 0, 0, 0, 0, 0]
def t_fbL5 : List Nat := [99, 396, 528, 1056, 6336, 25344, 101376, 405504, 540672, 1081344, 6488064, 25952256, 3, 12, 198, 792, 3168, 12672, 202752, 811008, 3244032, 12976128, 6291456, 25165824]
/-- its qubits -/
def t_fb (d κ k : Nat) : Nat := (if d = 3 then t_fbL3 else t_fbL5).getD (12 * κ + k) 0
def t_c1L3 : List Nat := [0, 0, 1, 0, 0, 1, 2, 3, 3, 0, 0, 0, 0, 0, 0, 0, 0, 0, 0, 0, 0, 0, 0, 0, 0, 0, 0, 1, 2, 1, 1, 2, 2, 3, 0, 0, 0, 0, 0, 0, 0, 0, 0, 0, 0, 0, 0, 0, 0, 0]
def t_c1L5 : List Nat := [0, 0, 1, 1, 2, 0, 0, 1, 1, 2, 3, 4, 4, 5, 5, 6, 6, 7, 7, 8, 9, 10, 10, 11, 11, 0, 0, 1, 1, 3, 4, 2, 2, 3, 3, 4, 4, 5, 5, 7, 8, 6, 6, 7, 7, 8, 8, 9, 9, 11]
/-- the first check that a qubit is on -/
def t_c1 (d κ k : Nat) : Nat := (if d = 3 then t_c1L3 else t_c1L5).getD (25 * κ + k) 0
def t_c2L3 : List Nat := [99, 99, 99, 2, 3, 3, 99, 99, 99, 99, 99, 99, 99, 99, 99, 99, 99, 99, 99, 99, 99, 99, 99, 99, 99, 99, 1, 99, 99, 2, 99, 99, 3, 99, 99, 99, 99, 99, 99, 99, 99, 99, 99, 99, 99, 99, 99, 99, 99, 99]
def t_c2L5 : List Nat := [99, 99, 99, 99, 99, 3, 4, 4, 5, 5, 6, 6, 7, 7, 8, 9, 10, 10, 11, 11, 99, 99, 99, 99, 99, 99, 2, 2, 3, 99, 99, 4, 5, 5, 99, 99, 6, 6, 7, 99, 99, 8, 9, 9, 99, 99, 10, 10, 11, 99]
/-- the second one (99: none) -/
def t_c2 (d κ k : Nat) : Nat := (if d = 3 then t_c2L3 else t_c2L5).getD (25 * κ + k) 99
def t_coL3 : List Nat := [1, 1, 2, 5, 9, 10, 4, 8, 8, 0, 0, 0, 0, 0, 0, 0, 0, 0, 0, 0, 0, 0, 0, 0, 0, 1, 3, 2, 4, 6, 2, 4, 12, 8, 0, 0, 0, 0, 0, 0, 0, 0, 0, 0, 0, 0, 0, 0, 0, 0]
def t_coL5 : List Nat := [1, 1, 2, 2, 4, 9, 17, 18, 34, 36, 72, 80, 144, 160, 288, 576, 1088, 1152, 2176, 2304, 512, 1024, 1024, 2048, 2048, 1, 5, 6, 10, 8, 16, 20, 36, 40, 8, 16, 80, 96, 160, 128, 256, 320, 576, 640, 128, 256, 1280, 1536, 2560, 2048]
/-- checks that a qubit is on, as bits -/
def t_co (d κ k : Nat) : Nat := (if d = 3 then t_coL3 else t_coL5).getD (25 * κ + k) 0
/-- row 0 (kind 0), column 0 (kind 1) as bits -/
def t_lb (d κ : Nat) : Nat := if d = 3 then (if κ = 0 then 7 else 73) else (if κ = 0 then 31 else 1082401)

/-- the tables of a weave -/
def p_W (v : z_Dat) (w d : Nat) : Prop := v w 0 = nI d ∧ v w 1 = nI (d * d) ∧ v w 2 = nI (t_K d) ∧ ∀ κ, κ < 2 → (v (w + 16) κ = nI (t_lb d κ) ∧ v (w + 17) κ = nI (t_lb d (1 - κ)) ∧
  (∀ k, k < t_K d → v (w + 2 + κ) k = nI (t_fi d κ k) ∧ v (w + 5 + κ) k = nI (t_fj d κ k) ∧ v (w + 8 + κ) k = nI (t_fb d κ k)) ∧
  (∀ q, q < d * d → v (w + 11 + κ) q = nI (t_c1 d κ q) ∧ v (w + 14 + κ) q = if t_c2 d κ q = 99 then -1 else nI (t_c2 d κ q)))
def p_Ws (v : z_Dat) : Prop := p_W v 1 3 ∧ p_W v 19 5
def p_wd (w d : Nat) : Prop := (w = 1 ∧ d = 3) ∨ (w = 19 ∧ d = 5)
/-- a fabric holds a row: size, rounds, slips (2), marks (2), readings (16), weights (25), lateness (24) -/
def p_F (S : z_Shp) (v : z_Dat) (f : Nat) (ρ : Nat → Nat) : Prop := (∃ w, z_r S f 0 = some w ∧ p_wd w (ρ 0)) ∧ v f 1 = nI (ρ 1) ∧
  (∀ κ, κ < 2 → (v (f + 1) κ = nI (ρ (2 + κ)) ∧ v (f + 2) κ = nI (ρ (4 + κ)) ∧ (∀ t, t < 8 → v (f + 4 + κ) t = nI (ρ (6 + 8 * κ + t))) ∧ ∀ k, k < 12 → v (f + 8 + κ) k = nI (ρ (47 + 12 * κ + k)))) ∧
  ∀ q, q < 25 → v (f + 6) q = nI (ρ (22 + q))
/-- a row that can be -/
def p_V (ρ : Nat → Nat) : Prop := (ρ 0 = 3 ∨ ρ 0 = 5) ∧ ρ 1 ≤ 8 ∧
  (∀ κ, κ < 2 → (ρ (2 + κ) < 2 ^ (ρ 0 * ρ 0) ∧ ρ (4 + κ) < 2 ^ t_K (ρ 0) ∧ (∀ t, t < 8 → ρ (6 + 8 * κ + t) < 2 ^ t_K (ρ 0)) ∧ ∀ k, k < 12 → (1 ≤ ρ (47 + 12 * κ + k) ∧ ρ (47 + 12 * κ + k) ≤ 9))) ∧
  ∀ q, q < 25 → (1 ≤ ρ (22 + q) ∧ ρ (22 + q) ≤ 9)
/-- how many bits are set, as Nat -/
def p_pc (a : Nat) : Nat := z_pcR 32 a
theorem p_pc_nI {a : Nat} (h : a < 2 ^ 32) : z_pc (nI a) = nI (p_pc a) := by
  unfold z_pc p_pc
  rw [pk_tn h]
theorem z_pcR_le : ∀ (k n : Nat), z_pcR k n ≤ k
  | 0, _ => Nat.le_refl _
  | k + 1, n => by
    have := z_pcR_le k (n / 2)
    rw [z_pcR]
    omega
theorem p_pc_le (a : Nat) : p_pc a ≤ 32 := z_pcR_le 32 a
/-- checks that are loud by slips, the first k of them -/
def p_ld (d κ sl : Nat) : Nat → Nat
  | 0 => 0
  | k + 1 => p_ld d κ sl k + p_pc (sl &&& t_fb d κ k) % 2 * 2 ^ k
theorem p_ld_lt (d κ sl : Nat) : ∀ k, p_ld d κ sl k < 2 ^ k
  | 0 => by simp [p_ld]
  | k + 1 => by
    have := p_ld_lt d κ sl k
    have h2 : p_pc (sl &&& t_fb d κ k) % 2 * 2 ^ k ≤ 2 ^ k := by
      rcases (show p_pc (sl &&& t_fb d κ k) % 2 = 0 ∨ p_pc (sl &&& t_fb d κ k) % 2 = 1 by omega) with e | e <;> rw [e] <;> simp
    rw [p_ld, Nat.pow_succ]
    omega
/-- checks that are loud by slips, as bits -/
def p_lo (d κ sl : Nat) : Nat := p_ld d κ sl (t_K d)
theorem p_lo_lt (d κ sl : Nat) : p_lo d κ sl < 2 ^ t_K d := p_ld_lt d κ sl _
theorem p_wdW {w d : Nat} (h : p_wd w d) : z_isW w := h.elim (fun q => Or.inl q.1) (fun q => Or.inr q.1)
theorem p_wdd {w d : Nat} (h : p_wd w d) : d = 3 ∨ d = 5 := h.elim (fun q => Or.inl q.2) (fun q => Or.inr q.2)
theorem p_wdP {v : z_Dat} {w d : Nat} (hW : p_Ws v) (h : p_wd w d) : p_W v w d := by
  rcases h with ⟨rfl, rfl⟩ | ⟨rfl, rfl⟩
  · exact hW.1
  · exact hW.2
theorem t_Kle {d : Nat} (h : d = 3 ∨ d = 5) : t_K d ≤ 12 := by rcases h with rfl | rfl <;> decide
theorem t_fb_lt (d κ k : Nat) : t_fb d κ k < 2 ^ 25 := by
  have key : ∀ (L : List Nat), (∀ x ∈ L, x < 2 ^ 25) → ∀ i, L.getD i 0 < 2 ^ 25 := by
    intro L hL i
    rw [List.getD_eq_getElem?_getD]
    cases h : L[i]? with
    | none => simp
    | some x => exact hL x (List.mem_of_getElem? h)
  unfold t_fb
  split
  · exact key _ (by decide) _
  · exact key _ (by decide) _
theorem p_and_lt {a b n : Nat} (h : b < n) : a &&& b < n := Nat.lt_of_le_of_lt Nat.and_le_right h
section FB
variable {G : z_G} {d : Nat} {S : z_Shp} {v : z_Dat} {Q : Option Value → z_Shp → z_Dat → Prop} {f κ : Nat} {ρ : Nat → Nat}
theorem sp_X0_loudOnes (hd : 1 ≤ d) (hL : z_L S) (hW : p_Ws v) (hf : z_isF f) (hF : p_F S v f ρ) (hκ : κ < 2) (h : Q (some (.int (nI (p_lo (ρ 0) κ (ρ (2 + κ)))))) S v) : z_J G d mX0_loudOnes (0, [.ref f, .int (nI κ), .null, .null], [], S, v) Q := by
  obtain ⟨d, rfl⟩ : ∃ e, d = e + 1 := ⟨d - 1, by omega⟩
  obtain ⟨⟨w, hr, hwd⟩, -, hF2, -⟩ := hF
  obtain ⟨h0, h1, h2, h3⟩ := p_wdP hW hwd
  have hK := t_Kle (p_wdd hwd)
  have key : ∀ j k, k + j = t_K (ρ 0) → z_J G (d + 1) mX0_loudOnes (4, [.ref f, .int (nI κ), .int (nI (p_ld (ρ 0) κ (ρ (2 + κ)) k)), .int (nI k)], [], S, v) Q := by
    intro j
    induction j with
    | zero =>
      intro k hk
      have hk : k = t_K (ρ 0) := by omega
      subst hk
      refine sg_X0_loudOnes_4 hL hf hr (p_wdW hwd) ⟨fun _ => h, fun c => absurd ?_ c⟩
      rw [h2]
      exact nI_le (Nat.le_refl _) (by omega)
    | succ j ih =>
      intro k hk
      refine sg_X0_loudOnes_4 hL hf hr (p_wdW hwd) ⟨fun c => ?_, fun _ => ⟨vp_in_nI hκ (by omega), vp_in_nI hκ (by omega), vp_in_nI (by omega) (by omega), ?_⟩⟩
      · rw [h2] at c
        exact absurd c (nI_ge (by omega) (by omega))
      · rw [nI_clamp (by omega), nI_clamp (by omega), (hF2 κ hκ).1, ((h3 κ hκ).2.2.1 k (by omega)).2.2, nx_and, p_pc_nI (Nat.lt_trans (p_and_lt (t_fb_lt _ _ _)) (by decide)), zb_a1 (by have := p_pc_le (ρ (2 + κ) &&& t_fb (ρ 0) κ k); omega), zb_put (p_ld_lt _ _ _ _) (by omega) (by omega), nI_1]
        exact ih (k + 1) (by omega)
  exact sg_X0_loudOnes_0 hf (key (t_K (ρ 0)) 0 (by omega))
end FB
