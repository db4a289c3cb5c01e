/-! THE LIGHTEST of the sets that look like one; the class' countSizes, weighRows, lookAt, seekLightest, lightestSet, leastChain, leastSize -/
def y_wt (w : Nat → Nat) (a : Nat) : Nat → Nat
  | 0 => 0
  | q + 1 => y_wt w a q + (if a / 2 ^ q % 2 = 1 then w q else 0)
theorem y_wt_le {w : Nat → Nat} {a : Nat} : ∀ n, (∀ q, q < n → w q ≤ 9) → y_wt w a n ≤ 9 * n
  | 0, _ => Nat.le_refl _
  | n + 1, h => by
    have := y_wt_le (w := w) (a := a) n (fun q hq => h q (by omega))
    have h2 := h n (by omega)
    rw [y_wt]
    split <;> omega
theorem y_wt_s {w : Nat → Nat} {a n : Nat} (h : a < 2 ^ n) : ∀ k, y_wt w a (n + k) = y_wt w a n
  | 0 => rfl
  | k + 1 => by
    rw [← Nat.add_assoc, y_wt, y_wt_s h k, Nat.div_eq_of_lt (Nat.lt_of_lt_of_le h (Nat.pow_le_pow_right (by omega) (by omega))), if_neg (by omega), Nat.add_zero]
theorem y_wt_x {w : Nat → Nat} {a i : Nat} (hb : a / 2 ^ i % 2 = 1) : ∀ n, (n ≤ i → y_wt w (a ^^^ 2 ^ i) n = y_wt w a n) ∧ (i < n → y_wt w (a ^^^ 2 ^ i) n + w i = y_wt w a n)
  | 0 => ⟨fun _ => rfl, fun h => by omega⟩
  | n + 1 => by
    have ih := y_wt_x (w := w) hb n
    rw [y_wt, y_wt]
    by_cases e : n = i
    · subst e
      rw [if_neg (q_xk hb), if_pos hb]
      exact ⟨fun h => by omega, fun _ => by rw [ih.1 (Nat.le_refl _), Nat.add_zero]⟩
    · have : (if (a ^^^ 2 ^ i) / 2 ^ n % 2 = 1 then w n else 0) = (if a / 2 ^ n % 2 = 1 then w n else 0) := by
        by_cases c : a / 2 ^ n % 2 = 1
        · rw [if_pos c, if_pos ((q_xb e).mpr c)]
        · rw [if_neg c, if_neg (fun z => c ((q_xb e).mp z))]
      rw [this]
      exact ⟨fun h => by rw [ih.1 (by omega)], fun h => by have := ih.2 (by omega); omega⟩
theorem y_wt_b {w : Nat → Nat} {a j : Nat} : ∀ k, k ≤ 5 → y_wt w a (5 * j + k) = y_wt w a (5 * j) + y_wt (fun q => w (5 * j + q)) (a / 2 ^ (5 * j) % 32) k
  | 0, _ => rfl
  | k + 1, h => by
    have ih := y_wt_b (w := w) (a := a) (j := j) k (by omega)
    rw [← Nat.add_assoc, y_wt, y_wt, ih]
    have e : a / 2 ^ (5 * j) % 32 / 2 ^ k % 2 = a / 2 ^ (5 * j + k) % 2 := by
      rw [← q_dd]
      generalize a / 2 ^ (5 * j) = x
      rcases (show k = 0 ∨ k = 1 ∨ k = 2 ∨ k = 3 ∨ k = 4 by omega) with rfl | rfl | rfl | rfl | rfl
      · rw [Nat.pow_zero]; omega
      · rw [Nat.pow_one]; omega
      · rw [show (2 : Nat) ^ 2 = 4 from rfl]; omega
      · rw [show (2 : Nat) ^ 3 = 8 from rfl]; omega
      · rw [show (2 : Nat) ^ 4 = 16 from rfl]; omega
    rw [e]
    omega
def y_w (ρ : Nat → Nat) (a : Nat) : Nat := y_wt (fun q => ρ (22 + q)) a 25
theorem y_w_le {ρ : Nat → Nat} (hV : p_V ρ) (a : Nat) : y_w ρ a ≤ 225 := y_wt_le 25 (fun q hq => (hV.2.2.2 q hq).2)
def y_w5 (ρ : Nat → Nat) (j b : Nat) : Nat := y_wt (fun q => ρ (22 + (5 * j + q))) b 5
theorem y_w_5 {ρ : Nat → Nat} {a : Nat} : y_w ρ a = y_w5 ρ 0 (a % 32) + y_w5 ρ 1 (a / 2 ^ 5 % 32) + y_w5 ρ 2 (a / 2 ^ 10 % 32) + y_w5 ρ 3 (a / 2 ^ 15 % 32) + y_w5 ρ 4 (a / 2 ^ 20 % 32) := by
  have h0 : y_wt (fun q => ρ (22 + q)) a 5 = 0 + y_w5 ρ 0 (a / 2 ^ (5 * 0) % 32) := y_wt_b (w := fun q => ρ (22 + q)) (a := a) (j := 0) 5 (Nat.le_refl _)
  have h1 : y_wt (fun q => ρ (22 + q)) a 10 = y_wt (fun q => ρ (22 + q)) a 5 + y_w5 ρ 1 (a / 2 ^ 5 % 32) := y_wt_b (w := fun q => ρ (22 + q)) (a := a) (j := 1) 5 (Nat.le_refl _)
  have h2 : y_wt (fun q => ρ (22 + q)) a 15 = y_wt (fun q => ρ (22 + q)) a 10 + y_w5 ρ 2 (a / 2 ^ 10 % 32) := y_wt_b (w := fun q => ρ (22 + q)) (a := a) (j := 2) 5 (Nat.le_refl _)
  have h3 : y_wt (fun q => ρ (22 + q)) a 20 = y_wt (fun q => ρ (22 + q)) a 15 + y_w5 ρ 3 (a / 2 ^ 15 % 32) := y_wt_b (w := fun q => ρ (22 + q)) (a := a) (j := 3) 5 (Nat.le_refl _)
  have h4 : y_wt (fun q => ρ (22 + q)) a 25 = y_wt (fun q => ρ (22 + q)) a 20 + y_w5 ρ 4 (a / 2 ^ 20 % 32) := y_wt_b (w := fun q => ρ (22 + q)) (a := a) (j := 4) 5 (Nat.le_refl _)
  rw [Nat.mul_zero, Nat.pow_zero, Nat.div_one, Nat.zero_add] at h0
  unfold y_w
  rw [h4, h3, h2, h1, h0]
/-- lighter, or as light and less -/
def y_LE (ρ : Nat → Nat) (a b : Nat) : Prop := y_w ρ a < y_w ρ b ∨ (y_w ρ a = y_w ρ b ∧ a ≤ b)
def y_mi (ρ : Nat → Nat) (b c : Nat) : Nat := if y_w ρ c < y_w ρ b ∨ (y_w ρ c = y_w ρ b ∧ c < b) then c else b
theorem y_LE_tr {ρ : Nat → Nat} {a b c : Nat} (h1 : y_LE ρ a b) (h2 : y_LE ρ b c) : y_LE ρ a c := by unfold y_LE at *; omega
theorem y_LE_as {ρ : Nat → Nat} {a b : Nat} (h1 : y_LE ρ a b) (h2 : y_LE ρ b a) : a = b := by unfold y_LE at *; omega
theorem y_LE_rf {ρ : Nat → Nat} {a : Nat} : y_LE ρ a a := Or.inr ⟨rfl, Nat.le_refl _⟩
theorem y_mi_le {ρ : Nat → Nat} {b c : Nat} : y_LE ρ (y_mi ρ b c) b ∧ y_LE ρ (y_mi ρ b c) c ∧ (y_mi ρ b c = b ∨ y_mi ρ b c = c) := by
  unfold y_mi
  by_cases h : y_w ρ c < y_w ρ b ∨ (y_w ρ c = y_w ρ b ∧ c < b)
  · rw [if_pos h]; exact ⟨by unfold y_LE; omega, y_LE_rf, Or.inr rfl⟩
  · rw [if_neg h]; exact ⟨y_LE_rf, by unfold y_LE; omega, Or.inl rfl⟩
def y_fm (ρ : Nat → Nat) (g : Nat → Nat) (b : Nat) : Nat → Nat
  | 0 => b
  | n + 1 => y_mi ρ (y_fm ρ g b n) (g n)
theorem y_fm_ok {ρ : Nat → Nat} {g : Nat → Nat} {b : Nat} : ∀ n, y_LE ρ (y_fm ρ g b n) b ∧ (∀ i, i < n → y_LE ρ (y_fm ρ g b n) (g i)) ∧ (y_fm ρ g b n = b ∨ ∃ i, i < n ∧ y_fm ρ g b n = g i)
  | 0 => ⟨y_LE_rf, fun i hi => by omega, Or.inl rfl⟩
  | n + 1 => by
    obtain ⟨h1, h2, h3⟩ := y_fm_ok (ρ := ρ) (g := g) (b := b) n
    obtain ⟨m1, m2, m3⟩ := y_mi_le (ρ := ρ) (b := y_fm ρ g b n) (c := g n)
    rw [y_fm]
    refine ⟨y_LE_tr m1 h1, fun i hi => ?_, ?_⟩
    · by_cases z : i = n
      · rw [z]; exact m2
      · exact y_LE_tr m1 (h2 i (by omega))
    · rcases m3 with e | e
      · rw [e]
        rcases h3 with e2 | ⟨i, hi, e2⟩
        · exact Or.inl e2
        · exact Or.inr ⟨i, by omega, e2⟩
      · exact Or.inr ⟨n, by omega, e⟩
/-- the least of all that are like a set -/
def y_lt (ρ : Nat → Nat) (κ s : Nat) : Nat := y_fm ρ (fun n => y_s (y_f (ρ 0) κ) (s ^^^ t_lb (ρ 0) (1 - κ)) n) (y_fm ρ (fun n => y_s (y_f (ρ 0) κ) s n) s (2 ^ t_K (ρ 0))) (2 ^ t_K (ρ 0))
theorem y_lt_m {ρ : Nat → Nat} {κ s : Nat} (h35 : ρ 0 = 3 ∨ ρ 0 = 5) : y_fm ρ (fun n => y_s (y_f (ρ 0) κ) s n) s (2 ^ (t_K (ρ 0) + 1)) = y_lt ρ κ s := by
  have hK : ∃ k, t_K (ρ 0) = k + 1 ∧ k ≤ 11 := by rcases h35 with e | e <;> rw [e]; exact ⟨3, by decide⟩; exact ⟨11, by decide⟩
  obtain ⟨k, ek, hk⟩ := hK
  have h2 : 2 ^ (t_K (ρ 0) + 1) = 2 ^ t_K (ρ 0) + 2 ^ t_K (ρ 0) := by rw [Nat.pow_succ]; omega
  have hp : 0 < 2 ^ t_K (ρ 0) := Nat.pow_pos (by omega)
  have eK : y_s (y_f (ρ 0) κ) s (2 ^ t_K (ρ 0)) = (s ^^^ t_lb (ρ 0) (1 - κ)) ^^^ y_f (ρ 0) κ k := by
    obtain ⟨p, hp2⟩ : ∃ p, 2 ^ t_K (ρ 0) = p + 1 := ⟨2 ^ t_K (ρ 0) - 1, by omega⟩
    have h3 := y_lo2 (k := t_K (ρ 0)) (by omega)
    have h4 := y_s_top (f := y_f (ρ 0) κ) k s (by omega)
    rw [← ek] at h4
    rw [hp2] at h3 h4 ⊢
    rw [Nat.add_sub_cancel] at h4
    rw [y_s, h3, h4]
    have : y_f (ρ 0) κ (t_K (ρ 0)) = t_lb (ρ 0) (1 - κ) := if_pos rfl
    rw [this, Nat.xor_assoc, Nat.xor_comm (y_f (ρ 0) κ k), ← Nat.xor_assoc]
  have sec : ∀ m, m < 2 ^ t_K (ρ 0) → y_s (y_f (ρ 0) κ) s (2 ^ t_K (ρ 0) + m) = y_s (y_f (ρ 0) κ) (s ^^^ t_lb (ρ 0) (1 - κ)) (2 ^ t_K (ρ 0) - 1 - m) := fun m hm => by
    rw [y_s_add (by omega) m hm, eK]
    have := y_s_rev (f := y_f (ρ 0) κ) (a := s ^^^ t_lb (ρ 0) (1 - κ)) (k := k) (by omega) m (by rw [← ek]; exact hm)
    rw [ek, this]
  unfold y_lt
  obtain ⟨a1, a2, a3⟩ := y_fm_ok (ρ := ρ) (g := fun n => y_s (y_f (ρ 0) κ) s n) (b := s) (2 ^ (t_K (ρ 0) + 1))
  obtain ⟨b1, b2, b3⟩ := y_fm_ok (ρ := ρ) (g := fun n => y_s (y_f (ρ 0) κ) s n) (b := s) (2 ^ t_K (ρ 0))
  obtain ⟨c1, c2, c3⟩ := y_fm_ok (ρ := ρ) (g := fun n => y_s (y_f (ρ 0) κ) (s ^^^ t_lb (ρ 0) (1 - κ)) n) (b := y_fm ρ (fun n => y_s (y_f (ρ 0) κ) s n) s (2 ^ t_K (ρ 0))) (2 ^ t_K (ρ 0))
  refine y_LE_as (ρ := ρ) ?_ ?_
  · rcases c3 with e | ⟨i, hi, e⟩
    · rw [e]
      rcases b3 with e2 | ⟨i, hi, e2⟩
      · rw [e2]; exact a1
      · rw [e2]; exact a2 i (by omega)
    · rw [e]
      have := a2 (2 ^ t_K (ρ 0) + (2 ^ t_K (ρ 0) - 1 - i)) (by omega)
      have e4 := sec (2 ^ t_K (ρ 0) - 1 - i) (by omega)
      rw [show 2 ^ t_K (ρ 0) - 1 - (2 ^ t_K (ρ 0) - 1 - i) = i by omega] at e4
      show y_LE ρ _ (y_s (y_f (ρ 0) κ) (s ^^^ t_lb (ρ 0) (1 - κ)) i)
      rw [← e4]; exact this
  · rcases a3 with e | ⟨i, hi, e⟩
    · rw [e]; exact y_LE_tr c1 b1
    · rw [e]
      rcases Nat.lt_or_ge i (2 ^ t_K (ρ 0)) with z | z
      · exact y_LE_tr c1 (b2 i z)
      · obtain ⟨m, hm⟩ : ∃ m, i = 2 ^ t_K (ρ 0) + m := ⟨i - 2 ^ t_K (ρ 0), by omega⟩
        show y_LE ρ _ (y_s (y_f (ρ 0) κ) s i)
        rw [hm, sec m (by omega)]
        exact c2 _ (by omega)
section LK
variable {G : z_G} {d : Nat} {S : z_Shp} {v v0 : z_Dat} {Q : Option Value → z_Shp → z_Dat → Prop} {ρ : Nat → Nat} {κ f : Nat}
theorem nI_1m {κ : Nat} (h : κ < 2) : (1 : Int32) - nI κ = nI (1 - κ) := pk_sub (a := 1) (by omega)
theorem sp_X3_countSizes {l : Nat} (hd : 2 ≤ d) (hL : z_L S) (hV : p_V ρ) (hW : p_Ws v) (hf : z_isF f) (hf2 : f < 196 ∨ 196 < f) (hF : p_F S v f ρ) (hκ : κ < 2) (hl : l < 2)
    (h : ∀ v1, (∀ z, z < 26 → v1 196 z = nI (y_lk (ρ 0) κ (ρ (2 + κ)) l z)) → (∀ b, b ≠ 196 → v1 b = v b) → Q none S v1) : z_J G d mX3_countSizes (0, [.ref 195, .ref f, .int (nI κ), .int (nI l), .null, .null, .null, .null], [], S, v) Q := by
  obtain ⟨d, rfl⟩ : ∃ e, d = e + 1 := ⟨d - 1, by omega⟩
  obtain ⟨⟨w, hw, hwd⟩, -, hF3, -⟩ := hF
  have hwW := p_wdW hwd
  have hPW := p_wdP hW hwd
  have hs := ((hV.2.2.1 κ hκ)).1
  have hd25 : ρ 0 * ρ 0 ≤ 25 := by rcases hV.1 with e | e <;> rw [e] <;> decide
  have hK := t_Kle hV.1
  have hfl : f + 1 < 196 ∨ 196 < f := by
    simp only [z_isF, List.mem_cons, List.not_mem_nil, or_false] at hf
    omega
  have hwl : w + 18 < 196 := by rcases hwd with ⟨e, _⟩ | ⟨e, _⟩ <;> omega
  have h2K : 2 ^ t_K (ρ 0) ≤ 4096 := Nat.pow_le_pow_right (n := 2) (by omega) hK
  have h2p : 0 < 2 ^ t_K (ρ 0) := Nat.pow_pos (by omega)
  have h2K1 : 2 ^ (t_K (ρ 0) + 1) = 2 ^ t_K (ρ 0) + 2 ^ t_K (ρ 0) := by rw [Nat.pow_succ]; omega
  have hp25 : 2 ^ (ρ 0 * ρ 0) ≤ 2 ^ 25 := Nat.pow_le_pow_right (by omega) hd25
  have ha0 : y_a0 (ρ 0) κ (ρ (2 + κ)) l < 2 ^ (ρ 0 * ρ 0) := by
    unfold y_a0
    split
    · exact hs
    · exact Nat.xor_lt_two_pow hs (y_tf hV.1 hκ).2.2
  have hsl : ∀ n, n < 2 ^ t_K (ρ 0) → y_s (y_f (ρ 0) κ) (y_a0 (ρ 0) κ (ρ (2 + κ)) l) n < 2 ^ (ρ 0 * ρ 0) := fun n hn => y_s_lt hV.1 hκ ha0 n (by omega)
  have hpc : ∀ n, n < 2 ^ t_K (ρ 0) → p_pc (y_s (y_f (ρ 0) κ) (y_a0 (ρ 0) κ (ρ (2 + κ)) l) n) ≤ 25 := fun n hn => Nat.le_trans (p_pc_lt (hsl n hn) (by omega)) hd25
  -- all presses
  have key : ∀ j n v1, n + 1 + j = 2 ^ t_K (ρ 0) → (∀ z, z < 26 → v1 196 z = nI (y_ct (fun n => p_pc (y_s (y_f (ρ 0) κ) (y_a0 (ρ 0) κ (ρ (2 + κ)) l) n)) z (n + 1))) → (∀ b, b ≠ 196 → v1 b = v b) → z_J G (d + 1) mX3_countSizes (72, [.ref 195, .ref f, .int (nI κ), .int (nI l), .ref w, .int (nI (y_s (y_f (ρ 0) κ) (y_a0 (ρ 0) κ (ρ (2 + κ)) l) n)), .int (nI (2 ^ t_K (ρ 0))), .int (nI (n + 1))], [], S, v1) Q := by
    intro j
    induction j with
    | zero =>
      intro n v1 hn k1 k2
      have hn : n + 1 = 2 ^ t_K (ρ 0) := by omega
      rw [hn] at k1 ⊢
      exact sg_X3_countSizes_72 hL hf hwW ⟨fun _ => h v1 k1 k2, fun c => absurd (nI_le (Nat.le_refl _) (by omega)) c⟩
    | succ j ih =>
      intro n v1 hn k1 k2
      have hlo := y_lo_lt (k := t_K (ρ 0)) (show 0 < n + 1 by omega) (by omega) (by omega)
      have efb : v1 (w + 8 + (1 - κ)) (q_lo (n + 1)) = nI (y_f (ρ 0) κ (q_lo (n + 1))) := by
        rw [k2 _ (by omega), (((hPW.2.2.2 (1 - κ) (by omega)).2.2.1 _ hlo).2.2)]
        unfold y_f
        rw [if_neg (by omega)]
      have hs1 := hsl (n + 1) (by omega)
      have hp1 := hpc (n + 1) (by omega)
      have es : y_s (y_f (ρ 0) κ) (y_a0 (ρ 0) κ (ρ (2 + κ)) l) n ^^^ y_f (ρ 0) κ (q_lo (n + 1)) = y_s (y_f (ρ 0) κ) (y_a0 (ρ 0) κ (ρ (2 + κ)) l) (n + 1) := by rw [y_s]
      have hle := y_ct_le (g := fun n => p_pc (y_s (y_f (ρ 0) κ) (y_a0 (ρ 0) κ (ρ (2 + κ)) l) n)) (z := p_pc (y_s (y_f (ρ 0) κ) (y_a0 (ρ 0) κ (ρ (2 + κ)) l) (n + 1))) (n + 1)
      refine sg_X3_countSizes_72 hL hf hwW ⟨fun c => absurd c (nI_ge (by omega) (by omega)), fun _ => ?_⟩
      rw [nI_1m hκ, nI_clamp (n := 1 - κ) (by omega), q_tz (by omega) (by omega), nI_clamp (n := q_lo (n + 1)) (by omega), efb, nx_xor, es, p_pc_nI (by omega), nI_clamp (n := p_pc (y_s (y_f (ρ 0) κ) (y_a0 (ρ 0) κ (ρ (2 + κ)) l) (n + 1))) (by omega), k1 _ (by omega), nI_1, nI_1]
      have hin : vp_in (nI (p_pc (y_s (y_f (ρ 0) κ) (y_a0 (ρ 0) κ (ρ (2 + κ)) l) (n + 1)))) 26 := vp_in_nI (by omega) (by omega)
      refine ⟨vp_in_nI (by omega) (by omega), vp_in_nI (by omega) (by omega), hin, hin, fun v2 e2 => ?_⟩
      refine ih (n + 1) v2 (by omega) (fun z hz => ?_) (fun b hb => by rw [e2, z_u_ne hb]; exact k2 b hb)
      rw [y_ct]
      by_cases c : z = p_pc (y_s (y_f (ρ 0) κ) (y_a0 (ρ 0) κ (ρ (2 + κ)) l) (n + 1))
      · rw [e2, z_ue rfl c, if_pos c.symm, c]
      · rw [e2, z_un (Or.inr c), if_neg (fun q => c q.symm), Nat.add_zero]; exact k1 z hz
  refine sg_X3_countSizes_0 hL hf hw hwW (sp_J7_fill (zk_196 hL) (by rw [zl_196 hL]; omega) (fun g hg => ⟨rfl, rfl, ?_⟩))
  have hin2 : vp_in (nI κ) 2 := vp_in_nI hκ (by omega)
  have esl : z_ua v 196 g (f + 1) κ = nI (ρ (2 + κ)) := by rw [z_uan (by omega)]; exact (hF3 κ hκ).1
  have hPW1 : p_W (z_ua v 196 g) w (ρ 0) := hPW.fr (fun a a1 a2 => z_ua_ne (by omega))
  rw [nI_clamp (by omega), esl]
  refine ⟨hin2, sp_X9_logicalOf hL hPW1 hwd hκ ?_ (by omega)⟩
  have e17 : z_ua v 196 g (w + 17) κ = nI (t_lb (ρ 0) (1 - κ)) := (hPW1.2.2.2 κ hκ).2.1
  have hls := y_lg_lt (ρ 0) κ (ρ (2 + κ))
  have start : ∀ a, a = y_a0 (ρ 0) κ (ρ (2 + κ)) l → ∀ v3 : z_Dat, v3 = z_u (z_ua v 196 g) 196 (z_pc (nI a)).toNatClampNeg (z_ua v 196 g 196 (z_pc (nI a)).toNatClampNeg + 1) → z_J G (d + 1) mX3_countSizes (72, [.ref 195, .ref f, .int (nI κ), .int (nI l), .ref w, .int (nI a), .int ((1 : Int32) <<< (v3 w 2 &&& 31)), .int 1], [], S, v3) Q := by
    intro a ea v3 e3
    have hpa := hpc 0 (by omega)
    have hpa : p_pc a ≤ 25 := by rw [ea]; exact hpa
    have hal : a < 2 ^ 32 := by rw [ea]; omega
    rw [p_pc_nI hal, nI_clamp (by omega), z_uae rfl, hg _ (by rw [zl_196 hL]; omega)] at e3
    have e2 : v3 w 2 = nI (t_K (ρ 0)) := by rw [e3, z_u_ne (by omega), z_ua_ne (by omega)]; exact hPW.2.2.1
    rw [e2, zb_1 (by omega), ea]
    refine key (2 ^ t_K (ρ 0) - 1) 0 v3 (by omega) (fun z hz => ?_) (fun b hb => by rw [e3, z_u_ne hb, z_ua_ne hb])
    show v3 196 z = nI (0 + (if p_pc (y_a0 (ρ 0) κ (ρ (2 + κ)) l) = z then 1 else 0))
    rw [Nat.zero_add, ← ea]
    by_cases c : z = p_pc a
    · rw [e3, z_ue rfl c, if_pos c.symm]; rfl
    · rw [e3, z_un (Or.inr c), z_uae rfl, hg z (by rw [zl_196 hL]; exact hz), if_neg (fun q => c q.symm)]; rfl
  have hin : ∀ a, a = y_a0 (ρ 0) κ (ρ (2 + κ)) l → vp_in (z_pc (nI a)) 26 := fun a ea => by
    have hpa := hpc 0 (by omega)
    have hpa : p_pc a ≤ 25 := by rw [ea]; exact hpa
    rw [p_pc_nI (by rw [ea]; omega)]
    exact vp_in_nI (by omega) (by omega)
  refine ⟨_, rfl, rfl, fun c => ?_, fun c => ?_⟩
  · have c := (nI_eq (by omega) (by omega)).mp c
    have ea : ρ (2 + κ) = y_a0 (ρ 0) κ (ρ (2 + κ)) l := by unfold y_a0; rw [if_pos c]
    exact ⟨hin _ ea, hin _ ea, fun v3 e3 => start _ ea v3 e3⟩
  · have c : ¬ p_lg (ρ 0) κ (ρ (2 + κ)) = l := fun z => c (by rw [z])
    have ea : ρ (2 + κ) ^^^ t_lb (ρ 0) (1 - κ) = y_a0 (ρ 0) κ (ρ (2 + κ)) l := by unfold y_a0; rw [if_neg c]
    rw [e17, nx_xor]
    exact ⟨hin2, hin _ ea, hin _ ea, fun v3 e3 => start _ ea v3 e3⟩
/-- the class' weights of five qubits at a time -/
def c_w5 (ρ : Nat → Nat) (v : z_Dat) : Prop := ∀ j, j < 5 → ∀ b, b < 32 → v 197 (j * 32 + b) = nI (y_w5 ρ j b)
theorem y_w5_le {j b : Nat} (hV : p_V ρ) (hj : j < 5) : y_w5 ρ j b ≤ 45 := y_wt_le 5 (fun q hq => (hV.2.2.2 _ (by omega)).2)
theorem sp_X3_weighRows (hd : 1 ≤ d) (hL : z_L S) (hV : p_V ρ) (hf : z_isF f) (hF : p_F S v f ρ)
    (h : ∀ v1, c_w5 ρ v1 → v1 195 2 = -1 → v1 195 3 = 1000 → (∀ b, b ≠ 195 → b ≠ 197 → v1 b = v b) → Q none S v1) : z_J G d mX3_weighRows (0, [.ref 195, .ref f, .null, .null, .null], [], S, v) Q := by
  obtain ⟨d, rfl⟩ : ∃ e, d = e + 1 := ⟨d - 1, by omega⟩
  obtain ⟨-, -, -, hF4⟩ := hF
  have hfl : f + 6 < 195 ∨ 197 < f := by
    simp only [z_isF, List.mem_cons, List.not_mem_nil, or_false] at hf
    omega
  refine sg_X3_weighRows_0 hL hf (fun v1 e1 v2 e2 => ?_)
  have w2 : ∀ b, b ≠ 195 → v2 b = v b := fun b hb => by rw [e2, z_u_ne hb, e1, z_u_ne hb]
  have outer : ∀ m j v3, j + m = 5 → (∀ j', j' < j → ∀ b, b < 32 → v3 197 (j' * 32 + b) = nI (y_w5 ρ j' b)) → (∀ b, b ≠ 197 → v3 b = v2 b) → z_J G (d + 1) mX3_weighRows (14, [.ref 195, .ref f, .int (nI j), .null, .null], [], S, v3) Q := by
    intro m
    induction m with
    | zero =>
      intro j v3 hj k1 k2
      have hj : j = 5 := by omega
      subst hj
      refine sg_X3_weighRows_14 hL hf ⟨fun _ => h v3 k1 ?_ ?_ (fun b b1 b2 => by rw [k2 b b2, w2 b b1]), fun c => absurd (by decide) c⟩
      · rw [k2 195 (by omega), e2, z_un (by omega), e1, z_ue rfl rfl]
      · rw [k2 195 (by omega), e2, z_ue rfl rfl]
    | succ m ih =>
      intro j v3 hj k1 k2
      refine sg_X3_weighRows_14 hL hf ⟨fun c => absurd c (nI_ge (b := 5) (by omega) (by omega)), fun _ => ?_⟩
      rw [show (32 : Int32) = nI 32 from rfl, pk_mul, nI_clamp (by omega)]
      refine ⟨vp_in_nI (by omega) (by omega), fun v4 e4 => ?_⟩
      have inner : ∀ n b v5, b + n = 32 → 0 < b → (∀ b', b' < b → v5 197 (j * 32 + b') = nI (y_w5 ρ j b')) → (∀ j', j' < j → ∀ b, b < 32 → v5 197 (j' * 32 + b) = nI (y_w5 ρ j' b)) → (∀ b, b ≠ 197 → v5 b = v2 b) → z_J G (d + 1) mX3_weighRows (31, [.ref 195, .ref f, .int (nI j), .int (nI b), .null], [], S, v5) Q := by
        intro n
        induction n with
        | zero =>
          intro b v5 hb h0 g1 g2 g3
          have hb : b = 32 := by omega
          subst hb
          refine sg_X3_weighRows_31 hL hf ⟨fun _ => ?_, fun c => absurd (by decide) c⟩
          rw [nI_1]
          refine ih (j + 1) v5 (by omega) (fun j' hj' b hb => ?_) g3
          by_cases z : j' = j
          · rw [z]; exact g1 b hb
          · exact g2 j' (by omega) b hb
        | succ n ihn =>
          intro b v5 hb h0 g1 g2 g3
          obtain ⟨⟨hbl, hlow⟩, hi14⟩ := q_lo_ok h0 (show b < 16384 by omega)
          have hlo := q_bN (N := 5) (show b < 2 ^ 5 by omega) hbl
          have hlt := q_lt hbl
          have hx := (y_wt_x (w := fun q => ρ (22 + (5 * j + q))) hbl 5).2 hlo
          have e6 : v5 (f + 6) (j * 5 + q_lo b) = nI (ρ (22 + (5 * j + q_lo b))) := by
            rw [g3 _ (by omega), w2 _ (by omega), hF4 _ (by omega), Nat.mul_comm]
          refine sg_X3_weighRows_31 hL hf ⟨fun c => absurd c (nI_ge (b := 32) (by omega) (by omega)), fun _ => ?_⟩
          rw [q_dropI h0 (by omega), q_tz h0 (by omega), show (32 : Int32) = nI 32 from rfl, show (5 : Int32) = nI 5 from rfl, pk_mul, pk_mul, nI_add, nI_add, nI_add, nI_clamp (n := j * 32 + (b ^^^ 2 ^ q_lo b)) (by omega), nI_clamp (n := j * 5 + q_lo b) (by omega), nI_clamp (n := j * 32 + b) (by omega), g1 _ hlt, e6, nI_add, nI_1]
          refine ⟨vp_in_nI (by omega) (by omega), vp_in_nI (by omega) (by omega), vp_in_nI (by omega) (by omega), fun v6 e6' => ?_⟩
          refine ihn (b + 1) v6 (by omega) (by omega) (fun b' hb' => ?_) (fun j' hj' b' hb' => by rw [e6', z_un (by omega)]; exact g2 j' hj' b' hb') (fun b hb => by rw [e6', z_u_ne hb]; exact g3 b hb)
          by_cases z : b' = b
          · rw [z, e6', z_ue rfl rfl]
            congr 1
          · rw [e6', z_un (by omega)]; exact g1 b' (by omega)
      refine inner 31 1 v4 (by omega) (by omega) (fun b' hb' => ?_) (fun j' hj' b hb => by rw [e4, z_un (by omega)]; exact k1 j' hj' b hb) (fun b hb => by rw [e4, z_u_ne hb]; exact k2 b hb)
      have : b' = 0 := by omega
      subst this
      rw [Nat.add_zero, e4, z_ue rfl rfl]
      have : y_w5 ρ j 0 = 0 := by
        have := y_wt_s (w := fun q => ρ (22 + (5 * j + q))) (a := 0) (n := 0) (by decide) 5
        exact this
      rw [this]; rfl
  exact outer 5 0 v2 (Nat.zero_add _) (fun j' hj' => by omega) (fun _ _ => rfl)
/-- the best so far -/
def c_bs (ρ : Nat → Nat) (v : z_Dat) (o : Option Nat) : Prop := match o with
  | none => v 195 2 = -1 ∧ v 195 3 = 1000
  | some b => v 195 2 = nI b ∧ v 195 3 = nI (y_w ρ b) ∧ b < 2 ^ 25
def y_mo (ρ : Nat → Nat) (o : Option Nat) (c : Nat) : Nat := match o with
  | none => c
  | some b => y_mi ρ b c
theorem y_set (a : Nat) (ha : a < 2 ^ 25) : (nI a &&& 31 = nI (a % 32)) ∧ ((nI a >>> ((5 : Int32) &&& 31)) &&& 31 = nI (a / 2 ^ 5 % 32)) ∧ ((nI a >>> ((10 : Int32) &&& 31)) &&& 31 = nI (a / 2 ^ 10 % 32)) ∧ ((nI a >>> ((15 : Int32) &&& 31)) &&& 31 = nI (a / 2 ^ 15 % 32)) ∧ ((nI a >>> ((20 : Int32) &&& 31)) &&& 31 = nI (a / 2 ^ 20 % 32)) := by
  have m : ∀ x, nI x &&& 31 = nI (x % 32) := fun x => by
    rw [show (31 : Int32) = nI (2 ^ 5 - 1) by decide, nx_and, Nat.and_two_pow_sub_one_eq_mod]
  refine ⟨m a, ?_, ?_, ?_, ?_⟩
  · rw [show (5 : Int32) = nI 5 from rfl, zb_shr (by omega) (by omega), m]
  · rw [show (10 : Int32) = nI 10 from rfl, zb_shr (by omega) (by omega), m]
  · rw [show (15 : Int32) = nI 15 from rfl, zb_shr (by omega) (by omega), m]
  · rw [show (20 : Int32) = nI 20 from rfl, zb_shr (by omega) (by omega), m]
theorem sp_X3_lookAt {o : Option Nat} {c : Nat} (hL : z_L S) (hV : p_V ρ) (hw : c_w5 ρ v) (ho : c_bs ρ v o) (hc : c < 2 ^ 25) (h : ∀ v1, c_bs ρ v1 (some (y_mo ρ o c)) → (∀ b, b ≠ 195 → v1 b = v b) → Q none S v1) : z_J G d mX3_lookAt (0, [.ref 195, .int (nI c), .null], [], S, v) Q := by
  obtain ⟨s0, s1, s2, s3, s4⟩ := y_set c hc
  have hwc := y_w_le hV c
  have l0 := y_w5_le (j := 0) (b := c % 32) hV (by omega)
  have l1 := y_w5_le (j := 1) (b := c / 2 ^ 5 % 32) hV (by omega)
  have l2 := y_w5_le (j := 2) (b := c / 2 ^ 10 % 32) hV (by omega)
  have l3 := y_w5_le (j := 3) (b := c / 2 ^ 15 % 32) hV (by omega)
  have l4 := y_w5_le (j := 4) (b := c / 2 ^ 20 % 32) hV (by omega)
  have r0 := hw 0 (by omega) (c % 32) (Nat.mod_lt _ (by omega))
  have r1 := hw 1 (by omega) (c / 2 ^ 5 % 32) (Nat.mod_lt _ (by omega))
  have r2 := hw 2 (by omega) (c / 2 ^ 10 % 32) (Nat.mod_lt _ (by omega))
  have r3 := hw 3 (by omega) (c / 2 ^ 15 % 32) (Nat.mod_lt _ (by omega))
  have r4 := hw 4 (by omega) (c / 2 ^ 20 % 32) (Nat.mod_lt _ (by omega))
  have m0 := Nat.mod_lt c (show 0 < 32 by omega)
  have m1 := Nat.mod_lt (c / 2 ^ 5) (show 0 < 32 by omega)
  have m2 := Nat.mod_lt (c / 2 ^ 10) (show 0 < 32 by omega)
  have m3 := Nat.mod_lt (c / 2 ^ 15) (show 0 < 32 by omega)
  have m4 := Nat.mod_lt (c / 2 ^ 20) (show 0 < 32 by omega)
  rw [Nat.zero_mul, Nat.zero_add] at r0
  rw [Nat.one_mul] at r1
  rw [show 2 * 32 = 64 from rfl] at r2
  rw [show 3 * 32 = 96 from rfl] at r3
  rw [show 4 * 32 = 128 from rfl] at r4
  refine sg_X3_lookAt_0 hL ?_
  rw [s0, s1, s2, s3, s4, show (32 : Int32) = nI 32 from rfl, show (64 : Int32) = nI 64 from rfl, show (96 : Int32) = nI 96 from rfl, show (128 : Int32) = nI 128 from rfl, nI_add, nI_add, nI_add, nI_add]
  rw [nI_clamp (n := c % 32) (by omega), nI_clamp (n := 32 + c / 2 ^ 5 % 32) (by omega), nI_clamp (n := 64 + c / 2 ^ 10 % 32) (by omega), nI_clamp (n := 96 + c / 2 ^ 15 % 32) (by omega), nI_clamp (n := 128 + c / 2 ^ 20 % 32) (by omega), r0, r1, r2, r3, r4, nI_add, nI_add, nI_add, nI_add, ← y_w_5]
  refine ⟨vp_in_nI (by omega) (by omega), vp_in_nI (by omega) (by omega), vp_in_nI (by omega) (by omega), vp_in_nI (by omega) (by omega), vp_in_nI (by omega) (by omega), ?_⟩
  have upd : ∀ v1 v2 : z_Dat, v1 = z_u v 195 3 (nI (y_w ρ c)) → v2 = z_u v1 195 2 (nI c) → y_mo ρ o c = c → Q none S v2 := fun v1 v2 e1 e2 em => by
    refine h v2 ?_ (fun b hb => by rw [e2, z_u_ne hb, e1, z_u_ne hb])
    rw [em]
    exact ⟨by rw [e2, z_ue rfl rfl], by rw [e2, z_un (by omega), e1, z_ue rfl rfl], hc⟩
  cases o with
  | none =>
    obtain ⟨o1, o2⟩ := ho
    rw [o2]
    exact ⟨fun _ v1 e1 v2 e2 => upd v1 v2 e1 e2 rfl, fun q => absurd (nI_lt (b := 1000) (by omega) (by omega)) q⟩
  | some b =>
    obtain ⟨o1, o2, o3⟩ := ho
    have hwb := y_w_le hV b
    rw [o1, o2]
    have em : y_mo ρ (some b) c = if y_w ρ c < y_w ρ b ∨ (y_w ρ c = y_w ρ b ∧ c < b) then c else b := rfl
    have stay : y_mo ρ (some b) c = b → Q none S v := fun e => h v (by rw [e]; exact ⟨o1, o2, o3⟩) (fun _ _ => rfl)
    refine ⟨fun q v1 e1 v2 e2 => upd v1 v2 e1 e2 ?_, fun q => ⟨fun q2 => stay ?_, fun q2 => ⟨fun q3 => ?_, fun q3 => ?_⟩⟩⟩
    · have q := (nI_ltI (by omega) (by omega)).mp q
      rw [em, if_pos (Or.inl q)]
    · have q : ¬ y_w ρ c < y_w ρ b := fun z => q (nI_lt z (by omega))
      have q2 : ¬ y_w ρ c = y_w ρ b := fun z => q2 (by rw [z])
      rw [em, if_neg (by omega)]
    · have q : ¬ y_w ρ c < y_w ρ b := fun z => q (nI_lt z (by omega))
      have q3 := (nI_leI (by omega) (by omega)).mp q3
      exact stay (by rw [em, if_neg (by omega)])
    · have q2 := (nI_eq (by omega) (by omega)).mp q2
      have q3 : c < b := by
        rcases Nat.lt_or_ge c b with z | z
        · exact z
        · exact absurd (nI_le z (by omega)) q3
      exact fun v1 e1 v2 e2 => upd v1 v2 e1 e2 (by rw [em, if_pos (Or.inr ⟨q2, q3⟩)])
/-- the best, after looking at n more -/
def y_fo (ρ : Nat → Nat) (g : Nat → Nat) (o : Option Nat) : Nat → Option Nat
  | 0 => o
  | n + 1 => some (y_mo ρ (y_fo ρ g o n) (g n))
theorem y_fo_s {g : Nat → Nat} {b : Nat} : ∀ n, y_fo ρ g (some b) n = some (y_fm ρ g b n)
  | 0 => rfl
  | n + 1 => by rw [y_fo, y_fo_s n, y_fm]; rfl
theorem y_mi_s {a : Nat} : y_mi ρ a a = a := by unfold y_mi; rw [if_neg (by omega)]
theorem y_fo_n {g : Nat → Nat} : ∀ n, y_fo ρ g none (n + 1) = some (y_fm ρ g (g 0) (n + 1))
  | 0 => by
    show some (g 0) = some (y_mi ρ (g 0) (g 0))
    rw [y_mi_s]
  | n + 1 => by
    have ih := y_fo_n (g := g) n
    rw [y_fo, ih, y_fm]; rfl
theorem sp_X3_seekLightest {w a : Nat} {o : Option Nat} (hd : 1 ≤ d) (hL : z_L S) (hV : p_V ρ) (hwd : p_wd w (ρ 0)) (hPW : p_W v w (ρ 0)) (hw : c_w5 ρ v) (ho : c_bs ρ v o) (hκ : κ < 2) (ha : a < 2 ^ (ρ 0 * ρ 0))
    (h : ∀ v1, c_bs ρ v1 (y_fo ρ (fun n => y_s (y_f (ρ 0) κ) a n) o (2 ^ t_K (ρ 0))) → (∀ b, b ≠ 195 → v1 b = v b) → Q none S v1) : z_J G d mX3_seekLightest (0, [.ref 195, .ref w, .int (nI κ), .int (nI a), .null, .null, .null], [], S, v) Q := by
  obtain ⟨d, rfl⟩ : ∃ e, d = e + 1 := ⟨d - 1, by omega⟩
  have hwW := p_wdW hwd
  have hd25 : ρ 0 * ρ 0 ≤ 25 := by rcases hV.1 with e | e <;> rw [e] <;> decide
  have hK := t_Kle hV.1
  have hwl : w + 18 < 195 := by rcases hwd with ⟨e, _⟩ | ⟨e, _⟩ <;> omega
  have h2K : 2 ^ t_K (ρ 0) ≤ 4096 := Nat.pow_le_pow_right (n := 2) (by omega) hK
  have h2p : 0 < 2 ^ t_K (ρ 0) := Nat.pow_pos (by omega)
  have h2K1 : 2 ^ (t_K (ρ 0) + 1) = 2 ^ t_K (ρ 0) + 2 ^ t_K (ρ 0) := by rw [Nat.pow_succ]; omega
  have hp25 : 2 ^ (ρ 0 * ρ 0) ≤ 2 ^ 25 := Nat.pow_le_pow_right (by omega) hd25
  have hsl : ∀ n, n < 2 ^ t_K (ρ 0) → y_s (y_f (ρ 0) κ) a n < 2 ^ 25 := fun n hn => Nat.lt_of_lt_of_le (y_s_lt hV.1 hκ ha n (by omega)) hp25
  have key : ∀ j n v1, n + 1 + j = 2 ^ t_K (ρ 0) → c_bs ρ v1 (y_fo ρ (fun n => y_s (y_f (ρ 0) κ) a n) o (n + 1)) → (∀ b, b ≠ 195 → v1 b = v b) → z_J G (d + 1) mX3_seekLightest (20, [.ref 195, .ref w, .int (nI κ), .int (nI a), .int (nI (y_s (y_f (ρ 0) κ) a n)), .int (nI (2 ^ t_K (ρ 0))), .int (nI (n + 1))], [], S, v1) Q := by
    intro j
    induction j with
    | zero =>
      intro n v1 hn k1 k2
      have hn : n + 1 = 2 ^ t_K (ρ 0) := by omega
      rw [hn] at k1 ⊢
      exact sg_X3_seekLightest_20 hL hwW ⟨fun _ => h v1 k1 k2, fun c => absurd (nI_le (Nat.le_refl _) (by omega)) c⟩
    | succ j ih =>
      intro n v1 hn k1 k2
      have hlo := y_lo_lt (k := t_K (ρ 0)) (show 0 < n + 1 by omega) (by omega) (by omega)
      have efb : v1 (w + 8 + (1 - κ)) (q_lo (n + 1)) = nI (y_f (ρ 0) κ (q_lo (n + 1))) := by
        rw [k2 _ (by omega), (((hPW.2.2.2 (1 - κ) (by omega)).2.2.1 _ hlo).2.2)]
        unfold y_f
        rw [if_neg (by omega)]
      have es : y_s (y_f (ρ 0) κ) a n ^^^ y_f (ρ 0) κ (q_lo (n + 1)) = y_s (y_f (ρ 0) κ) a (n + 1) := by rw [y_s]
      refine sg_X3_seekLightest_20 hL hwW ⟨fun c => absurd c (nI_ge (by omega) (by omega)), fun _ => ?_⟩
      rw [nI_1m hκ, nI_clamp (n := 1 - κ) (by omega), q_tz (by omega) (by omega), nI_clamp (n := q_lo (n + 1)) (by omega), efb, nx_xor, es, nI_1]
      refine ⟨vp_in_nI (by omega) (by omega), vp_in_nI (by omega) (by omega), ?_⟩
      refine sp_X3_lookAt hL hV (fun j hj b hb => by rw [k2 197 (by omega)]; exact hw j hj b hb) k1 (hsl (n + 1) (by omega)) (fun v2 g1 g2 => ⟨rfl, rfl, ?_⟩)
      exact ih (n + 1) v2 (by omega) g1 (fun b hb => (g2 b hb).trans (k2 b hb))
  refine sg_X3_seekLightest_0 hL hwW (sp_X3_lookAt hL hV hw ho (hsl 0 (by omega)) (fun v1 g1 g2 => ⟨rfl, rfl, ?_⟩))
  rw [show v1 w 2 = nI (t_K (ρ 0)) by rw [g2 w (by omega)]; exact hPW.2.2.1, zb_1 (by omega)]
  exact key (2 ^ t_K (ρ 0) - 1) 0 v1 (by omega) g1 g2
theorem sp_X3_lightestSet (hd : 2 ≤ d) (hL : z_L S) (hV : p_V ρ) (hW : p_Ws v) (hf : z_isF f) (hF : p_F S v f ρ) (hκ : κ < 2)
    (h : ∀ v1, (∀ b, b ≠ 195 → b ≠ 197 → v1 b = v b) → Q (some (.int (nI (y_lt ρ κ (ρ (2 + κ)))))) S v1) : z_J G d mX3_lightestSet (0, [.ref 195, .ref f, .int (nI κ), .null], [], S, v) Q := by
  obtain ⟨d, rfl⟩ : ∃ e, d = e + 1 := ⟨d - 1, by omega⟩
  have hF0 := hF
  obtain ⟨⟨w, hw, hwd⟩, -, hF3, -⟩ := hF
  have hwW := p_wdW hwd
  have hs := ((hV.2.2.1 κ hκ)).1
  have hwl : w + 18 < 195 := by rcases hwd with ⟨e, _⟩ | ⟨e, _⟩ <;> omega
  have hin : vp_in (nI κ) 2 := vp_in_nI hκ (by omega)
  have h2p : 0 < 2 ^ t_K (ρ 0) := Nat.pow_pos (by omega)
  refine sg_X3_lightestSet_0 hL hf hw hwW ⟨hin, ?_⟩
  rw [nI_clamp (by omega), (hF3 κ hκ).1]
  refine sp_X3_weighRows (by omega) hL hV hf hF0 (fun v1 a1 a2 a3 a4 => ⟨rfl, rfl, ?_⟩)
  have W1 : p_W v1 w (ρ 0) := (p_wdP hW hwd).fr (fun a a1 a2 => a4 a (by omega) (by omega))
  refine sp_X3_seekLightest (o := none) (by omega) hL hV hwd W1 a1 ⟨a2, a3⟩ hκ hs (fun v2 b1 b2 => ⟨rfl, rfl, hin, ?_⟩)
  have W2 : p_W v2 w (ρ 0) := W1.fr (fun a a1 a2 => b2 a (by omega))
  rw [(W2.2.2.2 κ hκ).2.1, nx_xor]
  refine sp_X3_seekLightest (by omega) hL hV hwd W2 (fun j hj b hb => by rw [b2 197 (by omega)]; exact a1 j hj b hb) b1 hκ (Nat.xor_lt_two_pow hs (y_tf hV.1 hκ).2.2) (fun v3 c1 c2 => ⟨rfl, rfl, ?_⟩)
  obtain ⟨p, hp⟩ : ∃ p, 2 ^ t_K (ρ 0) = p + 1 := ⟨2 ^ t_K (ρ 0) - 1, by omega⟩
  have e1 : y_fo ρ (fun n => y_s (y_f (ρ 0) κ) (ρ (2 + κ)) n) none (2 ^ t_K (ρ 0)) = some (y_fm ρ (fun n => y_s (y_f (ρ 0) κ) (ρ (2 + κ)) n) (ρ (2 + κ)) (2 ^ t_K (ρ 0))) := by
    rw [hp, y_fo_n]; rfl
  rw [e1, y_fo_s] at c1
  rw [c1.1]
  exact h v3 (fun b b1 b2' => by rw [c2 b b1, b2 b b1]; exact a4 b b1 b2')
/-- the least weight of a chain -/
def y_ch (ρ : Nat → Nat) (κ : Nat) : Nat := y_w ρ (y_fm ρ (fun n => y_s (y_f (ρ 0) κ) (t_lb (ρ 0) (1 - κ)) n) (t_lb (ρ 0) (1 - κ)) (2 ^ t_K (ρ 0)))
theorem sp_X3_leastChain (hd : 2 ≤ d) (hL : z_L S) (hV : p_V ρ) (hW : p_Ws v) (hf : z_isF f) (hF : p_F S v f ρ) (hκ : κ < 2)
    (h : ∀ v1, (∀ b, b ≠ 195 → b ≠ 197 → v1 b = v b) → Q (some (.int (nI (y_ch ρ κ)))) S v1) : z_J G d mX3_leastChain (0, [.ref 195, .ref f, .int (nI κ)], [], S, v) Q := by
  obtain ⟨d, rfl⟩ : ∃ e, d = e + 1 := ⟨d - 1, by omega⟩
  have hF0 := hF
  obtain ⟨⟨w, hw, hwd⟩, -, hF3, -⟩ := hF
  have hwW := p_wdW hwd
  have hwl : w + 18 < 195 := by rcases hwd with ⟨e, _⟩ | ⟨e, _⟩ <;> omega
  have h2p : 0 < 2 ^ t_K (ρ 0) := Nat.pow_pos (by omega)
  refine sg_X3_leastChain_0 hL hf hw hwW (sp_X3_weighRows (by omega) hL hV hf hF0 (fun v1 a1 a2 a3 a4 => ⟨rfl, rfl, vp_in_nI hκ (by omega), ?_⟩))
  have W1 : p_W v1 w (ρ 0) := (p_wdP hW hwd).fr (fun a a1 a2 => a4 a (by omega) (by omega))
  rw [nI_clamp (by omega), (W1.2.2.2 κ hκ).2.1]
  refine sp_X3_seekLightest (o := none) (by omega) hL hV hwd W1 a1 ⟨a2, a3⟩ hκ (y_tf hV.1 hκ).2.2 (fun v2 b1 b2 => ⟨rfl, rfl, ?_⟩)
  obtain ⟨p, hp⟩ : ∃ p, 2 ^ t_K (ρ 0) = p + 1 := ⟨2 ^ t_K (ρ 0) - 1, by omega⟩
  have e1 : y_fo ρ (fun n => y_s (y_f (ρ 0) κ) (t_lb (ρ 0) (1 - κ)) n) none (2 ^ t_K (ρ 0)) = some (y_fm ρ (fun n => y_s (y_f (ρ 0) κ) (t_lb (ρ 0) (1 - κ)) n) (t_lb (ρ 0) (1 - κ)) (2 ^ t_K (ρ 0))) := by
    rw [hp, y_fo_n]; rfl
  rw [e1] at b1
  rw [b1.2.1]
  exact h v2 (fun b c1 c2 => by rw [b2 b c1]; exact a4 b c1 c2)
end LK
