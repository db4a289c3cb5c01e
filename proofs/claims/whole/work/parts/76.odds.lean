/-! like, fewest, distance, odds: both sides -/
def a_lkk (ρ : Nat → Nat) (x1 x2 : Int32) (κ l : Nat) : Prop := κ < 2 ∧ l < 2 ∧ x1 = nI κ ∧ x2 = nI l
theorem a_lkk_u {ρ : Nat → Nat} {x1 x2 : Int32} {κ l κ' l' : Nat} (h : a_lkk ρ x1 x2 κ l) (h' : a_lkk ρ x1 x2 κ' l') : κ = κ' ∧ l = l' := by
  obtain ⟨a1, a2, a3, a4⟩ := h
  obtain ⟨b1, b2, b3, b4⟩ := h'
  exact ⟨(nI_eq (by omega) (by omega)).mp (a3.symm.trans b3), (nI_eq (by omega) (by omega)).mp (a4.symm.trans b4)⟩
def a_like (ρ : Nat → Nat) (x1 x2 x3 y : Int32) : Prop := (∃ κ l z, a_lkk ρ x1 x2 κ l ∧ z ≤ ρ 0 * ρ 0 ∧ x3 = nI z ∧ y = nI (y_lk (ρ 0) κ (ρ (2 + κ)) l z)) ∨ ((¬ ∃ κ l z, a_lkk ρ x1 x2 κ l ∧ z ≤ ρ 0 * ρ 0 ∧ x3 = nI z) ∧ y = -1)
theorem a_like_u {ρ : Nat → Nat} {x1 x2 x3 y y' : Int32} (hd : ρ 0 * ρ 0 ≤ 25) (h : a_like ρ x1 x2 x3 y) (h' : a_like ρ x1 x2 x3 y') : y = y' := by
  rcases h with ⟨κ, l, z, h1, h2, h3, h4⟩ | ⟨h1, h2⟩ <;> rcases h' with ⟨κ', l', z', k1, k2, k3, k4⟩ | ⟨k1, k2⟩
  · obtain ⟨e1, e2⟩ := a_lkk_u h1 k1
    subst e1; subst e2
    have e3 : z = z' := (nI_eq (by omega) (by omega)).mp (h3.symm.trans k3)
    rw [h4, k4, e3]
  · exact absurd ⟨κ, l, z, h1, h2, h3⟩ k1
  · exact absurd ⟨κ', l', z', k1, k2, k3⟩ h1
  · rw [h2, k2]
def y_is (ρ : Nat → Nat) (κ l z : Nat) : Prop := 0 < y_lk (ρ 0) κ (ρ (2 + κ)) l z ∧ ∀ z', z' < z → y_lk (ρ 0) κ (ρ (2 + κ)) l z' = 0
def a_few (ρ : Nat → Nat) (x1 x2 y : Int32) : Prop := (∃ κ l z, a_lkk ρ x1 x2 κ l ∧ y_is ρ κ l z ∧ y = nI z) ∨ ((¬ ∃ κ l, a_lkk ρ x1 x2 κ l) ∧ y = -1)
theorem a_few_u {ρ : Nat → Nat} {x1 x2 y y' : Int32} (h : a_few ρ x1 x2 y) (h' : a_few ρ x1 x2 y') : y = y' := by
  rcases h with ⟨κ, l, z, h1, h2, h3⟩ | ⟨h1, h2⟩ <;> rcases h' with ⟨κ', l', z', k1, k2, k3⟩ | ⟨k1, k2⟩
  · obtain ⟨e1, e2⟩ := a_lkk_u h1 k1
    subst e1; subst e2
    have e3 : z = z' := by
      rcases Nat.lt_trichotomy z z' with q | q | q
      · have := k2.2 z q; have := h2.1; omega
      · exact q
      · have := h2.2 z' q; have := k2.1; omega
    rw [h3, k3, e3]
  · exact absurd ⟨κ, l, h1⟩ k1
  · exact absurd ⟨κ', l', k1⟩ h1
  · rw [h2, k2]
theorem y_is_ex {ρ : Nat → Nat} {κ l : Nat} (hV : p_V ρ) (hκ : κ < 2) (hl : l < 2) : ∃ z, z ≤ ρ 0 * ρ 0 ∧ y_is ρ κ l z := by
  have hd25 : ρ 0 * ρ 0 ≤ 25 := by rcases hV.1 with e | e <;> rw [e] <;> decide
  have hs := ((hV.2.2.1 κ hκ)).1
  have ha0 : y_a0 (ρ 0) κ (ρ (2 + κ)) l < 2 ^ (ρ 0 * ρ 0) := by
    unfold y_a0
    split
    · exact hs
    · exact Nat.xor_lt_two_pow hs (y_tf hV.1 hκ).2.2
  have hp : 0 < 2 ^ t_K (ρ 0) := Nat.pow_pos (by omega)
  have h0 : 0 < y_lk (ρ 0) κ (ρ (2 + κ)) l (p_pc (y_a0 (ρ 0) κ (ρ (2 + κ)) l)) := y_ct_p (i := 0) _ hp rfl
  have hle := p_pc_lt ha0 (by omega)
  obtain ⟨z, h1, h2⟩ := n_min (P := fun z => 0 < y_lk (ρ 0) κ (ρ (2 + κ)) l z) _ h0
  refine ⟨z, ?_, h1, fun z' hz' => ?_⟩
  · rcases Nat.lt_or_ge (p_pc (y_a0 (ρ 0) κ (ρ (2 + κ)) l)) z with q | q
    · exact absurd h0 (h2 _ q)
    · omega
  · have h3 : ¬ 0 < y_lk (ρ 0) κ (ρ (2 + κ)) l z' := h2 z' hz'
    omega
def a_dst (ρ : Nat → Nat) (x1 y : Int32) : Prop := (∃ κ, κ < 2 ∧ x1 = nI κ ∧ y = nI (y_ch ρ κ)) ∨ (¬ (x1 = 0 ∨ x1 = 1) ∧ y = -1)
theorem a_dst_u {ρ : Nat → Nat} {x1 y y' : Int32} (h : a_dst ρ x1 y) (h' : a_dst ρ x1 y') : y = y' := by
  rcases h with ⟨κ, h0, h1, h2⟩ | ⟨h1, h2⟩ <;> rcases h' with ⟨κ', k0, k1, k2⟩ | ⟨k1, k2⟩
  · have e : κ = κ' := (nI_eq (by omega) (by omega)).mp (h1.symm.trans k1)
    rw [h2, k2, e]
  · exact absurd (k_to h0 h1) k1
  · exact absurd (k_to k0 k1) h1
  · rw [h2, k2]
theorem y_lk_le {d κ s l z : Nat} (h35 : d = 3 ∨ d = 5) : y_lk d κ s l z ≤ 4096 := by
  have hK := t_Kle h35
  have := y_ct_le (g := fun n => p_pc (y_s (y_f d κ) (y_a0 d κ s l) n)) (z := z) (2 ^ t_K d)
  have h2 : 2 ^ t_K d ≤ 4096 := Nat.pow_le_pow_right (n := 2) (by omega) hK
  unfold y_lk
  omega
/-- what a long can hold -/
def y_MX : Nat := 9223372036854775807
def y_sat (x : Nat) : Int64 := if x ≤ y_MX then lN x else -1
theorem y_MXI : (9223372036854775807 : Int64) = lN y_MX := by decide +kernel
theorem y_MXv : y_MX = 9223372036854775807 := rfl
theorem y_sat_1 {x : Nat} (h : x ≤ y_MX) : y_sat x = lN x := if_pos h
theorem y_sat_2 {x : Nat} (h : ¬ x ≤ y_MX) : y_sat x = -1 := if_neg h
theorem y_m1 {x : Nat} (h : x ≤ y_MX) : lN x ≠ -1 := fun e => by
  have h1 : ¬ lN x < 0 := by
    rw [show (0 : Int64) = lN 0 from rfl, pk_lLT (by rw [y_MXv] at h; omega) (by omega)]; omega
  exact h1 (by rw [e]; decide)
theorem y_satm1 {x : Nat} : y_sat x = -1 ↔ ¬ x ≤ y_MX := ⟨fun e h => y_m1 h (by rw [← y_sat_1 h]; exact e), y_sat_2⟩
theorem y_sat0 {x : Nat} : y_sat x = 0 ↔ x = 0 := by
  by_cases h : x ≤ y_MX
  · rw [y_sat_1 h, show (0 : Int64) = lN 0 from rfl]
    exact pk_lEQ (by rw [y_MXv] at h; omega) (by omega)
  · rw [y_sat_2 h]
    refine ⟨fun e => absurd e (by decide), fun e => ?_⟩
    rw [e] at h; exact absurd (Nat.zero_le _) h
theorem y_divle {x y : Nat} (hy : 0 < y) : x ≤ y_MX / y ↔ x * y ≤ y_MX := Nat.le_div_iff_mul_le hy
/-- the sum of all chances, as it is -/
def y_tt (c : Nat → Nat) (a b q : Nat) : Nat → Nat
  | 0 => 0
  | n + 1 => y_tt c a b q n + c n * (a ^ n * b ^ (q - n))
theorem y_tt_le {c : Nat → Nat} {a b q n : Nat} : ∀ k, y_tt c a b q n ≤ y_tt c a b q (n + k)
  | 0 => Nat.le_refl _
  | k + 1 => Nat.le_trans (y_tt_le k) (by rw [← Nat.add_assoc, y_tt]; omega)
section OD
variable {G : z_G} {d : Nat} {S : z_Shp} {v v0 : z_Dat} {Q : Option Value → z_Shp → z_Dat → Prop} {ρ : Nat → Nat} {κ : Nat} {x1 x2 x3 x4 : Int32}
theorem sp_X3_times {x y : Nat} (h : Q (some (.long (y_sat (x * y)))) S v) : z_J G d mX3_times (0, [.long (y_sat x), .null, .long (y_sat y), .null], [], S, v) Q := by
  refine sg_X3_times_0 ?_
  simp only [lg_cmp_eq, lg_cmp_le]
  rw [y_sat0, y_sat0, y_satm1, y_satm1]
  have h0 : y_sat (x * y) = 0 → Q (some (.long 0)) S v := fun e => by rw [e] at h; exact h
  refine ⟨fun c => h0 (by rw [y_sat0, c, Nat.zero_mul]), fun c => ⟨fun c2 => ⟨fun c3 => ?_, fun c3 => ⟨fun c4 => ?_, fun c4 => ⟨c2, ?_⟩⟩⟩, fun c2 => h0 (by rw [y_sat0, c2, Nat.mul_zero])⟩⟩
  · rw [y_sat_2 (fun z => c3 (Nat.le_trans (Nat.le_mul_of_pos_right x (by omega)) z))] at h
    exact h
  · rw [y_sat_2 (fun z => c4 (Nat.le_trans (Nat.le_mul_of_pos_left y (by omega)) z))] at h
    exact h
  · have c3 : x ≤ y_MX := Classical.byContradiction fun z => c3 z
    have c4 : y ≤ y_MX := Classical.byContradiction fun z => c4 z
    rw [y_sat_1 c3, y_sat_1 c4, y_MXI, pk_lDiv (by rw [y_MXv]; omega) (by omega) (by rw [y_MXv] at c4; omega), pk_lLE (by rw [y_MXv] at c3; omega) (by have := Nat.div_le_self y_MX y; rw [y_MXv] at this ⊢; omega), y_divle (by omega), lN_mul]
    exact ⟨fun c5 => by rw [y_sat_1 c5] at h; exact h, fun c5 => by rw [y_sat_2 c5] at h; exact h⟩
theorem sp_X11_times {x y : Nat} (hy0 : 0 < y) (hy : y ≤ 99) (h : Q (some (.long (y_sat (x * y)))) S v) : z_J G d mX11_times (0, [.long (y_sat x), .null, .long (lN y), .null], [], S, v) Q := by
  refine sg_X11_times_0 ?_
  simp only [lg_cmp_lt, lg_cmp_le]
  have hyM : y < 2 ^ 63 := by omega
  have hneg : y_sat x < 0 ↔ ¬ x ≤ y_MX := by
    by_cases c : x ≤ y_MX
    · rw [y_sat_1 c, show (0 : Int64) = lN 0 from rfl, pk_lLT (by rw [y_MXv] at c; omega) (by omega)]
      exact ⟨fun z => by omega, fun z => absurd c z⟩
    · rw [y_sat_2 c]; exact ⟨fun _ => c, fun _ => by decide⟩
  rw [hneg]
  refine ⟨fun c => ?_, fun c => ⟨fun c2 => ?_, fun c2 => ⟨fun z => ?_, ?_⟩⟩⟩
  · rw [y_sat_2 (fun z => c (Nat.le_trans (Nat.le_mul_of_pos_right x hy0) z))] at h
    exact h
  · rw [show (0 : Int64) = lN 0 from rfl, pk_lLE hyM (by omega)] at c2; omega
  · have := (pk_lEQ (b := 0) hyM (by omega)).mp z
    omega
  · have c3 : x ≤ y_MX := Classical.byContradiction fun z => c z
    rw [y_sat_1 c3, y_MXI, pk_lDiv (by rw [y_MXv]; omega) hy0 hyM, pk_lLE (by rw [y_MXv] at c3; omega) (by have := Nat.div_le_self y_MX y; rw [y_MXv] at this ⊢; omega), y_divle hy0, lN_mul]
    exact ⟨fun c5 => by rw [y_sat_1 c5] at h; exact h, fun c5 => by rw [y_sat_2 c5] at h; exact h⟩
theorem sp_X3_power {a n : Nat} (hd : 1 ≤ d) (ha : a ≤ 99) (hn : n ≤ 25) (h : Q (some (.long (y_sat (a ^ n)))) S v) : z_J G d mX3_power (0, [.int (nI a), .int (nI n), .null, .null, .null], [], S, v) Q := by
  obtain ⟨d, rfl⟩ : ∃ e, d = e + 1 := ⟨d - 1, by omega⟩
  have key : ∀ j i, i + j = n → z_J G (d + 1) mX3_power (5, [.int (nI a), .int (nI n), .long (y_sat (a ^ i)), .null, .int (nI i)], [], S, v) Q := by
    intro j
    induction j with
    | zero =>
      intro i hi
      have hi : i = n := by omega
      subst hi
      exact sg_X3_power_5 ⟨fun _ => h, fun c => absurd (nI_le (Nat.le_refl _) (by omega)) c⟩
    | succ j ih =>
      intro i hi
      refine sg_X3_power_5 ⟨fun c => absurd c (nI_ge (by omega) (by omega)), fun _ => ?_⟩
      rw [nI_l (by omega), ← y_sat_1 (x := a) (by rw [y_MXv]; omega), nI_1]
      refine sp_X3_times ⟨_, rfl, rfl, ?_⟩
      have := ih (i + 1) (by omega)
      rw [Nat.pow_succ] at this
      exact this
  have := key n 0 (Nat.zero_add _)
  rw [Nat.pow_zero, y_sat_1 (by rw [y_MXv]; omega)] at this
  exact sg_X3_power_0 this
theorem sp_X3_chances {a b q : Nat} {c : Nat → Nat} (hd : 2 ≤ d) (hL : z_L S) (ha : a ≤ 99) (hb : b ≤ 99) (hq : q ≤ 25) (hc : ∀ n, n < 26 → c n ≤ 4096 ∧ v 196 n = nI (c n)) (h : Q (some (.long (y_sat (y_tt c a b q (q + 1))))) S v) : z_J G d mX3_chances (0, [.ref 195, .int (nI q), .int (nI a), .int (nI b), .null, .null, .null, .null, .null, .null, .null], [], S, v) Q := by
  obtain ⟨d, rfl⟩ : ∃ e, d = e + 1 := ⟨d - 1, by omega⟩
  have key : ∀ j n, n + j = q + 1 → y_tt c a b q n ≤ y_MX → z_J G (d + 1) mX3_chances (6, [.ref 195, .int (nI q), .int (nI a), .int (nI b), .long (lN (y_tt c a b q n)), .null, .int (nI n), .null, .null, .null, .null], [], S, v) Q := by
    intro j
    induction j with
    | zero =>
      intro n hn hle
      have hn : n = q + 1 := by omega
      subst hn
      rw [y_sat_1 hle] at h
      exact sg_X3_chances_6 hL ⟨fun _ => h, fun z => absurd (nI_lt (by omega) (by omega)) z⟩
    | succ j ih =>
      intro n hn hle
      obtain ⟨c1, c2⟩ := hc n (by omega)
      have over : ¬ y_tt c a b q (n + 1) ≤ y_MX → Q (some (.long (-1))) S v := fun z => by
        obtain ⟨k, hk⟩ : ∃ k, q + 1 = n + 1 + k := ⟨q - n, by omega⟩
        have := y_tt_le (c := c) (a := a) (b := b) (q := q) (n := n + 1) k
        rw [hk, y_sat_2 (fun w => z (Nat.le_trans this w))] at h
        exact h
      have es : y_tt c a b q (n + 1) = y_tt c a b q n + c n * (a ^ n * b ^ (q - n)) := rfl
      refine sg_X3_chances_6 hL ⟨fun z => absurd z (nI_nlt (by omega) (by omega)), fun _ => ?_⟩
      refine sp_X3_power (by omega) ha (by omega) ⟨_, rfl, rfl, ?_⟩
      rw [pk_sub (by omega)]
      refine sp_X3_power (by omega) hb (by omega) ⟨_, rfl, rfl, sp_X3_times ⟨_, rfl, rfl, vp_in_nI (by omega) (by omega), ?_⟩⟩
      rw [nI_clamp (by omega), c2, nI_l (by omega), ← y_sat_1 (x := c n) (by rw [y_MXv]; omega)]
      refine sp_X3_times ⟨_, rfl, rfl, ?_⟩
      rw [lg_cmp_eq, lg_cmp_le, y_satm1, y_MXI, lN_sub hle, nI_1]
      refine ⟨fun z => over (fun w => z (by omega)), fun z => ?_⟩
      have z : c n * (a ^ n * b ^ (q - n)) ≤ y_MX := Classical.byContradiction fun w => z w
      rw [y_sat_1 z, pk_lLE (by rw [y_MXv] at z; omega) (by rw [y_MXv]; omega), lN_add, ← es]
      refine ⟨fun z2 => ih (n + 1) (by omega) (by omega), fun z2 => over (by omega)⟩
  exact sg_X3_chances_0 (key (q + 1) 0 (Nat.zero_add _) (Nat.zero_le _))
/-- a product, a factor at a time -/
def y_pd (c a b n k : Nat) : Nat := c * (a ^ (min k n) * b ^ (k - n))
theorem y_pd_a {c a b n k : Nat} (h : k < n) : y_pd c a b n k * a = y_pd c a b n (k + 1) := by
  unfold y_pd
  rw [Nat.min_eq_left (Nat.le_of_lt h), Nat.min_eq_left h, Nat.sub_eq_zero_of_le (Nat.le_of_lt h), Nat.sub_eq_zero_of_le h, Nat.pow_zero, Nat.mul_one, Nat.mul_one, Nat.pow_succ, Nat.mul_assoc]
theorem y_pd_b {c a b n k : Nat} (h : n ≤ k) : y_pd c a b n k * b = y_pd c a b n (k + 1) := by
  unfold y_pd
  rw [Nat.min_eq_right h, Nat.min_eq_right (by omega), show k + 1 - n = k - n + 1 by omega, Nat.pow_succ, Nat.mul_assoc, Nat.mul_assoc]
theorem sp_X11_odds_59 {a b q l : Nat} {c : Nat → Nat} (hd : 1 ≤ d) (hL : z_L S) (h0 : v 224 0 * v 224 0 = nI q) (ha : a ≤ 99) (hb : b ≤ 99) (hq : q ≤ 25) (hl : l < 2) (hc : ∀ n, n < 26 → c n ≤ 4096 ∧ v 259 (26 * l + n) = nI (c n)) (h : Q (some (.long (y_sat (y_tt c a b q (q + 1))))) S v) : z_J G d mX11_odds (59, [.ref 223, .int x1, .int (nI l), .int (nI a), .int (nI b), .long 0, .null, .int 0, .null, .null, .null], [], S, v) Q := by
  obtain ⟨d, rfl⟩ : ∃ e, d = e + 1 := ⟨d - 1, by omega⟩
  have key : ∀ j n, n + j = q + 1 → y_tt c a b q n ≤ y_MX → z_J G (d + 1) mX11_odds (59, [.ref 223, .int x1, .int (nI l), .int (nI a), .int (nI b), .long (lN (y_tt c a b q n)), .null, .int (nI n), .null, .null, .null], [], S, v) Q := by
    intro j
    induction j with
    | zero =>
      intro n hn hle
      have hn : n = q + 1 := by omega
      subst hn
      rw [y_sat_1 hle] at h
      exact sg_X11_odds_59 hL ⟨fun _ => h, fun z => absurd (by rw [h0]; exact nI_lt (by omega) (by omega)) z⟩
    | succ j ih =>
      intro n hn hle
      obtain ⟨c1, c2⟩ := hc n (by omega)
      have over : ¬ y_tt c a b q (n + 1) ≤ y_MX → Q (some (.long (-1))) S v := fun z => by
        obtain ⟨k, hk⟩ : ∃ k, q + 1 = n + 1 + k := ⟨q - n, by omega⟩
        have := y_tt_le (c := c) (a := a) (b := b) (q := q) (n := n + 1) k
        rw [hk, y_sat_2 (fun w => z (Nat.le_trans this w))] at h
        exact h
      have es : y_tt c a b q (n + 1) = y_tt c a b q n + c n * (a ^ n * b ^ (q - n)) := rfl
      have skip : c n * (a ^ n * b ^ (q - n)) = 0 → z_J G (d + 1) mX11_odds (59, [.ref 223, .int x1, .int (nI l), .int (nI a), .int (nI b), .long (lN (y_tt c a b q n)), .null, .int (nI n + 1), .null, .null, .null], [], S, v) Q := fun z => by
        have := ih (n + 1) (by omega) (by rw [es, z]; exact hle)
        rw [es, z, Nat.add_zero] at this
        rw [nI_1]; exact this
      have go : (a ≠ 0 ∨ n = 0) → (b ≠ 0 ∨ q ≤ n) → z_J G (d + 1) mX11_odds (127, [.ref 223, .int x1, .int (nI l), .int (nI a), .int (nI b), .long (lN (y_tt c a b q n)), .null, .int (nI n), .long ((nI (c n)).toInt64), .null, .int 0], [], S, v) Q := fun hA hB => by
        have inner : ∀ m k, k + m = q → z_J G (d + 1) mX11_odds (127, [.ref 223, .int x1, .int (nI l), .int (nI a), .int (nI b), .long (lN (y_tt c a b q n)), .null, .int (nI n), .long (y_sat (y_pd (c n) a b n k)), .null, .int (nI k)], [], S, v) Q := by
          intro m
          induction m with
          | zero =>
            intro k hk
            have hk : k = q := by omega
            subst hk
            have ep : y_pd (c n) a b n k = c n * (a ^ n * b ^ (k - n)) := by unfold y_pd; rw [Nat.min_eq_right (by omega)]
            rw [ep]
            refine sg_X11_odds_127 hL ⟨fun _ => ?_, fun z => absurd (by rw [h0]; exact nI_le (Nat.le_refl _) (by omega)) z⟩
            rw [lg_cmp_lt, lg_cmp_le]
            by_cases z : c n * (a ^ n * b ^ (k - n)) ≤ y_MX
            · rw [y_sat_1 z, show (0 : Int64) = lN 0 from rfl, pk_lLT (by rw [y_MXv] at z; omega) (by omega), y_MXI, lN_sub z, pk_lLE (by rw [y_MXv] at hle; omega) (by rw [y_MXv]; omega), lN_add, ← es, nI_1]
              exact ⟨fun w => by omega, fun _ => ⟨fun w => ih (n + 1) (by omega) (by omega), fun w => over (by omega)⟩⟩
            · rw [y_sat_2 z]
              exact ⟨fun _ => over (by omega), fun w => absurd (by decide) w⟩
          | succ m ihm =>
            intro k hk
            refine sg_X11_odds_127 hL ⟨fun z => absurd z (by rw [h0]; exact nI_ge (by omega) (by omega)), fun _ => ⟨fun z => ?_, fun z => ?_⟩⟩
            · have z := (nI_leI (by omega) (by omega)).mp z
              rw [nI_l (by omega), nI_1]
              refine sp_X11_times (Nat.pos_of_ne_zero (hB.resolve_right (by omega))) hb ⟨_, rfl, rfl, ?_⟩
              rw [y_pd_b z]; exact ihm (k + 1) (by omega)
            · have z : k < n := by
                rcases Nat.lt_or_ge k n with w | w
                · exact w
                · exact absurd (nI_le w (by omega)) z
              rw [nI_l (by omega), nI_1]
              refine sp_X11_times (Nat.pos_of_ne_zero (hA.resolve_right (by omega))) ha ⟨_, rfl, rfl, ?_⟩
              rw [y_pd_a z]; exact ihm (k + 1) (by omega)
        have := inner q 0 (Nat.zero_add _)
        have e0 : y_pd (c n) a b n 0 = c n := by
          unfold y_pd
          rw [Nat.min_eq_left (Nat.zero_le _), Nat.zero_sub, Nat.pow_zero, Nat.pow_zero, Nat.mul_one]
        rw [e0, y_sat_1 (by rw [y_MXv]; omega)] at this
        rw [nI_l (by omega)]
        exact this
      have hin : vp_in (nI (26 * l + n)) 52 := vp_in_nI (by omega) (by omega)
      refine sg_X11_odds_59 hL ⟨fun z => absurd z (by rw [h0]; exact nI_nlt (by omega) (by omega)), fun _ => ?_⟩
      rw [h0, show (26 : Int32) = nI 26 from rfl, pk_mul, nI_add, nI_clamp (by omega), c2]
      have za : a = 0 → 0 < n → c n * (a ^ n * b ^ (q - n)) = 0 := fun e1 e2 => by
        rw [e1, Nat.zero_pow e2, Nat.zero_mul, Nat.mul_zero]
      have zb : b = 0 → n < q → c n * (a ^ n * b ^ (q - n)) = 0 := fun e1 e2 => by
        rw [e1, Nat.zero_pow (by omega), Nat.mul_zero, Nat.mul_zero]
      refine ⟨hin, fun z => skip ?_, fun z => ⟨fun z2 => ⟨fun z3 => ⟨hin, go (Or.inl ?_) (Or.inl ?_)⟩, fun z3 => ⟨fun z4 => ⟨hin, go (Or.inl ?_) (Or.inr ?_)⟩, fun z4 => skip (zb ?_ ?_)⟩⟩, fun z2 => ⟨fun z3 => skip (za ?_ ?_), fun z3 => ⟨fun z4 => ⟨hin, go (Or.inr ?_) (Or.inl ?_)⟩, fun z4 => ⟨fun z5 => ⟨hin, go (Or.inr ?_) (Or.inr ?_)⟩, fun z5 => skip (zb ?_ ?_)⟩⟩⟩⟩⟩
      · rw [(nI_eq (b := 0) (by omega) (by omega)).mp z, Nat.zero_mul]
      · exact fun w => z2 (by rw [w]; rfl)
      · exact fun w => z3 (by rw [w]; rfl)
      · exact fun w => z2 (by rw [w]; rfl)
      · exact (nI_leI (by omega) (by omega)).mp z4
      · exact (nI_eq (b := 0) (by omega) (by omega)).mp z3
      · rcases Nat.lt_or_ge n q with w | w
        · exact w
        · exact absurd (nI_le w (by omega)) z4
      · exact (nI_eq (b := 0) (by omega) (by omega)).mp z2
      · exact (nI_ltI (a := 0) (by omega) (by omega)).mp z3
      · rcases Nat.eq_zero_or_pos n with w | w
        · exact w
        · exact absurd (nI_lt (a := 0) w (by omega)) z3
      · exact fun w => z4 (by rw [w]; rfl)
      · rcases Nat.eq_zero_or_pos n with w | w
        · exact w
        · exact absurd (nI_lt (a := 0) w (by omega)) z3
      · exact (nI_leI (by omega) (by omega)).mp z5
      · exact (nI_eq (b := 0) (by omega) (by omega)).mp z4
      · rcases Nat.lt_or_ge n q with w | w
        · exact w
        · exact absurd (nI_le w (by omega)) z5
  exact key (q + 1) 0 (Nat.zero_add _) (Nat.zero_le _)
/-- what odds answers -/
def a_odo (ρ : Nat → Nat) (x1 x2 x3 x4 : Int32) (κ l a b : Nat) : Prop := a_lkk ρ x1 x2 κ l ∧ a ≤ 99 ∧ x3 = nI a ∧ b ≤ 99 ∧ x4 = nI b
def a_odd (ρ : Nat → Nat) (x1 x2 x3 x4 : Int32) (y : Int64) : Prop := (∃ κ l a b, a_odo ρ x1 x2 x3 x4 κ l a b ∧ y = y_sat (y_tt (y_lk (ρ 0) κ (ρ (2 + κ)) l) a b (ρ 0 * ρ 0) (ρ 0 * ρ 0 + 1))) ∨ ((¬ ∃ κ l a b, a_odo ρ x1 x2 x3 x4 κ l a b) ∧ y = -1)
theorem a_odd_u {y y' : Int64} (h : a_odd ρ x1 x2 x3 x4 y) (h' : a_odd ρ x1 x2 x3 x4 y') : y = y' := by
  rcases h with ⟨κ, l, a, b, ⟨h1, h2, h3, h4, h5⟩, h6⟩ | ⟨h1, h2⟩ <;> rcases h' with ⟨κ', l', a', b', ⟨k1, k2, k3, k4, k5⟩, k6⟩ | ⟨k1, k2⟩
  · obtain ⟨e1, e2⟩ := a_lkk_u h1 k1
    subst e1; subst e2
    have e3 : a = a' := (nI_eq (by omega) (by omega)).mp (h3.symm.trans k3)
    have e4 : b = b' := (nI_eq (by omega) (by omega)).mp (h5.symm.trans k5)
    rw [h6, k6, e3, e4]
  · exact absurd ⟨κ, l, a, b, h1, h2, h3, h4, h5⟩ k1
  · exact absurd ⟨κ', l', a', b', k1, k2, k3, k4, k5⟩ h1
  · rw [h2, k2]
theorem x_99 {x : Int32} : (0 ≤ x ∧ x ≤ 99) ↔ ∃ a, a ≤ 99 ∧ x = nI a := by
  rw [show (99 : Int32) = nI 100 - 1 by decide, ix_le (by omega)]
  exact ⟨fun ⟨i, h1, h2⟩ => ⟨i, by omega, h2⟩, fun ⟨i, h1, h2⟩ => ⟨i, by omega, h2⟩⟩
theorem x_01b {x : Int32} : (0 ≤ x ∧ x ≤ 1) ↔ (x = 0 ∨ x = 1) := ⟨fun z => x_01 (Int32.not_lt.mpr z.1) z.2, fun z => by rcases z with z | z <;> rw [z] <;> decide⟩
theorem sp_X10_odds (hd : 4 ≤ d) (hL : z_L S) (hV : p_V ρ) (hW : p_Ws v) (hF : p_F S v 37 ρ) (h : ∀ v1 y, c_pk v v1 → a_odd ρ x1 x2 x3 x4 y → Q (some (.long y)) S v1) : z_J G d mX10_odds (0, [.ref 0, .int x1, .int x2, .int x3, .int x4], [], S, v) Q := by
  obtain ⟨d, rfl⟩ : ∃ e, d = e + 1 := ⟨d - 1, by omega⟩
  have hd25 : ρ 0 * ρ 0 ≤ 25 := by rcases hV.1 with e | e <;> rw [e] <;> decide
  have hF0 := hF
  obtain ⟨⟨w, hw, hwd⟩, -⟩ := hF
  have hwW := p_wdW hwd
  have hwl : w + 18 < 195 := by rcases hwd with ⟨e, _⟩ | ⟨e, _⟩ <;> omega
  refine sg_X10_odds_0 hL hw hwW ?_
  rw [x_99, x_99]
  refine ⟨fun c1 => ⟨fun c2 => ⟨fun ⟨a, a1, a2⟩ => ⟨fun ⟨b, b1, b2⟩ => ?_, fun c4 => h v _ c_pk.rf (Or.inr ⟨fun ⟨κ, l, a, b, q⟩ => c4 ⟨b, q.2.2.2⟩, rfl⟩)⟩, fun c3 => h v _ c_pk.rf (Or.inr ⟨fun ⟨κ, l, a, b, q⟩ => c3 ⟨a, q.2.1, q.2.2.1⟩, rfl⟩)⟩, fun c2 => h v _ c_pk.rf (Or.inr ⟨fun ⟨κ, l, a, b, q⟩ => c2 (k_to q.1.2.1 q.1.2.2.2), rfl⟩)⟩, fun c1 => h v _ c_pk.rf (Or.inr ⟨fun ⟨κ, l, a, b, q⟩ => c1 (k_to q.1.1 q.1.2.2.1), rfl⟩)⟩
  obtain ⟨κ, hκ, rfl⟩ := k_of c1
  obtain ⟨l, hl, rfl⟩ := k_of c2
  refine sp_X3_countSizes (by omega) hL hV hW zF_37 (by omega) hF0 hκ hl (fun v1 k1 k2 => ⟨rfl, rfl, ?_⟩)
  have W1 : p_W v1 w (ρ 0) := (p_wdP hW hwd).fr (fun a a1 a2 => k2 a (by omega))
  rw [W1.2.1, a2, b2]
  refine sp_X3_chances (c := y_lk (ρ 0) κ (ρ (2 + κ)) l) (by omega) hL a1 b1 hd25 (fun n hn => ⟨y_lk_le hV.1, k1 n hn⟩) ⟨_, rfl, rfl, ?_⟩
  exact h v1 _ (fun b hb => k2 b (by omega)) (Or.inl ⟨κ, l, a, b, ⟨⟨hκ, hl, rfl, rfl⟩, a1, a2, b1, b2⟩, rfl⟩)
theorem sp_X11_odds (hd : 4 ≤ d) (hL : z_L S) (hV : p_V ρ) (hM : p_M v ρ) (hT : p_MT v (ρ 0)) (h : ∀ v1 y, m_pk v v1 → a_odd ρ x1 x2 x3 x4 y → Q (some (.long y)) S v1) : z_J G d mX11_odds (0, [.ref 223, .int x1, .int x2, .int x3, .int x4, .null, .null, .null, .null, .null, .null], [], S, v) Q := by
  obtain ⟨d, rfl⟩ : ∃ e, d = e + 1 + 1 := ⟨d - 2, by omega⟩
  have hd25 : ρ 0 * ρ 0 ≤ 25 := by rcases hV.1 with e | e <;> rw [e] <;> decide
  refine sg_X11_odds_0 hL (fun v1 e1 => ?_)
  have f1 : m_f6 v v1 := by rw [e1]; exact m_f6.u0
  have hM1 := f1.M hM
  have hT1 := f1.T hT
  refine sg_X11_isLike_0 hL ?_
  rw [x_01b, x_99, x_99]
  have no : ∀ v1 : z_Dat, m_pk v v1 → (¬ ∃ κ l a b, a_odo ρ x1 x2 x3 x4 κ l a b) → Q (some (.long (-1))) S v1 := fun v1 hp hn => h v1 _ hp (Or.inr ⟨hn, rfl⟩)
  refine ⟨fun c1 => ⟨fun c2 => ⟨_, rfl, rfl, fun c => absurd c (by decide), fun _ => ⟨fun ⟨a, a1, a2⟩ => ⟨fun ⟨b, b1, b2⟩ => ?_, fun c4 => no v1 f1.pk (fun ⟨κ, l, a, b, q⟩ => c4 ⟨b, q.2.2.2⟩)⟩, fun c3 => no v1 f1.pk (fun ⟨κ, l, a, b, q⟩ => c3 ⟨a, q.2.1, q.2.2.1⟩)⟩⟩, fun c2 => ⟨_, rfl, rfl, fun _ => no v1 f1.pk (fun ⟨κ, l, a, b, q⟩ => c2 (k_to q.1.2.1 q.1.2.2.2)), fun c => absurd rfl c⟩⟩, fun c1 => ⟨_, rfl, rfl, fun _ => no v1 f1.pk (fun ⟨κ, l, a, b, q⟩ => c1 (k_to q.1.1 q.1.2.2.1)), fun c => absurd rfl c⟩⟩
  obtain ⟨κ, hκ, rfl⟩ := k_of c1
  obtain ⟨l, hl, rfl⟩ := k_of c2
  have hs := ((hV.2.2.1 κ hκ)).1
  rw [nI_2, nI_clamp (by omega), hM1 (2 + κ) (by omega)]
  refine ⟨vp_in_nI (by omega) (by omega), sp_X11_likes (wc := 1) (by omega) hL hV hM1 hT1 hκ hs (by omega) (fun v2 k1 k2 k3 k4 => ⟨rfl, rfl, ?_⟩)⟩
  have hM2 := k4.pk.M hM1
  rw [a2, b2]
  refine sp_X11_odds_59 (c := y_lk (ρ 0) κ (ρ (2 + κ)) l) (by omega) hL (by rw [hM2 0 (by omega), pk_mul]) a1 b1 hd25 hl (fun n hn => ⟨y_lk_le hV.1, ?_⟩) ?_
  · rw [k1 l n hl hn, y_lk_m hV.1 hκ hs hl hn]
  · exact h v2 _ (f1.pk.tr k4.pk) (Or.inl ⟨κ, l, a, b, ⟨⟨hκ, hl, rfl, rfl⟩, a1, a2, b1, b2⟩, rfl⟩)
theorem sp_X10_like (hd : 3 ≤ d) (hL : z_L S) (hV : p_V ρ) (hW : p_Ws v) (hF : p_F S v 37 ρ) (h : ∀ v1 y, c_pk v v1 → a_like ρ x1 x2 x3 y → Q (some (.int y)) S v1) : z_J G d mX10_like (0, [.ref 0, .int x1, .int x2, .int x3], [], S, v) Q := by
  obtain ⟨d, rfl⟩ : ∃ e, d = e + 1 := ⟨d - 1, by omega⟩
  have hd25 : ρ 0 * ρ 0 ≤ 25 := by rcases hV.1 with e | e <;> rw [e] <;> decide
  have hF0 := hF
  obtain ⟨⟨w, hw, hwd⟩, -⟩ := hF
  have hwW := p_wdW hwd
  have ew := (p_wdP hW hwd).2.1
  refine sg_X10_like_0 hL hw hwW ?_
  rw [ew]
  refine ⟨fun c1 => ⟨fun c2 => ⟨fun c3 => h v _ c_pk.rf (Or.inr ⟨fun ⟨κ, l, z, q1, q2, q3⟩ => nI_pos (n := z) (by omega) (by rw [← q3]; exact c3), rfl⟩), fun c3 => ?_⟩, fun c2 => h v _ c_pk.rf (Or.inr ⟨fun ⟨κ, l, z, q, _⟩ => c2 (k_to q.2.1 q.2.2.2), rfl⟩)⟩, fun c1 => h v _ c_pk.rf (Or.inr ⟨fun ⟨κ, l, z, q, _⟩ => c1 (k_to q.1 q.2.2.1), rfl⟩)⟩
  obtain ⟨κ, hκ, rfl⟩ := k_of c1
  obtain ⟨l, hl, rfl⟩ := k_of c2
  obtain ⟨z, hz, rfl⟩ := nI_of c3
  refine ⟨fun c4 => ?_, fun c4 => h v _ c_pk.rf (Or.inr ⟨fun ⟨κ', l', z', q1, q2, q3⟩ => c4 (by rw [q3]; exact nI_le q2 (by omega)), rfl⟩)⟩
  have c4 := (nI_leI hz (by omega)).mp c4
  refine sp_X3_countSizes (by omega) hL hV hW zF_37 (by omega) hF0 hκ hl (fun v1 k1 k2 => ⟨rfl, rfl, vp_in_nI (by omega) (by omega), ?_⟩)
  rw [nI_clamp hz, k1 z (by omega)]
  exact h v1 _ (fun b hb => k2 b (by omega)) (Or.inl ⟨κ, l, z, ⟨hκ, hl, rfl, rfl⟩, c4, rfl, rfl⟩)
theorem sp_X11_like (hd : 4 ≤ d) (hL : z_L S) (hV : p_V ρ) (hM : p_M v ρ) (hT : p_MT v (ρ 0)) (h : ∀ v1 y, m_pk v v1 → a_like ρ x1 x2 x3 y → Q (some (.int y)) S v1) : z_J G d mX11_like (0, [.ref 223, .int x1, .int x2, .int x3], [], S, v) Q := by
  obtain ⟨d, rfl⟩ : ∃ e, d = e + 1 + 1 := ⟨d - 2, by omega⟩
  have hd25 : ρ 0 * ρ 0 ≤ 25 := by rcases hV.1 with e | e <;> rw [e] <;> decide
  refine sg_X11_like_0 hL (fun v1 e1 => ?_)
  have f1 : m_f6 v v1 := by rw [e1]; exact m_f6.u0
  have hM1 := f1.M hM
  have hT1 := f1.T hT
  refine sg_X11_isLike_0 hL ?_
  rw [x_01b, hM1 0 (by omega), pk_mul, show nI (ρ 0 * ρ 0) = nI (ρ 0 * ρ 0 + 1) - 1 by rw [nI_pred], ix_le (by omega)]
  have no : ∀ v1 : z_Dat, m_pk v v1 → (¬ ∃ κ l z, a_lkk ρ x1 x2 κ l ∧ z ≤ ρ 0 * ρ 0 ∧ x3 = nI z) → Q (some (.int (-1))) S v1 := fun v1 hp hn => h v1 _ hp (Or.inr ⟨hn, rfl⟩)
  refine ⟨fun c1 => ⟨fun c2 => ⟨_, rfl, rfl, fun c => absurd c (by decide), fun _ => ⟨fun ⟨z, z1, z2⟩ => ?_, fun c3 => no v1 f1.pk (fun ⟨κ, l, z, q1, q2, q3⟩ => c3 ⟨z, by omega, q3⟩)⟩⟩, fun c2 => ⟨_, rfl, rfl, fun _ => no v1 f1.pk (fun ⟨κ, l, z, q, _⟩ => c2 (k_to q.2.1 q.2.2.2)), fun c => absurd rfl c⟩⟩, fun c1 => ⟨_, rfl, rfl, fun _ => no v1 f1.pk (fun ⟨κ, l, z, q, _⟩ => c1 (k_to q.1 q.2.2.1)), fun c => absurd rfl c⟩⟩
  obtain ⟨κ, hκ, rfl⟩ := k_of c1
  obtain ⟨l, hl, rfl⟩ := k_of c2
  have hs := ((hV.2.2.1 κ hκ)).1
  rw [nI_2, nI_clamp (by omega), hM1 (2 + κ) (by omega), z2, show (26 : Int32) = nI 26 from rfl, pk_mul, nI_add, nI_clamp (by omega)]
  refine ⟨vp_in_nI (by omega) (by omega), sp_X11_likes (wc := 1) (by omega) hL hV hM1 hT1 hκ hs (by omega) (fun v2 k1 k2 k3 k4 => ⟨rfl, rfl, vp_in_nI (by omega) (by omega), ?_⟩)⟩
  rw [k1 l z hl (by omega), y_lk_m hV.1 hκ hs hl (by omega)]
  exact h v2 _ (f1.pk.tr k4.pk) (Or.inl ⟨κ, l, z, ⟨hκ, hl, rfl, rfl⟩, by omega, z2, rfl⟩)
theorem sp_X10_fewest (hd : 3 ≤ d) (hL : z_L S) (hV : p_V ρ) (hW : p_Ws v) (hF : p_F S v 37 ρ) (h : ∀ v1 y, c_pk v v1 → a_few ρ x1 x2 y → Q (some (.int y)) S v1) : z_J G d mX10_fewest (0, [.ref 0, .int x1, .int x2], [], S, v) Q := by
  obtain ⟨d, rfl⟩ : ∃ e, d = e + 1 := ⟨d - 1, by omega⟩
  have hd25 : ρ 0 * ρ 0 ≤ 25 := by rcases hV.1 with e | e <;> rw [e] <;> decide
  have hF0 := hF
  obtain ⟨⟨w, hw, hwd⟩, -⟩ := hF
  have hwW := p_wdW hwd
  have hwl : w + 18 < 195 := by rcases hwd with ⟨e, _⟩ | ⟨e, _⟩ <;> omega
  refine sg_X10_fewest_0 hL hw hwW ⟨fun c1 => ⟨fun c2 => ?_, fun c2 => h v _ c_pk.rf (Or.inr ⟨fun ⟨κ, l, q⟩ => c2 (k_to q.2.1 q.2.2.2), rfl⟩)⟩, fun c1 => h v _ c_pk.rf (Or.inr ⟨fun ⟨κ, l, q⟩ => c1 (k_to q.1 q.2.2.1), rfl⟩)⟩
  obtain ⟨κ, hκ, rfl⟩ := k_of c1
  obtain ⟨l, hl, rfl⟩ := k_of c2
  obtain ⟨z, z1, z2, z3⟩ := y_is_ex hV hκ hl
  refine sp_X3_countSizes (by omega) hL hV hW zF_37 (by omega) hF0 hκ hl (fun v1 k1 k2 => ⟨rfl, rfl, ?_⟩)
  have W1 : p_W v1 w (ρ 0) := (p_wdP hW hwd).fr (fun a a1 a2 => k2 a (by omega))
  rw [W1.2.1]
  have key : ∀ j n, n + j = z → z_J G d mX3_leastSize (2, [.ref 195, .int (nI (ρ 0 * ρ 0)), .int (nI n)], [], S, v1) (fun r S1 v2 => ∃ y1 : Int32, r = some (.int y1) ∧ S1 = S ∧ Q (some (.int y1)) S v2) := by
    intro j
    induction j with
    | zero =>
      intro n hn
      have hn : n = z := by omega
      subst hn
      have hle := y_lk_le (κ := κ) (s := ρ (2 + κ)) (l := l) (z := n) hV.1
      refine sg_X3_leastSize_2 hL ⟨fun c => absurd c (nI_nlt (by omega) (by omega)), fun _ => ⟨vp_in_nI (by omega) (by omega), ?_⟩⟩
      rw [nI_clamp (by omega), k1 n (by omega)]
      exact ⟨fun c => absurd c (nI_nle z2 (by omega)), fun _ => ⟨_, rfl, rfl, h v1 _ (fun b hb => k2 b (by omega)) (Or.inl ⟨κ, l, n, ⟨hκ, hl, rfl, rfl⟩, ⟨z2, z3⟩, rfl⟩)⟩⟩
    | succ j ih =>
      intro n hn
      refine sg_X3_leastSize_2 hL ⟨fun c => absurd c (nI_nlt (by omega) (by omega)), fun _ => ⟨vp_in_nI (by omega) (by omega), ?_⟩⟩
      rw [nI_clamp (by omega), k1 n (by omega), z3 n (by omega), nI_1]
      exact ⟨fun _ => ih (n + 1) (by omega), fun c => absurd (by decide) c⟩
  exact sg_X3_leastSize_0 (key z 0 (Nat.zero_add _))
theorem sp_X11_fewest (hd : 4 ≤ d) (hL : z_L S) (hV : p_V ρ) (hM : p_M v ρ) (hT : p_MT v (ρ 0)) (h : ∀ v1 y, m_pk v v1 → a_few ρ x1 x2 y → Q (some (.int y)) S v1) : z_J G d mX11_fewest (0, [.ref 223, .int x1, .int x2, .null], [], S, v) Q := by
  obtain ⟨d, rfl⟩ : ∃ e, d = e + 1 + 1 := ⟨d - 2, by omega⟩
  have hd25 : ρ 0 * ρ 0 ≤ 25 := by rcases hV.1 with e | e <;> rw [e] <;> decide
  refine sg_X11_fewest_0 hL (fun v1 e1 => ?_)
  have f1 : m_f6 v v1 := by rw [e1]; exact m_f6.u0
  have hM1 := f1.M hM
  have hT1 := f1.T hT
  refine sg_X11_isLike_0 hL ?_
  rw [x_01b]
  have no : ∀ v1 : z_Dat, m_pk v v1 → (¬ ∃ κ l, a_lkk ρ x1 x2 κ l) → Q (some (.int (-1))) S v1 := fun v1 hp hn => h v1 _ hp (Or.inr ⟨hn, rfl⟩)
  refine ⟨fun c1 => ⟨fun c2 => ⟨_, rfl, rfl, fun _ => ?_, fun c => absurd c (by decide)⟩, fun c2 => ⟨_, rfl, rfl, fun c => absurd rfl c, fun _ => no v1 f1.pk (fun ⟨κ, l, q⟩ => c2 (k_to q.2.1 q.2.2.2))⟩⟩, fun c1 => ⟨_, rfl, rfl, fun c => absurd rfl c, fun _ => no v1 f1.pk (fun ⟨κ, l, q⟩ => c1 (k_to q.1 q.2.2.1))⟩⟩
  obtain ⟨κ, hκ, rfl⟩ := k_of c1
  obtain ⟨l, hl, rfl⟩ := k_of c2
  obtain ⟨z, z1, z2, z3⟩ := y_is_ex hV hκ hl
  have hs := ((hV.2.2.1 κ hκ)).1
  rw [nI_2, nI_clamp (by omega), hM1 (2 + κ) (by omega)]
  refine ⟨vp_in_nI (by omega) (by omega), sp_X11_likes (wc := 1) (by omega) hL hV hM1 hT1 hκ hs (by omega) (fun v2 k1 k2 k3 k4 => ⟨rfl, rfl, ?_⟩)⟩
  have key : ∀ j n, n + j = z → z_J G (d + 1 + 1) mX11_fewest (32, [.ref 223, .int (nI κ), .int (nI l), .int (nI n)], [], S, v2) Q := by
    intro j
    induction j with
    | zero =>
      intro n hn
      have hn : n = z := by omega
      subst hn
      have hle := y_lk_le (κ := κ) (s := ρ (2 + κ)) (l := l) (z := n) hV.1
      refine sg_X11_fewest_32 hL ?_
      rw [show (26 : Int32) = nI 26 from rfl, pk_mul, nI_add, nI_clamp (by omega), k1 l n hl (by omega), y_lk_m hV.1 hκ hs hl (by omega)]
      exact ⟨vp_in_nI (by omega) (by omega), fun _ => h v2 _ (f1.pk.tr k4.pk) (Or.inl ⟨κ, l, n, ⟨hκ, hl, rfl, rfl⟩, ⟨z2, z3⟩, rfl⟩), fun c => absurd c (nI_ne0 z2 (by omega))⟩
    | succ j ih =>
      intro n hn
      refine sg_X11_fewest_32 hL ?_
      rw [show (26 : Int32) = nI 26 from rfl, pk_mul, nI_add, nI_clamp (by omega), k1 l n hl (by omega), y_lk_m hV.1 hκ hs hl (by omega), z3 n (by omega), nI_1]
      exact ⟨vp_in_nI (by omega) (by omega), fun c => absurd rfl c, fun _ => ih (n + 1) (by omega)⟩
  exact key z 0 (Nat.zero_add _)
theorem sp_X10_distance (hd : 3 ≤ d) (hL : z_L S) (hV : p_V ρ) (hW : p_Ws v) (hF : p_F S v 37 ρ) (h : ∀ v1 y, c_pk v v1 → a_dst ρ x1 y → Q (some (.int y)) S v1) : z_J G d mX10_distance (0, [.ref 0, .int x1], [], S, v) Q := by
  obtain ⟨d, rfl⟩ : ∃ e, d = e + 1 := ⟨d - 1, by omega⟩
  refine sg_X10_distance_0 hL ⟨fun c => ?_, fun c => h v _ c_pk.rf (Or.inr ⟨c, rfl⟩)⟩
  obtain ⟨κ, hκ, rfl⟩ := k_of c
  exact sp_X3_leastChain (by omega) hL hV hW zF_37 hF hκ (fun v1 k => ⟨_, rfl, rfl, h v1 _ (fun b hb => k b (by omega) (by omega)) (Or.inl ⟨κ, hκ, rfl, rfl⟩)⟩)
theorem sp_X11_distance (hd : 4 ≤ d) (hL : z_L S) (hV : p_V ρ) (hM : p_M v ρ) (hT : p_MT v (ρ 0)) (h : ∀ v1 y, m_pk v v1 → a_dst ρ x1 y → Q (some (.int y)) S v1) : z_J G d mX11_distance (0, [.ref 223, .int x1], [], S, v) Q := by
  obtain ⟨d, rfl⟩ : ∃ e, d = e + 1 := ⟨d - 1, by omega⟩
  refine sg_X11_distance_0 hL (fun v1 e1 => ?_)
  have f1 : m_f6 v v1 := by rw [e1]; exact m_f6.u0
  have hM1 := f1.M hM
  have hT1 := f1.T hT
  refine ⟨fun c => ?_, fun c => h v1 _ f1.pk (Or.inr ⟨c, rfl⟩)⟩
  obtain ⟨κ, hκ, rfl⟩ := k_of c
  refine sp_X11_chainOf (by omega) hL (hM1 0 (by omega)) hV.1 hκ ⟨_, rfl, rfl, ?_⟩
  refine sp_X11_likes (wc := 0) (by omega) hL hV hM1 hT1 hκ (y_tf hV.1 hκ).2.2 (by omega) (fun v2 k1 k2 k3 k4 => ⟨rfl, rfl, ?_⟩)
  rw [k3]
  exact h v2 _ (f1.pk.tr k4.pk) (Or.inl ⟨κ, hκ, rfl, rfl⟩)
end OD
