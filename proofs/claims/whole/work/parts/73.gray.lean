/-! SETS THAT LOOK LIKE ONE: all that presses make of it, a press at a time -/
theorem q_lo_u {a i : Nat} (h0 : 0 < a) (ha : a < 16384) (h : q_isLo a i) : q_lo a = i := by
  obtain ⟨⟨hb, hlow⟩, -⟩ := q_lo_ok h0 ha
  rcases Nat.lt_trichotomy (q_lo a) i with z | z | z
  · exact absurd hb (h.2 _ z)
  · exact z
  · exact absurd h.1 (hlow i z)
theorem y_pw {k i : Nat} (h : i ≤ k) : 2 ^ k = 2 ^ i * 2 ^ (k - i) := by rw [← Nat.pow_add]; congr 1; omega
theorem y_pe {k i : Nat} (h : i < k) : 2 ^ (k - i) % 2 = 0 := by
  obtain ⟨j, hj⟩ : ∃ j, k - i = j + 1 := ⟨k - i - 1, by omega⟩
  rw [hj, Nat.pow_succ]; omega
theorem y_lo1 {k m : Nat} (hk : k ≤ 13) (h0 : 0 < m) (hm : m < 2 ^ k) : q_lo (2 ^ k + m) = q_lo m := by
  have h2k : 2 ^ k ≤ 8192 := Nat.pow_le_pow_right (n := 2) (by omega) hk
  obtain ⟨⟨hb, hlow⟩, -⟩ := q_lo_ok h0 (show m < 16384 by omega)
  have hi := q_bN hm hb
  have hbit : ∀ i, i < k → (2 ^ k + m) / 2 ^ i % 2 = m / 2 ^ i % 2 := fun i hi => by
    rw [y_pw (Nat.le_of_lt hi), Nat.mul_add_div (Nat.pow_pos (by omega))]
    have := y_pe hi
    omega
  exact q_lo_u (by omega) (by omega) ⟨by rw [hbit _ hi]; exact hb, fun j hj => by rw [hbit j (by omega)]; exact hlow j hj⟩
theorem y_lo2 {k : Nat} (hk : k ≤ 13) : q_lo (2 ^ k) = k := by
  have h2k : 2 ^ k ≤ 8192 := Nat.pow_le_pow_right (n := 2) (by omega) hk
  have hp : 0 < 2 ^ k := Nat.pow_pos (by omega)
  refine q_lo_u hp (by omega) ⟨by rw [Nat.div_self hp], fun j hj => ?_⟩
  rw [y_pw (Nat.le_of_lt hj), Nat.mul_div_cancel_left _ (Nat.pow_pos (by omega)), y_pe hj]
  omega
theorem y_lo3 {k j : Nat} (hk : k ≤ 13) (h0 : 0 < j) (hj : j < 2 ^ k) : q_lo (2 ^ k - j) = q_lo j := by
  have h2k : 2 ^ k ≤ 8192 := Nat.pow_le_pow_right (n := 2) (by omega) hk
  obtain ⟨⟨hb, hlow⟩, -⟩ := q_lo_ok h0 (show j < 16384 by omega)
  have hi := q_bN hj hb
  have hm := q_m0 _ hlow
  generalize q_lo j = i at *
  have hp : 0 < 2 ^ i := Nat.pow_pos (by omega)
  have ej : j = 2 ^ i * (j / 2 ^ i) := by
    have := Nat.div_add_mod j (2 ^ i)
    omega
  have e2 := y_pw (Nat.le_of_lt hi)
  have hle : j / 2 ^ i ≤ 2 ^ (k - i) := by
    rw [e2] at hj
    exact Nat.le_of_lt (Nat.div_lt_of_lt_mul hj)
  have ed : 2 ^ k - j = 2 ^ i * (2 ^ (k - i) - j / 2 ^ i) := by
    rw [Nat.mul_sub, ← e2, ← ej]
  have hpe := y_pe hi
  refine q_lo_u (by omega) (by omega) ⟨?_, fun i' hi' => ?_⟩
  · rw [ed, Nat.mul_div_cancel_left _ hp]
    omega
  · rw [ed, y_pw (Nat.le_of_lt hi'), Nat.mul_assoc, Nat.mul_div_cancel_left _ (Nat.pow_pos (by omega)), Nat.mul_mod, y_pe hi', Nat.zero_mul]
    omega
def y_s (f : Nat → Nat) (a : Nat) : Nat → Nat
  | 0 => a
  | n + 1 => y_s f a n ^^^ f (q_lo (n + 1))
theorem y_s_add {f : Nat → Nat} {a k : Nat} (hk : k ≤ 13) : ∀ m, m < 2 ^ k → y_s f a (2 ^ k + m) = y_s f (y_s f a (2 ^ k)) m
  | 0, _ => rfl
  | m + 1, h => by
    rw [← Nat.add_assoc, y_s, y_s, y_s_add hk m (by omega), Nat.add_assoc, y_lo1 hk (by omega) h]
theorem y_xx (a b c : Nat) : a ^^^ b ^^^ c ^^^ b = a ^^^ c := by
  rw [Nat.xor_assoc a b c, Nat.xor_comm b c, ← Nat.xor_assoc, Nat.xor_assoc (a ^^^ c), Nat.xor_self, Nat.xor_zero]
theorem y_s_top {f : Nat → Nat} : ∀ k a, k ≤ 12 → y_s f a (2 ^ (k + 1) - 1) = a ^^^ f k
  | 0, a, _ => by
    show y_s f a 1 = _
    rw [y_s]
    show a ^^^ f (q_lo 1) = _
    rw [show q_lo 1 = 0 by decide]
  | k + 1, a, h => by
    have hp : 0 < 2 ^ (k + 1) := Nat.pow_pos (by omega)
    have e1 : 2 ^ (k + 1 + 1) - 1 = 2 ^ (k + 1) + (2 ^ (k + 1) - 1) := by rw [Nat.pow_succ 2 (k + 1)]; omega
    have e2 : y_s f a (2 ^ (k + 1)) = y_s f a (2 ^ (k + 1) - 1) ^^^ f (k + 1) := by
      obtain ⟨p, hp2⟩ : ∃ p, 2 ^ (k + 1) = p + 1 := ⟨2 ^ (k + 1) - 1, by omega⟩
      have := y_lo2 (k := k + 1) (by omega)
      rw [hp2] at this ⊢
      rw [y_s, this, Nat.add_sub_cancel]
    rw [e1, y_s_add (by omega) _ (by omega), y_s_top k _ (by omega), e2, y_s_top k a (by omega), y_xx]
theorem y_s_rev {f : Nat → Nat} {a k : Nat} (hk : k ≤ 12) : ∀ m, m < 2 ^ (k + 1) → y_s f a (2 ^ (k + 1) - 1 - m) = y_s f (a ^^^ f k) m
  | 0, _ => by rw [Nat.sub_zero, y_s_top k a hk]; rfl
  | m + 1, h => by
    have ih := y_s_rev (f := f) (a := a) hk m (by omega)
    obtain ⟨j, hj⟩ : ∃ j, 2 ^ (k + 1) - 1 - m = j + 1 := ⟨2 ^ (k + 1) - 1 - m - 1, by omega⟩
    have e1 : 2 ^ (k + 1) - 1 - (m + 1) = j := by omega
    have e2 : j + 1 = 2 ^ (k + 1) - (m + 1) := by omega
    have e3 := y_lo3 (k := k + 1) (by omega) (show 0 < m + 1 by omega) h
    rw [hj, y_s, e2, e3] at ih
    rw [e1, y_s, ← ih, Nat.xor_assoc, Nat.xor_self, Nat.xor_zero]
def y_ct (g : Nat → Nat) (z : Nat) : Nat → Nat
  | 0 => 0
  | n + 1 => y_ct g z n + (if g n = z then 1 else 0)
theorem y_ct_le {g : Nat → Nat} {z : Nat} : ∀ n, y_ct g z n ≤ n
  | 0 => Nat.le_refl _
  | n + 1 => by
    have := y_ct_le (g := g) (z := z) n
    rw [y_ct]
    split <;> omega
theorem y_ct_c {g g' : Nat → Nat} {z z' : Nat} : ∀ n, (∀ i, i < n → (g i = z ↔ g' i = z')) → y_ct g z n = y_ct g' z' n
  | 0, _ => rfl
  | n + 1, h => by
    have h1 := h n (by omega)
    rw [y_ct, y_ct, y_ct_c n (fun i hi => h i (by omega))]
    by_cases c : g n = z
    · rw [if_pos c, if_pos (h1.mp c)]
    · rw [if_neg c, if_neg (fun q => c (h1.mpr q))]
theorem y_ct_0 {g : Nat → Nat} {z : Nat} : ∀ n, (∀ i, i < n → g i ≠ z) → y_ct g z n = 0
  | 0, _ => rfl
  | n + 1, h => by rw [y_ct, y_ct_0 n (fun i hi => h i (by omega)), if_neg (h n (by omega))]
theorem y_ct_add {g : Nat → Nat} {z n : Nat} : ∀ m, y_ct g z (n + m) = y_ct g z n + y_ct (fun i => g (n + i)) z m
  | 0 => rfl
  | m + 1 => by
    show y_ct g z (n + m) + _ = y_ct g z n + (y_ct (fun i => g (n + i)) z m + _)
    rw [y_ct_add m, Nat.add_assoc]
    rfl
theorem y_ct_rev {g : Nat → Nat} {z N : Nat} : ∀ j, j ≤ N → y_ct g z N = y_ct g z (N - j) + y_ct (fun m => g (N - 1 - m)) z j
  | 0, _ => rfl
  | j + 1, h => by
    rw [y_ct_rev (g := g) (z := z) j (by omega)]
    obtain ⟨i, hi⟩ : ∃ i, N - j = i + 1 := ⟨N - j - 1, by omega⟩
    have e1 : N - (j + 1) = i := by omega
    have e2 : N - 1 - j = i := by omega
    rw [hi, e1, y_ct, y_ct, e2]
    omega
theorem y_ct_p {g : Nat → Nat} {z i : Nat} : ∀ n, i < n → g i = z → 0 < y_ct g z n
  | 0, h, _ => by omega
  | n + 1, h, hz => by
    rw [y_ct]
    by_cases e : i = n
    · rw [← e, if_pos hz]; omega
    · have := y_ct_p n (by omega) hz
      omega
theorem y_xor2 (a b : Nat) : (a ^^^ b) / 2 = a / 2 ^^^ b / 2 ∧ (a ^^^ b) % 2 = (a % 2 + b % 2) % 2 := by
  constructor
  · refine Nat.eq_of_testBit_eq (fun j => ?_)
    have dd : ∀ a : Nat, a / 2 / 2 ^ j = a / 2 ^ (1 + j) := fun a => by
      have := q_dd a 1 j
      rw [Nat.pow_one] at this
      exact this
    rw [Nat.testBit_xor, q_tb, q_tb, q_tb, dd, dd, dd, ← q_tb, ← q_tb, ← q_tb, Nat.testBit_xor]
  · have h := Nat.testBit_xor a b 0
    rw [q_tb, q_tb, q_tb, Nat.pow_zero, Nat.div_one, Nat.div_one, Nat.div_one] at h
    rcases (show a % 2 = 0 ∨ a % 2 = 1 by omega) with ha | ha <;> rcases (show b % 2 = 0 ∨ b % 2 = 1 by omega) with hb | hb <;> rcases (show (a ^^^ b) % 2 = 0 ∨ (a ^^^ b) % 2 = 1 by omega) with hc | hc <;> rw [ha, hb, hc] at h <;> rw [ha, hb, hc] <;> first | rfl | (exact absurd h (by decide))
theorem y_pcx : ∀ k a b, z_pcR k (a ^^^ b) % 2 = (z_pcR k a + z_pcR k b) % 2
  | 0, _, _ => rfl
  | k + 1, a, b => by
    obtain ⟨h1, h2⟩ := y_xor2 a b
    have ih := y_pcx k (a / 2) (b / 2)
    rw [z_pcR, z_pcR, z_pcR, h1, h2]
    omega
theorem y_andx (a b m : Nat) : (a ^^^ b) &&& m = (a &&& m) ^^^ (b &&& m) := by
  refine Nat.eq_of_testBit_eq (fun j => ?_)
  rw [Nat.testBit_and, Nat.testBit_xor, Nat.testBit_xor, Nat.testBit_and, Nat.testBit_and]
  cases a.testBit j <;> cases b.testBit j <;> cases m.testBit j <;> rfl
theorem y_lgx (d κ a b : Nat) : p_lg d κ (a ^^^ b) = (p_lg d κ a + p_lg d κ b) % 2 := by
  unfold p_lg p_pc
  rw [y_andx, y_pcx]
  omega
theorem y_lg_lt (d κ a : Nat) : p_lg d κ a < 2 := Nat.mod_lt _ (by omega)
/-- presses of the other kind, and the chain -/
def y_f (d κ g : Nat) : Nat := if g = t_K d then t_lb d (1 - κ) else t_fb d (1 - κ) g
theorem y_tf {d κ : Nat} (h35 : d = 3 ∨ d = 5) (hκ : κ < 2) : (∀ g, g < t_K d → (p_lg d κ (t_fb d (1 - κ) g) = 0 ∧ t_fb d (1 - κ) g < 2 ^ (d * d))) ∧ p_lg d κ (t_lb d (1 - κ)) = 1 ∧ t_lb d (1 - κ) < 2 ^ (d * d) := by
  rcases h35 with rfl | rfl <;> rcases (show κ = 0 ∨ κ = 1 by omega) with rfl | rfl <;> decide +kernel
theorem y_f_lt {d κ g : Nat} (h35 : d = 3 ∨ d = 5) (hκ : κ < 2) (hg : g ≤ t_K d) : y_f d κ g < 2 ^ (d * d) := by
  obtain ⟨h1, h2, h3⟩ := y_tf h35 hκ
  unfold y_f
  by_cases c : g = t_K d
  · rw [if_pos c]; exact h3
  · rw [if_neg c]; exact (h1 g (by omega)).2
theorem y_lo_lt {n k : Nat} (h0 : 0 < n) (hn : n < 2 ^ k) (hk : k ≤ 13) : q_lo n < k := by
  have h2k : 2 ^ k ≤ 8192 := Nat.pow_le_pow_right (n := 2) (by omega) hk
  exact q_bN hn (q_lo_ok h0 (by omega)).1.1
theorem y_s_lt {d κ a : Nat} (h35 : d = 3 ∨ d = 5) (hκ : κ < 2) (ha : a < 2 ^ (d * d)) : ∀ n, n < 2 ^ (t_K d + 1) → y_s (y_f d κ) a n < 2 ^ (d * d)
  | 0, _ => ha
  | n + 1, h => by
    have hK := t_Kle h35
    rw [y_s]
    have := y_lo_lt (k := t_K d + 1) (show 0 < n + 1 by omega) h (by omega)
    exact Nat.xor_lt_two_pow (y_s_lt h35 hκ ha n (by omega)) (y_f_lt h35 hκ (by omega))
theorem y_s_lg {d κ a : Nat} (h35 : d = 3 ∨ d = 5) (hκ : κ < 2) : ∀ n, n < 2 ^ t_K d → p_lg d κ (y_s (y_f d κ) a n) = p_lg d κ a
  | 0, _ => rfl
  | n + 1, h => by
    have hK := t_Kle h35
    have hl := y_lo_lt (k := t_K d) (show 0 < n + 1 by omega) h (by omega)
    rw [y_s, y_lgx, y_s_lg h35 hκ n (by omega)]
    unfold y_f
    rw [if_neg (by omega), ((y_tf h35 hκ).1 _ hl).1]
    have := y_lg_lt d κ a
    omega
theorem z_pcR_lt : ∀ k n a, a < 2 ^ n → n ≤ k → z_pcR k a ≤ n
  | 0, n, a, _, _ => Nat.zero_le _
  | k + 1, n, a, h, hn => by
    cases n with
    | zero =>
      rw [Nat.pow_zero] at h
      have : a = 0 := by omega
      subst this
      have := z_pcR_lt k 0 (0 / 2) (by decide) (by omega)
      rw [z_pcR]
      omega
    | succ n =>
      rw [Nat.pow_succ] at h
      have := z_pcR_lt k n (a / 2) (by omega) (by omega)
      rw [z_pcR]
      omega
theorem p_pc_lt {a n : Nat} (h : a < 2 ^ n) (hn : n ≤ 32) : p_pc a ≤ n := z_pcR_lt 32 n a h hn
/-- from which one all that are like a set, of one logical, are made -/
def y_a0 (d κ s l : Nat) : Nat := if p_lg d κ s = l then s else s ^^^ t_lb d (1 - κ)
def y_lk (d κ s l z : Nat) : Nat := y_ct (fun n => p_pc (y_s (y_f d κ) (y_a0 d κ s l) n)) z (2 ^ t_K d)
/-- the reference goes through both logicals at once -/
theorem y_lk_m {d κ s l z : Nat} (h35 : d = 3 ∨ d = 5) (hκ : κ < 2) (hs : s < 2 ^ (d * d)) (hl : l < 2) (hz : z < 26) : y_ct (fun n => 26 * p_lg d κ (y_s (y_f d κ) s n) + p_pc (y_s (y_f d κ) s n)) (26 * l + z) (2 ^ (t_K d + 1)) = y_lk d κ s l z := by
  have hK : ∃ k, t_K d = k + 1 ∧ k ≤ 11 := by rcases h35 with rfl | rfl; exact ⟨3, by decide⟩; exact ⟨11, by decide⟩
  obtain ⟨k, ek, hk⟩ := hK
  have hd25 : d * d ≤ 25 := by rcases h35 with rfl | rfl <;> decide
  have hpc : ∀ n, n < 2 ^ (t_K d + 1) → p_pc (y_s (y_f d κ) s n) ≤ 25 := fun n hn => Nat.le_trans (p_pc_lt (y_s_lt h35 hκ hs n hn) (by omega)) hd25
  have h2 : 2 ^ (t_K d + 1) = 2 ^ t_K d + 2 ^ t_K d := by rw [Nat.pow_succ]; omega
  have hp : 0 < 2 ^ t_K d := Nat.pow_pos (by omega)
  have hls := y_lg_lt d κ s
  have eK : y_s (y_f d κ) s (2 ^ t_K d) = (s ^^^ t_lb d (1 - κ)) ^^^ y_f d κ k := by
    obtain ⟨p, hp2⟩ : ∃ p, 2 ^ t_K d = p + 1 := ⟨2 ^ t_K d - 1, by omega⟩
    have h3 := y_lo2 (k := t_K d) (by omega)
    have h4 := y_s_top (f := y_f d κ) k s (by omega)
    rw [← ek] at h4
    rw [hp2] at h3 h4 ⊢
    rw [Nat.add_sub_cancel] at h4
    rw [y_s, h3, h4]
    have : y_f d κ (t_K d) = t_lb d (1 - κ) := if_pos rfl
    rw [this, Nat.xor_assoc, Nat.xor_comm (y_f d κ k), ← Nat.xor_assoc]
  have sec : ∀ m, m < 2 ^ t_K d → y_s (y_f d κ) s (2 ^ t_K d + m) = y_s (y_f d κ) (s ^^^ t_lb d (1 - κ)) (2 ^ t_K d - 1 - m) := fun m hm => by
    rw [y_s_add (by omega) m hm, eK]
    have := y_s_rev (f := y_f d κ) (a := s ^^^ t_lb d (1 - κ)) (k := k) (by omega) m (by rw [← ek]; exact hm)
    rw [ek, this]
  have hch : p_lg d κ (s ^^^ t_lb d (1 - κ)) = 1 - p_lg d κ s := by
    rw [y_lgx, (y_tf h35 hκ).2.1]; omega
  rw [h2, y_ct_add]
  unfold y_lk y_a0
  by_cases c : p_lg d κ s = l
  · rw [if_pos c]
    have r2 : y_ct (fun i => 26 * p_lg d κ (y_s (y_f d κ) s (2 ^ t_K d + i)) + p_pc (y_s (y_f d κ) s (2 ^ t_K d + i))) (26 * l + z) (2 ^ t_K d) = 0 := y_ct_0 _ (fun i hi => by
      have h3 := hpc (2 ^ t_K d + i) (by omega)
      have h4 := y_s_lg (a := s ^^^ t_lb d (1 - κ)) h35 hκ (2 ^ t_K d - 1 - i) (by omega)
      rw [sec i hi] at h3 ⊢
      rw [h4, hch, c]
      omega)
    rw [r2, Nat.add_zero]
    refine y_ct_c _ (fun i hi => ?_)
    have h3 := hpc i (by omega)
    rw [y_s_lg h35 hκ i hi, c]
    omega
  · rw [if_neg c]
    have hcl : 1 - p_lg d κ s = l := by omega
    have r1 : y_ct (fun n => 26 * p_lg d κ (y_s (y_f d κ) s n) + p_pc (y_s (y_f d κ) s n)) (26 * l + z) (2 ^ t_K d) = 0 := y_ct_0 _ (fun i hi => by
      have h3 := hpc i (by omega)
      rw [y_s_lg h35 hκ i hi]
      omega)
    rw [r1, Nat.zero_add]
    have rv := y_ct_rev (g := fun n => p_pc (y_s (y_f d κ) (s ^^^ t_lb d (1 - κ)) n)) (z := z) (N := 2 ^ t_K d) (2 ^ t_K d) (Nat.le_refl _)
    rw [Nat.sub_self] at rv
    rw [rv]
    show _ = 0 + _
    rw [Nat.zero_add]
    refine y_ct_c _ (fun i hi => ?_)
    have h3 := hpc (2 ^ t_K d + i) (by omega)
    have h4 := y_s_lg (a := s ^^^ t_lb d (1 - κ)) h35 hκ (2 ^ t_K d - 1 - i) (by omega)
    rw [sec i hi] at h3 ⊢
    rw [h4, hch, hcl]
    omega
