/-! taking the lowest one out of a set, as the class does -/
theorem q_m0 {a : Nat} : ∀ i, (∀ j, j < i → ¬ a / 2 ^ j % 2 = 1) → a % 2 ^ i = 0
  | 0, _ => by rw [Nat.pow_zero, Nat.mod_one]
  | i + 1, h => by
    have ih := q_m0 i (fun j hj => h j (by omega))
    have h1 := h i (by omega)
    have h2 : a / 2 ^ i % 2 = 0 := by omega
    rw [Nat.mod_pow_succ, ih, h2, Nat.mul_zero]
theorem q_hi {a i j : Nat} (h : q_isLo a i) (z : i < j) : (a - 1).testBit j = a.testBit j := by
  obtain ⟨hb, hlow⟩ := h
  have hm := q_m0 i hlow
  have hp : 0 < 2 ^ i := Nat.pow_pos (by omega)
  have ha : a = 2 ^ i * (a / 2 ^ i) := by
    have := Nat.div_add_mod a (2 ^ i)
    omega
  have hq : 0 < a / 2 ^ i := Nat.pos_of_ne_zero (fun z => by rw [z] at hb; omega)
  have hd : (a - 1) / 2 ^ i = a / 2 ^ i - 1 := by
    obtain ⟨q, e⟩ : ∃ q, a / 2 ^ i = q + 1 := ⟨a / 2 ^ i - 1, by omega⟩
    rw [e] at ha ⊢
    have e2 : a - 1 = 2 ^ i * q + (2 ^ i - 1) := by rw [Nat.mul_add, Nat.mul_one] at ha; omega
    rw [e2, Nat.mul_add_div hp, Nat.div_eq_of_lt (by omega)]
    omega
  obtain ⟨t, rfl⟩ : ∃ t, j = i + 1 + t := ⟨j - i - 1, by omega⟩
  have e : (a - 1) / 2 ^ (i + 1) = a / 2 ^ (i + 1) := by
    rw [← q_dd (a - 1) i 1, ← q_dd a i 1, hd, Nat.pow_one]
    omega
  rw [q_tb, q_tb, ← q_dd (a - 1) (i + 1) t, ← q_dd a (i + 1) t, e]
theorem q_drop {a i : Nat} (h0 : 0 < a) (h : q_isLo a i) : a &&& (a - 1) = a ^^^ 2 ^ i := by
  obtain ⟨hb, hlow⟩ := h
  have hm := q_m0 i hlow
  have hp : 0 < 2 ^ i := Nat.pow_pos (by omega)
  have ha : a = 2 ^ i * (a / 2 ^ i) := by
    have := Nat.div_add_mod a (2 ^ i)
    omega
  have hq : 0 < a / 2 ^ i := Nat.pos_of_ne_zero (fun z => by rw [z] at hb; omega)
  have hd : (a - 1) / 2 ^ i = a / 2 ^ i - 1 := by
    obtain ⟨q, e⟩ : ∃ q, a / 2 ^ i = q + 1 := ⟨a / 2 ^ i - 1, by omega⟩
    rw [e] at ha ⊢
    have e2 : a - 1 = 2 ^ i * q + (2 ^ i - 1) := by rw [Nat.mul_add, Nat.mul_one] at ha; omega
    rw [e2, Nat.mul_add_div hp, Nat.div_eq_of_lt (by omega)]
    omega
  refine Nat.eq_of_testBit_eq (fun j => ?_)
  rw [Nat.testBit_and]
  rcases Nat.lt_trichotomy j i with z | z | z
  · rw [q_xn (by omega), q_tb a j, decide_eq_false (hlow j z)]; rfl
  · subst z
    rw [q_xe hb, q_tb (a - 1) j, hd, decide_eq_false (by omega), Bool.and_false]
  · rw [q_xn (by omega)]
    obtain ⟨t, rfl⟩ : ∃ t, j = i + 1 + t := ⟨j - i - 1, by omega⟩
    have e : (a - 1) / 2 ^ (i + 1) = a / 2 ^ (i + 1) := by
      rw [← q_dd (a - 1) i 1, ← q_dd a i 1, hd, Nat.pow_one]
      omega
    have e2 : (a - 1).testBit (i + 1 + t) = a.testBit (i + 1 + t) := by
      rw [q_tb, q_tb, ← q_dd (a - 1) (i + 1) t, ← q_dd a (i + 1) t, e]
    rw [e2, Bool.and_self]
theorem q_dropI {a : Nat} (h0 : 0 < a) (ha : a < 16384) : nI a &&& (nI a - 1) = nI (a ^^^ 2 ^ q_lo a) := by
  have e : nI a - 1 = nI (a - 1) := by
    obtain ⟨p, rfl⟩ : ∃ p, a = p + 1 := ⟨a - 1, by omega⟩
    rw [nI_pred]; rfl
  rw [e, nx_and, q_drop h0 (q_lo_ok h0 ha).1]
theorem q_ones {a i : Nat} (h0 : 0 < a) (ha : a < 2 ^ 31) (h : q_isLo a i) : (a ^^^ (2 ^ 32 - 1)) &&& (a - 1) = 2 ^ i - 1 := by
  obtain ⟨hb, hlow⟩ := id h
  have hm := q_m0 i hlow
  have hp : 0 < 2 ^ i := Nat.pow_pos (by omega)
  have hd := q_drop h0 h
  have hm1 : (a - 1) % 2 ^ i = 2 ^ i - 1 := by
    have hq : 0 < a / 2 ^ i := Nat.pos_of_ne_zero (fun z => by rw [z] at hb; omega)
    obtain ⟨q, e⟩ : ∃ q, a / 2 ^ i = q + 1 := ⟨a / 2 ^ i - 1, by omega⟩
    have := Nat.div_add_mod a (2 ^ i)
    rw [e, hm, Nat.mul_add, Nat.mul_one] at this
    have e2 : a - 1 = 2 ^ i * q + (2 ^ i - 1) := by omega
    rw [e2, Nat.mul_add_mod, Nat.mod_eq_of_lt (by omega)]
  have hi : i < 31 := q_bN ha hb
  refine Nat.eq_of_testBit_eq (fun j => ?_)
  have hdj : (a.testBit j && (a - 1).testBit j) = (a ^^^ 2 ^ i).testBit j := by rw [← hd, Nat.testBit_and]
  rw [Nat.testBit_and, Nat.testBit_xor, Nat.testBit_two_pow_sub_one, Nat.testBit_two_pow_sub_one]
  rcases Nat.lt_trichotomy j i with z | z | z
  · have e1 : (a - 1).testBit j = true := by
      have := Nat.testBit_mod_two_pow (a - 1) i j
      rw [hm1, Nat.testBit_two_pow_sub_one, decide_eq_true z, Bool.true_and] at this
      exact this.symm
    rw [e1, q_tb a j, decide_eq_false (hlow j z), decide_eq_true z, decide_eq_true (show j < 32 by omega)]
    rfl
  · subst z
    rw [q_tb a j, decide_eq_true hb, decide_eq_true (show j < 32 by omega), decide_eq_false (Nat.lt_irrefl j)]
    rfl
  · rw [q_xn (by omega)] at hdj
    rw [decide_eq_false (show ¬ j < i by omega)]
    by_cases c : j < 32
    · rw [decide_eq_true c]
      cases ha2 : a.testBit j with
      | true => rfl
      | false =>
        have e3 : (a - 1).testBit j = false := (q_hi h z).trans ha2
        rw [e3]; rfl
    · rw [decide_eq_false c, Nat.testBit_lt_two_pow (show a < 2 ^ j from Nat.lt_of_lt_of_le ha (Nat.pow_le_pow_right (by omega) (by omega)))]
      rfl
theorem q_tz {a : Nat} (h0 : 0 < a) (ha : a < 16384) : z_tz (nI a) = nI (q_lo a) := by
  obtain ⟨hl, hi⟩ := q_lo_ok h0 ha
  have e : nI a - 1 = nI (a - 1) := by
    obtain ⟨p, rfl⟩ : ∃ p, a = p + 1 := ⟨a - 1, by omega⟩
    rw [nI_pred]; rfl
  have e2 : (nI a ^^^ (-1)) &&& (nI a - 1) = nI (2 ^ q_lo a - 1) := by
    rw [e, show (-1 : Int32) = nI (2 ^ 32 - 1) by decide, nx_xor, nx_and, q_ones h0 (by omega) hl]
  unfold z_tz
  rw [e2]
  generalize q_lo a = i at *
  rcases (show i = 0 ∨ i = 1 ∨ i = 2 ∨ i = 3 ∨ i = 4 ∨ i = 5 ∨ i = 6 ∨ i = 7 ∨ i = 8 ∨ i = 9 ∨ i = 10 ∨ i = 11 ∨ i = 12 ∨ i = 13 by omega) with rfl | rfl | rfl | rfl | rfl | rfl | rfl | rfl | rfl | rfl | rfl | rfl | rfl | rfl <;> decide +kernel
