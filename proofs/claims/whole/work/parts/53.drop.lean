/-! taking the lowest one out of a set, as the class does -/
theorem q_m0 {a : Nat} : ∀ i, (∀ j, j < i → ¬ a / 2 ^ j % 2 = 1) → a % 2 ^ i = 0
  | 0, _ => by rw [Nat.pow_zero, Nat.mod_one]
  | i + 1, h => by
    have ih := q_m0 i (fun j hj => h j (by omega))
    have h1 := h i (by omega)
    have h2 : a / 2 ^ i % 2 = 0 := by omega
    rw [Nat.mod_pow_succ, ih, h2, Nat.mul_zero]
theorem q_drop {a i : Nat} (h0 : 0 < a) (h : q_isLo a i) : a &&& (a - 1) = a ^^^ 2 ^ i := by
  obtain ⟨hb, hlow⟩ := h
  have hm := q_m0 i hlow
  have hp : 0 < 2 ^ i := Nat.pow_pos (by omega)
  have ha : a = 2 ^ i * (a / 2 ^ i) := by
    have := Nat.div_add_mod a (2 ^ i)
    omega
  have hq : 0 < a / 2 ^ i := Nat.pos_of_ne_zero (fun z => by rw [z] at hb; omega)
  have hd : (a - 1) / 2 ^ i = a / 2 ^ i - 1 := by
    obtain ⟨q, e⟩ : ∃ q, a / 2 ^ i = q + 1 := ⟨a / 2 ^ i - 1, by omega⟩
    rw [e] at ha ⊢
    have e2 : a - 1 = 2 ^ i * q + (2 ^ i - 1) := by rw [Nat.mul_add, Nat.mul_one] at ha; omega
    rw [e2, Nat.mul_add_div hp, Nat.div_eq_of_lt (by omega)]
    omega
  refine Nat.eq_of_testBit_eq (fun j => ?_)
  rw [Nat.testBit_and]
  rcases Nat.lt_trichotomy j i with z | z | z
  · rw [q_xn (by omega), q_tb a j, decide_eq_false (hlow j z)]; rfl
  · subst z
    rw [q_xe hb, q_tb (a - 1) j, hd, decide_eq_false (by omega), Bool.and_false]
  · rw [q_xn (by omega)]
    obtain ⟨t, rfl⟩ : ∃ t, j = i + 1 + t := ⟨j - i - 1, by omega⟩
    have e : (a - 1) / 2 ^ (i + 1) = a / 2 ^ (i + 1) := by
      rw [← q_dd (a - 1) i 1, ← q_dd a i 1, hd, Nat.pow_one]
      omega
    have e2 : (a - 1).testBit (i + 1 + t) = a.testBit (i + 1 + t) := by
      rw [q_tb, q_tb, ← q_dd (a - 1) (i + 1) t, ← q_dd a (i + 1) t, e]
    rw [e2, Bool.and_self]
theorem q_dropI {a : Nat} (h0 : 0 < a) (ha : a < 16384) : nI a &&& (nI a - 1) = nI (a ^^^ 2 ^ q_lo a) := by
  have e : nI a - 1 = nI (a - 1) := by
    obtain ⟨p, rfl⟩ : ∃ p, a = p + 1 := ⟨a - 1, by omega⟩
    rw [nI_pred]; rfl
  rw [e, nx_and, q_drop h0 (q_lo_ok h0 ha).1]
