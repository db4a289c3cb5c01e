/-! SETS of events as bits: the lowest one, taking one out; the reference's lowest -/
theorem q_tb (a j : Nat) : a.testBit j = decide (a / 2 ^ j % 2 = 1) := Nat.testBit_eq_decide_div_mod_eq
theorem q_xn {a k j : Nat} (h : j ≠ k) : (a ^^^ 2 ^ k).testBit j = a.testBit j := by
  rw [Nat.testBit_xor, Nat.testBit_two_pow_of_ne (fun e => h e.symm), Bool.xor_false]
theorem q_xe {a k : Nat} (h : a / 2 ^ k % 2 = 1) : (a ^^^ 2 ^ k).testBit k = false := by
  rw [Nat.testBit_xor, Nat.testBit_two_pow_self, q_tb, decide_eq_true h]
  rfl
theorem q_xb {a k j : Nat} (h : j ≠ k) : ((a ^^^ 2 ^ k) / 2 ^ j % 2 = 1) ↔ (a / 2 ^ j % 2 = 1) := by
  have e := q_xn (a := a) h
  rw [q_tb, q_tb] at e
  exact decide_eq_decide.mp e
theorem q_xk {a k : Nat} (h : a / 2 ^ k % 2 = 1) : ¬ (a ^^^ 2 ^ k) / 2 ^ k % 2 = 1 := by
  have e := q_xe h
  rw [q_tb] at e
  exact of_decide_eq_false e
theorem q_dd (a k j : Nat) : a / 2 ^ k / 2 ^ j = a / 2 ^ (k + j) := by rw [Nat.div_div_eq_div_mul, ← Nat.pow_add]
theorem q_lt {a k : Nat} (h : a / 2 ^ k % 2 = 1) : a ^^^ 2 ^ k < a := by
  have h2 := q_xk h
  have h1 : (a ^^^ 2 ^ k) / 2 ^ (k + 1) = a / 2 ^ (k + 1) := by
    refine Nat.eq_of_testBit_eq (fun j => ?_)
    rw [q_tb, q_tb, q_dd, q_dd, ← q_tb, ← q_tb]
    exact q_xn (by omega)
  have d1 := q_dd (a ^^^ 2 ^ k) k 1
  have d2 := q_dd a k 1
  rw [h1, ← d2, Nat.pow_one] at d1
  rcases Nat.lt_or_ge (a ^^^ 2 ^ k) a with z | z
  · exact z
  · have := Nat.div_le_div_right (c := 2 ^ k) z
    omega
theorem q_clr {a k : Nat} (ha : a < 2 ^ 31) (hk : k < 31) (h : a / 2 ^ k % 2 = 1) : nI a &&& (((1 : Int32) <<< (nI k &&& 31)) ^^^ (-1)) = nI (a ^^^ 2 ^ k) := by
  rw [zb_1 (by omega), show (-1 : Int32) = nI (2 ^ 32 - 1) by decide, nx_xor, nx_and]
  congr 1
  refine Nat.eq_of_testBit_eq (fun j => ?_)
  rw [Nat.testBit_and, Nat.testBit_xor, Nat.testBit_two_pow_sub_one]
  by_cases e : j = k
  · subst e
    rw [q_xe h, Nat.testBit_two_pow_self, decide_eq_true (show j < 32 by omega)]
    simp
  · rw [q_xn e, Nat.testBit_two_pow_of_ne (fun z => e z.symm), Bool.false_xor]
    by_cases z : j < 32
    · rw [decide_eq_true z, Bool.and_true]
    · rw [Nat.testBit_lt_two_pow (show a < 2 ^ j from Nat.lt_of_lt_of_le ha (Nat.pow_le_pow_right (by omega) (by omega))), Bool.false_and]
theorem q_clr0 {a : Nat} (ha : a < 2 ^ 31) : nI a &&& ((0 : Int32) ^^^ (-1)) = nI a := by
  rw [show ((0 : Int32) ^^^ (-1)) = nI (2 ^ 32 - 1) by decide, nx_and, Nat.and_two_pow_sub_one_eq_mod, Nat.mod_eq_of_lt (by omega)]
def q_isLo (a i : Nat) : Prop := a / 2 ^ i % 2 = 1 ∧ ∀ j, j < i → ¬ a / 2 ^ j % 2 = 1
def q_lw (a : Nat) : Nat → Nat → Nat
  | 0, i => i
  | f + 1, i => if a / 2 ^ i % 2 = 1 then i else q_lw a f (i + 1)
def q_lo (a : Nat) : Nat := q_lw a 14 0
theorem q_lw_ok {a : Nat} : ∀ f i, (∀ j, j < i → ¬ a / 2 ^ j % 2 = 1) → (∃ j, j < i + f ∧ a / 2 ^ j % 2 = 1) → q_isLo a (q_lw a f i) ∧ q_lw a f i < i + f
  | 0, i, h, ⟨j, h1, h2⟩ => absurd h2 (h j (by omega))
  | f + 1, i, h, ⟨j, h1, h2⟩ => by
    rw [q_lw]
    by_cases e : a / 2 ^ i % 2 = 1
    · rw [if_pos e]; exact ⟨⟨e, h⟩, by omega⟩
    · rw [if_neg e]
      have := q_lw_ok f (i + 1) (fun j' hj => by
        by_cases z : j' = i
        · rw [z]; exact e
        · exact h j' (by omega)) ⟨j, by omega, h2⟩
      exact ⟨this.1, by omega⟩
theorem q_some' : ∀ n a, 0 < a → a < 2 ^ n → ∃ j, j < n ∧ a / 2 ^ j % 2 = 1
  | 0, a, h0, h => by rw [Nat.pow_zero] at h; omega
  | n + 1, a, h0, h => by
    by_cases e : a % 2 = 1
    · exact ⟨0, by omega, by rw [Nat.pow_zero, Nat.div_one]; exact e⟩
    · rw [Nat.pow_succ] at h
      obtain ⟨j, h1, h2⟩ := q_some' n (a / 2) (by omega) (by omega)
      refine ⟨1 + j, by omega, ?_⟩
      rw [← q_dd, Nat.pow_one]; exact h2
theorem q_some {a : Nat} (h0 : 0 < a) (h : a < 16384) : ∃ j, j < 14 ∧ a / 2 ^ j % 2 = 1 := q_some' 14 a h0 h
theorem q_lo_ok {a : Nat} (h0 : 0 < a) (h : a < 16384) : q_isLo a (q_lo a) ∧ q_lo a < 14 := by
  obtain ⟨j, h1, h2⟩ := q_some h0 h
  have := q_lw_ok (a := a) 14 0 (fun j hj => by omega) ⟨j, by omega, h2⟩
  exact ⟨this.1, by have := this.2; unfold q_lo; omega⟩
/-- how many of the first n are in a set -/
def q_cn (a : Nat) : Nat → Nat
  | 0 => 0
  | j + 1 => q_cn a j + (if a / 2 ^ j % 2 = 1 then 1 else 0)
theorem q_cn_x {a k : Nat} (h : a / 2 ^ k % 2 = 1) : ∀ n, (n ≤ k → q_cn (a ^^^ 2 ^ k) n = q_cn a n) ∧ (k < n → q_cn (a ^^^ 2 ^ k) n + 1 = q_cn a n)
  | 0 => ⟨fun _ => rfl, fun h => by omega⟩
  | n + 1 => by
    have ih := q_cn_x h n
    rw [q_cn, q_cn]
    by_cases e : n = k
    · subst e
      rw [if_neg (q_xk h), if_pos h, ih.1 (Nat.le_refl _)]
      exact ⟨fun z => by omega, fun _ => rfl⟩
    · have : (if (a ^^^ 2 ^ k) / 2 ^ n % 2 = 1 then 1 else 0) = (if a / 2 ^ n % 2 = 1 then 1 else 0) := by
        by_cases z : a / 2 ^ n % 2 = 1
        · rw [if_pos z, if_pos ((q_xb e).mpr z)]
        · rw [if_neg z, if_neg (fun w => z ((q_xb e).mp w))]
      rw [this]
      refine ⟨fun z => by rw [ih.1 (by omega)], fun z => ?_⟩
      have := ih.2 (by omega)
      omega
section SE
variable {G : z_G} {d : Nat} {S : z_Shp} {v v0 : z_Dat} {Q : Option Value → z_Shp → z_Dat → Prop}
theorem sp_X11_lowest {a : Nat} (hd : 1 ≤ d) (h0 : 0 < a) (ha : a < 16384) (h : Q (some (.int (nI (q_lo a)))) S v) : z_J G d mX11_lowest (0, [.int (nI a), .null], [], S, v) Q := by
  obtain ⟨d, rfl⟩ : ∃ e, d = e + 1 := ⟨d - 1, by omega⟩
  obtain ⟨⟨l1, l2⟩, l3⟩ := q_lo_ok h0 ha
  have key : ∀ j i, i + j = q_lo a → z_J G (d + 1) mX11_lowest (2, [.int (nI a), .int (nI i)], [], S, v) Q := by
    intro j
    induction j with
    | zero =>
      intro i hi
      have hi : i = q_lo a := by omega
      subst hi
      refine sg_X11_lowest_2 ⟨fun _ => h, fun c => absurd ?_ c⟩
      rw [zb_bit (by omega) (by omega), l1]; rfl
    | succ j ih =>
      intro i hi
      refine sg_X11_lowest_2 ⟨fun c => ?_, fun _ => ?_⟩
      · rw [zb_bit (by omega) (by omega)] at c
        have c := (nI_eq (b := 1) (by omega) (by omega)).mp c
        exact absurd c (l2 i (by omega))
      · rw [nI_1]; exact ih (i + 1) (by omega)
  exact sg_X11_lowest_0 (key _ 0 (Nat.zero_add _))
end SE
