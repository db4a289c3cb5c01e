/-! faces: which kind, which qubits; counted in order; the tables' facts -/
def l_kd (D i j : Nat) : Nat := if (i + j) % 2 = 0 then (if 1 ≤ i ∧ i < D then 0 else 2) else (if 1 ≤ j ∧ j < D then 1 else 2)
def l_kI (k : Nat) : Int32 := if k = 2 then -1 else nI k
def l_b1 (D : Nat) (a : Nat) (r c : Nat) : Nat := if 1 ≤ r ∧ r ≤ D ∧ 1 ≤ c ∧ c ≤ D then a ||| 2 ^ (D * (r - 1) + (c - 1)) else a
/-- the qubits on a face; rows and columns are counted from 1 here -/
def l_bt (D i j : Nat) : Nat := l_b1 D (l_b1 D (l_b1 D (l_b1 D 0 i j) i (j + 1)) (i + 1) j) (i + 1) (j + 1)
def l_cj (D κ i : Nat) : Nat → Nat
  | 0 => 0
  | j + 1 => l_cj D κ i j + (if l_kd D i j = κ then 1 else 0)
def l_ci (D κ : Nat) : Nat → Nat
  | 0 => 0
  | i + 1 => l_ci D κ i + l_cj D κ i (D + 1)
def l_n (D κ i j : Nat) : Nat := l_ci D κ i + l_cj D κ i j
def l_ok1 (D i j κ : Nat) : Bool := if l_kd D i j = κ then (decide (l_n D κ i j < t_K D) && decide (t_fi D κ (l_n D κ i j) = i) && decide (t_fj D κ (l_n D κ i j) = j) && decide (t_fb D κ (l_n D κ i j) = l_bt D i j)) else true
theorem l_ok3 : ∀ i, i < 4 → ∀ j, j < 4 → ∀ κ, κ < 2 → l_ok1 3 i j κ = true := by decide
theorem l_ok5 : ∀ i, i < 6 → ∀ j, j < 6 → ∀ κ, κ < 2 → l_ok1 5 i j κ = true := by decide
theorem l_ok {D i j κ : Nat} (h : D = 3 ∨ D = 5) (hi : i ≤ D) (hj : j ≤ D) (hκ : κ < 2) (hk : l_kd D i j = κ) : l_n D κ i j < t_K D ∧ t_fi D κ (l_n D κ i j) = i ∧ t_fj D κ (l_n D κ i j) = j ∧ t_fb D κ (l_n D κ i j) = l_bt D i j := by
  have : l_ok1 D i j κ = true := by
    rcases h with rfl | rfl
    · exact l_ok3 i (by omega) j (by omega) κ hκ
    · exact l_ok5 i (by omega) j (by omega) κ hκ
  unfold l_ok1 at this
  rw [if_pos hk, Bool.and_eq_true, Bool.and_eq_true, Bool.and_eq_true] at this
  exact ⟨of_decide_eq_true this.1.1.1, of_decide_eq_true this.1.1.2, of_decide_eq_true this.1.2, of_decide_eq_true this.2⟩
theorem l_all {D κ : Nat} (h : D = 3 ∨ D = 5) (hκ : κ < 2) : l_n D κ (D + 1) 0 = t_K D := by
  rcases (show κ = 0 ∨ κ = 1 by omega) with rfl | rfl <;> rcases h with rfl | rfl <;> decide
theorem l_nx {D κ i : Nat} : l_n D κ i (D + 1) = l_n D κ (i + 1) 0 := rfl
/-- the checks on a qubit, as bits -/
def l_o (D κ q : Nat) : Nat → Nat
  | 0 => 0
  | k + 1 => l_o D κ q k + (t_fb D κ k / 2 ^ q % 2) * 2 ^ k
theorem l_o3 : ∀ κ, κ < 2 → ∀ q, q < 9 → l_o 3 κ q 4 = t_co 3 κ q := by decide
theorem l_o5 : ∀ κ, κ < 2 → ∀ q, q < 25 → l_o 5 κ q 12 = t_co 5 κ q := by decide
theorem l_o_co {D κ q : Nat} (h : D = 3 ∨ D = 5) (hκ : κ < 2) (hq : q < D * D) : l_o D κ q (t_K D) = t_co D κ q := by
  rcases h with rfl | rfl
  · exact l_o3 κ hκ q hq
  · exact l_o5 κ hκ q hq
theorem l_o_lt {D κ q : Nat} : ∀ k, l_o D κ q k < 2 ^ k
  | 0 => Nat.one_pos
  | k + 1 => by
    have ih := l_o_lt (D := D) (κ := κ) (q := q) k
    have h2 : t_fb D κ k / 2 ^ q % 2 ≤ 1 := by omega
    have h3 := Nat.mul_le_mul_right (2 ^ k) h2
    rw [l_o, Nat.pow_succ]; omega
