/-! HELPERS: small methods whose contract is used in place -/
/-- the sum of the k lowest binary digits -/
def z_pcR : Nat → Nat → Nat
  | 0, _ => 0
  | k + 1, n => n % 2 + z_pcR k (n / 2)
/-- how many bits are set -/
def z_pc (x : Int32) : Int32 := nI (z_pcR 32 x.toBitVec.toNat)
def z_tzA (i n : Int32) : Int32 := n + z_us i 1
def z_tzB (i n : Int32) : Int32 := if i ≤ 4 then z_tzA i n else z_tzA (z_us i 2) (n + 2)
def z_tzC (i n : Int32) : Int32 := if i ≤ 16 then z_tzB i n else z_tzB (z_us i 4) (n + 4)
def z_tzD (i n : Int32) : Int32 := if i ≤ 256 then z_tzC i n else z_tzC (z_us i 8) (n + 8)
def z_tzE (i n : Int32) : Int32 := if i ≤ 65536 then z_tzD i n else z_tzD (z_us i 16) (n + 16)
/-- numberOfTrailingZeros, as the library reckons it -/
def z_tz (x : Int32) : Int32 := if 0 < (x ^^^ (-1)) &&& (x - 1) then z_tzE ((x ^^^ (-1)) &&& (x - 1)) 1 else ((x ^^^ (-1)) &&& (x - 1)) &&& 32
/-- the draw of 64 behind a seed -/
def z_dr (x : Int32) : Int32 := z_us x 8 - z_us x 8 / 64 * 64
section HP
variable {G : z_G} {d : Nat} {S : z_Shp} {v : z_Dat} {Q : Option Value → z_Shp → z_Dat → Prop}
theorem hp_X11_isKind {x0 : Int32} (h1 : (x0 = 0 ∨ x0 = 1) → Q (some (.int 1)) S v) (h0 : ¬ (x0 = 0 ∨ x0 = 1) → Q (some (.int 0)) S v) : z_J G d mX11_isKind (0, [.int x0], [], S, v) Q :=
  sg_X11_isKind_0 ⟨fun c => h1 (Or.inl c), fun c => ⟨fun c1 => h0 (fun q => q.elim c c1), fun c1 => h1 (Or.inr c1)⟩⟩
theorem hp_X10_isKind {x0 : Int32} (h1 : (x0 = 0 ∨ x0 = 1) → Q (some (.int 1)) S v) (h0 : ¬ (x0 = 0 ∨ x0 = 1) → Q (some (.int 0)) S v) : z_J G d mX10_isKind (0, [.int x0], [], S, v) Q :=
  sg_X10_isKind_0 ⟨fun c => h1 (Or.inl c), fun c => ⟨fun c1 => h0 (fun q => q.elim c c1), fun c1 => h1 (Or.inr c1)⟩⟩
theorem hp_X10_isLogical {x0 : Int32} (h1 : (x0 = 0 ∨ x0 = 1) → Q (some (.int 1)) S v) (h0 : ¬ (x0 = 0 ∨ x0 = 1) → Q (some (.int 0)) S v) : z_J G d mX10_isLogical (0, [.int x0], [], S, v) Q :=
  sg_X10_isLogical_0 ⟨fun c => h1 (Or.inl c), fun c => ⟨fun c1 => h0 (fun q => q.elim c c1), fun c1 => h1 (Or.inr c1)⟩⟩
theorem hp_X10_isFactor {x0 : Int32} (h1 : (0 ≤ x0 ∧ x0 ≤ 99) → Q (some (.int 1)) S v) (h0 : ¬ (0 ≤ x0 ∧ x0 ≤ 99) → Q (some (.int 0)) S v) : z_J G d mX10_isFactor (0, [.int x0], [], S, v) Q :=
  sg_X10_isFactor_0 ⟨fun c => h0 (fun q => absurd c (Int32.not_lt.mpr q.1)), fun c => ⟨fun c1 => h0 (fun q => absurd c1 (Int32.not_lt.mpr q.2)), fun c1 => h1 ⟨Int32.not_lt.mp c, Int32.not_lt.mp c1⟩⟩⟩
theorem hp_X11_isIn {x0 x1 x2 : Int32} (h1 : (x1 ≤ x0 ∧ x0 ≤ x2) → Q (some (.int 1)) S v) (h0 : ¬ (x1 ≤ x0 ∧ x0 ≤ x2) → Q (some (.int 0)) S v) : z_J G d mX11_isIn (0, [.int x0, .int x1, .int x2], [], S, v) Q :=
  sg_X11_isIn_0 ⟨fun c => h0 (fun q => absurd c (Int32.not_lt.mpr q.1)), fun c => ⟨fun c1 => h0 (fun q => absurd c1 (Int32.not_lt.mpr q.2)), fun c1 => h1 ⟨Int32.not_lt.mp c, Int32.not_lt.mp c1⟩⟩⟩
theorem hp_X11_bitOf {x0 x1 : Int32} (h1 : ((x0 >>> (x1 &&& 31)) &&& 1) = 1 → Q (some (.int 1)) S v) (h0 : ¬ ((x0 >>> (x1 &&& 31)) &&& 1) = 1 → Q (some (.int 0)) S v) : z_J G d mX11_bitOf (0, [.int x0, .int x1], [], S, v) Q :=
  sg_X11_bitOf_0 ⟨h0, h1⟩
theorem hp_X4_hasEvent {x1 : Int32} (hL : z_L S) (h1 : (0 ≤ x1 ∧ x1 < v 149 3) → Q (some (.int 1)) S v) (h0 : ¬ (0 ≤ x1 ∧ x1 < v 149 3) → Q (some (.int 0)) S v) : z_J G d mX4_hasEvent (0, [.ref 149, .int x1], [], S, v) Q :=
  sg_X4_hasEvent_0 hL ⟨fun c => h0 (fun q => absurd c (Int32.not_lt.mpr q.1)), fun c => ⟨fun c1 => h0 (fun q => absurd q.2 (Int32.not_lt.mpr c1)), fun c1 => h1 ⟨Int32.not_lt.mp c, Int32.not_le.mp c1⟩⟩⟩
theorem hp_X11_d (hL : z_L S) (h : Q (some (.int (v 224 0))) S v) : z_J G d mX11_d (0, [.ref 223], [], S, v) Q := sg_X11_d_0 hL h
theorem hp_X11_qubits (hL : z_L S) (h : Q (some (.int (v 224 0 * v 224 0))) S v) : z_J G d mX11_qubits (0, [.ref 223], [], S, v) Q := sg_X11_qubits_0 hL h
theorem hp_X0_drawBehind {x0 : Int32} (h : Q (some (.int (x0 * 1103515245 + 12345))) S v) : z_J G d mX0_drawBehind (0, [.int x0], [], S, v) Q := sg_X0_drawBehind_0 h
theorem hp_X0_drawOf {x0 : Int32} (h : Q (some (.int (z_dr x0))) S v) : z_J G d mX0_drawOf (0, [.int x0], [], S, v) Q := sg_X0_drawOf_0 h
theorem hp_X4_nearAt {x1 x2 : Int32} (hL : z_L S) (h1 : vp_in (x1 * 6 + x2) 648) (h : Q (some (.int (v 154 (x1 * 6 + x2).toNatClampNeg))) S v) : z_J G d mX4_nearAt (0, [.ref 149, .int x1, .int x2], [], S, v) Q := sg_X4_nearAt_0 hL ⟨h1, h⟩
theorem hp_X4_otherEnd {x1 x2 : Int32} (hL : z_L S) (h1 : vp_in x1 321) (h : Q (some (.int (if v 150 x1.toNatClampNeg = x2 then v 151 x1.toNatClampNeg else v 150 x1.toNatClampNeg))) S v) : z_J G d mX4_otherEnd (0, [.ref 149, .int x1, .int x2], [], S, v) Q :=
  sg_X4_otherEnd_0 hL ⟨h1, fun c => ⟨h1, by rw [if_neg c] at h; exact h⟩, fun c => ⟨h1, by rw [if_pos c] at h; exact h⟩⟩
theorem hp_J6_numberOfTrailingZeros_0f7a4 {x0 : Int32} (h : Q (some (.int (z_tz x0))) S v) : z_J G d mJ6_numberOfTrailingZeros_0f7a4 (0, [.int x0, .null], [], S, v) Q := by
  have hA : ∀ i n : Int32, Q (some (.int (z_tzA i n))) S v → z_J G d mJ6_numberOfTrailingZeros_0f7a4 (74, [.int i, .int n], [], S, v) Q := fun i n q => sg_J6_numberOfTrailingZeros_0f7a4_74 q
  have hB : ∀ i n : Int32, Q (some (.int (z_tzB i n))) S v → z_J G d mJ6_numberOfTrailingZeros_0f7a4 (62, [.int i, .int n], [], S, v) Q := fun i n q =>
    sg_J6_numberOfTrailingZeros_0f7a4_62 ⟨fun c => hA _ _ (by rw [z_tzB, if_pos c] at q; exact q), fun c => hA _ _ (by rw [z_tzB, if_neg c] at q; exact q)⟩
  have hC : ∀ i n : Int32, Q (some (.int (z_tzC i n))) S v → z_J G d mJ6_numberOfTrailingZeros_0f7a4 (49, [.int i, .int n], [], S, v) Q := fun i n q =>
    sg_J6_numberOfTrailingZeros_0f7a4_49 ⟨fun c => hB _ _ (by rw [z_tzC, if_pos c] at q; exact q), fun c => hB _ _ (by rw [z_tzC, if_neg c] at q; exact q)⟩
  have hD : ∀ i n : Int32, Q (some (.int (z_tzD i n))) S v → z_J G d mJ6_numberOfTrailingZeros_0f7a4 (34, [.int i, .int n], [], S, v) Q := fun i n q =>
    sg_J6_numberOfTrailingZeros_0f7a4_34 ⟨fun c => hC _ _ (by rw [z_tzD, if_pos c] at q; exact q), fun c => hC _ _ (by rw [z_tzD, if_neg c] at q; exact q)⟩
  unfold z_tz at h
  refine sg_J6_numberOfTrailingZeros_0f7a4_0 ⟨fun c => ?_, fun c => ?_⟩
  · rw [if_pos c, z_tzE] at h
    exact ⟨fun c1 => hD _ _ (by rw [if_pos c1] at h; exact h), fun c1 => hD _ _ (by rw [if_neg c1] at h; exact h)⟩
  · rw [if_neg c] at h
    exact h
/-- the lowest set bit of a small number -/
def z_low (n : Nat) : Nat := ((List.range 14).find? (fun i => n / 2 ^ i % 2 == 1)).getD 14
theorem z_pcR_s : ∀ (k n : Nat), z_pcR (k + 1) n = z_pcR k n + n / 2 ^ k % 2
  | 0, n => by simp [z_pcR]
  | k + 1, n => by
    rw [z_pcR, z_pcR_s k (n / 2), z_pcR, Nat.pow_succ, Nat.mul_comm (2 ^ k) 2, ← Nat.div_div_eq_div_mul]
    omega
theorem hp_X11_bits {x0 : Int32} (h : Q (some (.int (z_pc x0))) S v) : z_J G d mX11_bits (0, [.int x0, .null, .null], [], S, v) Q := by
  have key : ∀ j k : Nat, j + k = 32 → z_J G d mX11_bits (4, [.int x0, .int (nI (z_pcR k x0.toBitVec.toNat)), .int (nI k)], [], S, v) Q := by
    intro j
    induction j with
    | zero =>
      intro k hk
      have hk : k = 32 := by omega
      subst hk
      exact sg_X11_bits_4 ⟨fun _ => h, fun c => absurd (by decide) c⟩
    | succ j ih =>
      intro k hk
      refine sg_X11_bits_4 ⟨fun c => absurd c (nI_ge (a := k) (b := 32) (by omega) (by omega)), fun _ => ?_⟩
      rw [zb_bitx x0 (by omega), nI_add, nI_1, ← z_pcR_s]
      exact ih (k + 1) (by omega)
  exact sg_X11_bits_0 (key 32 0 rfl)
theorem bc_and (A B : Nat) : A &&& B = (A % 256 &&& B % 256) + 256 * (A / 256 &&& B / 256) := by
  have tb : ∀ a j : Nat, a.testBit j = decide (a / 2 ^ j % 2 = 1) := fun a j => Nat.testBit_eq_decide_div_mod_eq
  have dd : ∀ a j : Nat, a / 256 / 2 ^ j = a / 2 ^ (8 + j) := fun a j => by rw [show (256 : Nat) = 2 ^ 8 from rfl, Nat.div_div_eq_div_mul, ← Nat.pow_add]
  have h1 : (A &&& B) / 256 = A / 256 &&& B / 256 := Nat.eq_of_testBit_eq fun j => by
    rw [Nat.testBit_and, tb, tb, tb, dd, dd, dd, ← tb, ← tb, ← tb, Nat.testBit_and]
  have h2 : (A &&& B) % 256 = A % 256 &&& B % 256 := Nat.eq_of_testBit_eq fun j => by
    rw [show (256 : Nat) = 2 ^ 8 from rfl, Nat.testBit_and, Nat.testBit_mod_two_pow, Nat.testBit_mod_two_pow, Nat.testBit_mod_two_pow, Nat.testBit_and]
    cases decide (j < 8) <;> cases A.testBit j <;> rfl
  have := Nat.mod_add_div (A &&& B) 256
  rw [h1, h2] at this
  exact this.symm
def bc_1 (b : Nat) : Nat := b - (b / 2 &&& 85)
def bc_2 (b : Nat) : Nat := (b &&& 51) + (b / 4 &&& 51)
def bc_3 (b : Nat) : Nat := (b + b / 16) &&& 15
def bc_M (m : Nat) : Nat → Nat
  | 0 => 0
  | j + 1 => m + 256 * bc_M m j
def bc_T (t : Nat → Nat) : Nat → Nat → Nat
  | 0, _ => 0
  | j + 1, n => t (n % 256) + 256 * bc_T t j (n / 256)
theorem bc_t1 : ∀ b, b < 256 → (b / 2 &&& 85) ≤ b ∧ bc_1 b < 256 := by decide +kernel
theorem bc_a1 : ∀ b, b < 256 → ∀ c, c < 2 → (b / 2 + 128 * c &&& 85) = (b / 2 &&& 85) := by decide +kernel
theorem bc_a2 : ∀ b, b < 256 → ∀ c, c < 4 → (b / 4 + 64 * c &&& 51) = (b / 4 &&& 51) := by decide +kernel
theorem bc_a3 : ∀ b, b < 256 → (bc_2 (bc_1 b) % 16 ≤ 4 ∧ bc_2 (bc_1 b) / 16 ≤ 4 ∧ bc_3 (bc_2 (bc_1 b)) = z_pcR 8 b ∧ z_pcR 8 b ≤ 8) := by decide +kernel
theorem bc_a4 : ∀ b, b < 256 → ∀ c, c ≤ 4 → (bc_2 (bc_1 b) + bc_2 (bc_1 b) / 16 + 16 * c &&& 15) = bc_3 (bc_2 (bc_1 b)) := by decide +kernel
theorem bc_s1 : ∀ j n, n < 256 ^ j → (n / 2 &&& bc_M 85 j) ≤ n ∧ n - (n / 2 &&& bc_M 85 j) = bc_T bc_1 j n
  | 0, n, h => by
    rw [Nat.pow_zero] at h
    have : n = 0 := by omega
    subst this
    exact ⟨Nat.le_refl _, rfl⟩
  | j + 1, n, h => by
    have hb : n % 256 < 256 := Nat.mod_lt _ (by omega)
    have hr : n / 256 < 256 ^ j := by
      rw [Nat.pow_succ] at h
      exact Nat.div_lt_of_lt_mul (by rw [Nat.mul_comm]; exact h)
    obtain ⟨i1, i2⟩ := bc_s1 j (n / 256) hr
    have e1 : n / 2 % 256 = n % 256 / 2 + 128 * (n / 256 % 2) := by omega
    have e2 : n / 2 / 256 = n / 256 / 2 := by omega
    have e3 : bc_M 85 (j + 1) % 256 = 85 := by show (85 + 256 * bc_M 85 j) % 256 = 85; omega
    have e4 : bc_M 85 (j + 1) / 256 = bc_M 85 j := by show (85 + 256 * bc_M 85 j) / 256 = _; omega
    have ea := bc_and (n / 2) (bc_M 85 (j + 1))
    rw [e1, e2, e3, e4, bc_a1 _ hb _ (Nat.mod_lt _ (by omega))] at ea
    obtain ⟨t1, t2⟩ := bc_t1 _ hb
    rw [ea]
    show _ ∧ _ = bc_1 (n % 256) + 256 * bc_T bc_1 j (n / 256)
    rw [← i2]
    unfold bc_1
    have hn := Nat.mod_add_div n 256
    omega
theorem bc_s2 : ∀ j n, (bc_T bc_1 j n &&& bc_M 51 j) + (bc_T bc_1 j n / 4 &&& bc_M 51 j) = bc_T (fun b => bc_2 (bc_1 b)) j n
  | 0, n => by show (0 &&& 0) + (0 / 4 &&& 0) = 0; decide
  | j + 1, n => by
    have hb : n % 256 < 256 := Nat.mod_lt _ (by omega)
    obtain ⟨t1, t2⟩ := bc_t1 _ hb
    have ih := bc_s2 j (n / 256)
    have e0 : bc_T bc_1 (j + 1) n = bc_1 (n % 256) + 256 * bc_T bc_1 j (n / 256) := rfl
    generalize bc_T bc_1 j (n / 256) = R at *
    have e3 : bc_M 51 (j + 1) % 256 = 51 := by show (51 + 256 * bc_M 51 j) % 256 = 51; omega
    have e4 : bc_M 51 (j + 1) / 256 = bc_M 51 j := by show (51 + 256 * bc_M 51 j) / 256 = _; omega
    have ea := bc_and (bc_T bc_1 (j + 1) n) (bc_M 51 (j + 1))
    have eb := bc_and (bc_T bc_1 (j + 1) n / 4) (bc_M 51 (j + 1))
    have f1 : bc_T bc_1 (j + 1) n % 256 = bc_1 (n % 256) := by omega
    have f2 : bc_T bc_1 (j + 1) n / 256 = R := by omega
    have f3 : bc_T bc_1 (j + 1) n / 4 % 256 = bc_1 (n % 256) / 4 + 64 * (R % 4) := by omega
    have f4 : bc_T bc_1 (j + 1) n / 4 / 256 = R / 4 := by omega
    rw [f1, f2, e3, e4] at ea
    rw [f3, f4, e3, e4, bc_a2 _ t2 _ (Nat.mod_lt _ (by omega))] at eb
    rw [ea, eb]
    show _ = bc_2 (bc_1 (n % 256)) + 256 * bc_T (fun b => bc_2 (bc_1 b)) j (n / 256)
    rw [← ih]
    unfold bc_2
    omega
theorem bc_l2 : ∀ j n, bc_T (fun b => bc_2 (bc_1 b)) j n % 16 ≤ 4
  | 0, n => Nat.zero_le _
  | j + 1, n => by
    have hb : n % 256 < 256 := Nat.mod_lt _ (by omega)
    have := (bc_a3 _ hb).1
    have e0 : bc_T (fun b => bc_2 (bc_1 b)) (j + 1) n = bc_2 (bc_1 (n % 256)) + 256 * bc_T (fun b => bc_2 (bc_1 b)) j (n / 256) := rfl
    omega
theorem bc_s3 : ∀ j n, (bc_T (fun b => bc_2 (bc_1 b)) j n + bc_T (fun b => bc_2 (bc_1 b)) j n / 16) &&& bc_M 15 j = bc_T (fun b => z_pcR 8 b) j n
  | 0, n => by show (0 + 0 / 16) &&& 0 = 0; decide
  | j + 1, n => by
    have hb : n % 256 < 256 := Nat.mod_lt _ (by omega)
    obtain ⟨a1, a2, a3, a4⟩ := bc_a3 _ hb
    have ih := bc_s3 j (n / 256)
    have hl := bc_l2 j (n / 256)
    have e0 : bc_T (fun b => bc_2 (bc_1 b)) (j + 1) n = bc_2 (bc_1 (n % 256)) + 256 * bc_T (fun b => bc_2 (bc_1 b)) j (n / 256) := rfl
    have b4 := bc_a4 _ hb _ hl
    show _ = z_pcR 8 (n % 256) + 256 * bc_T (fun b => z_pcR 8 b) j (n / 256)
    rw [← ih, ← a3]
    generalize bc_T (fun b => bc_2 (bc_1 b)) j (n / 256) = R at *
    generalize bc_T (fun b => bc_2 (bc_1 b)) (j + 1) n = X at *
    have e3 : bc_M 15 (j + 1) % 256 = 15 := by show (15 + 256 * bc_M 15 j) % 256 = 15; omega
    have e4 : bc_M 15 (j + 1) / 256 = bc_M 15 j := by show (15 + 256 * bc_M 15 j) / 256 = _; omega
    have ea := bc_and (X + X / 16) (bc_M 15 (j + 1))
    generalize bc_2 (bc_1 (n % 256)) = c at *
    have f1 : (X + X / 16) % 256 = c + c / 16 + 16 * (R % 16) := by omega
    have f2 : (X + X / 16) / 256 = R + R / 16 := by omega
    rw [f1, f2, e3, e4, b4] at ea
    exact ea
theorem bc_pc : ∀ n : Nat, z_pcR 32 n = z_pcR 8 (n % 256) + (z_pcR 8 (n / 256 % 256) + (z_pcR 8 (n / 256 / 256 % 256) + z_pcR 8 (n / 256 / 256 / 256 % 256))) := by
  have step : ∀ k n, z_pcR (8 + k) n = z_pcR 8 (n % 256) + z_pcR k (n / 256) := fun k n => by
    rw [show 8 + k = k + 1 + 1 + 1 + 1 + 1 + 1 + 1 + 1 by omega]
    simp only [z_pcR]
    have e : n / 2 / 2 / 2 / 2 / 2 / 2 / 2 / 2 = n / 256 := by omega
    rw [e]
    omega
  intro n
  have h1 := step 24 n
  have h2 := step 16 (n / 256)
  have h3 := step 8 (n / 256 / 256)
  have h4 : z_pcR 8 (n / 256 / 256 / 256) = z_pcR 8 (n / 256 / 256 / 256 % 256) := by
    simp only [z_pcR]
    omega
  rw [show 8 + 24 = 32 from rfl] at h1
  rw [show 8 + 16 = 24 from rfl] at h2
  rw [show 8 + 8 = 16 from rfl] at h3
  rw [h1, h2, h3, h4]
theorem bc_us (n : Nat) (hn : n < 2 ^ 32) : z_us (nI n) 1 = nI (n / 2) ∧ z_us (nI n) 2 = nI (n / 4) ∧ z_us (nI n) 4 = nI (n / 16) ∧ z_us (nI n) 8 = nI (n / 256) ∧ z_us (nI n) 16 = nI (n / 65536) :=
  ⟨pk_ushrN hn 1 1 (by decide), pk_ushrN hn 2 2 (by decide), pk_ushrN hn 4 4 (by decide), pk_ushrN hn 8 8 (by decide), pk_ushrN hn 16 16 (by decide)⟩
theorem bc_lt : ∀ j n, bc_T bc_1 j n < 256 ^ j ∧ bc_T (fun b => bc_2 (bc_1 b)) j n ≤ bc_M 68 j
  | 0, n => ⟨Nat.one_pos, Nat.le_refl _⟩
  | j + 1, n => by
    have hb : n % 256 < 256 := Nat.mod_lt _ (by omega)
    obtain ⟨t1, t2⟩ := bc_t1 _ hb
    obtain ⟨a1, a2, a3, a4⟩ := bc_a3 _ hb
    obtain ⟨i1, i2⟩ := bc_lt j (n / 256)
    refine ⟨?_, ?_⟩
    · show bc_1 (n % 256) + 256 * bc_T bc_1 j (n / 256) < 256 ^ (j + 1)
      rw [Nat.pow_succ]
      omega
    · show bc_2 (bc_1 (n % 256)) + 256 * bc_T (fun b => bc_2 (bc_1 b)) j (n / 256) ≤ 68 + 256 * bc_M 68 j
      omega
def bc_i1 (x : Int32) : Int32 := x - (z_us x 1 &&& 1431655765)
def bc_i2 (x : Int32) : Int32 := (x &&& 858993459) + (z_us x 2 &&& 858993459)
def bc_i3 (x : Int32) : Int32 := (x + z_us x 4) &&& 252645135
def bc_i4 (x : Int32) : Int32 := x + z_us x 8
def bc_i5 (x : Int32) : Int32 := x + z_us x 16
theorem bc_k1 : (256 : Nat) ^ 4 = 2 ^ 32 := by decide
theorem bc_k2 : bc_M 68 4 = 1145324612 := by decide +kernel
theorem bc_k5 : (1431655765 : Int32) = nI (bc_M 85 4) := by decide +kernel
theorem bc_k6 : (858993459 : Int32) = nI (bc_M 51 4) := by decide +kernel
theorem bc_k7 : (252645135 : Int32) = nI (bc_M 15 4) := by decide +kernel
theorem bc_k8 : (63 : Int32) = nI (2 ^ 6 - 1) := by decide +kernel
theorem bc_e1 (n : Nat) (hn : n < 2 ^ 32) : bc_i1 (nI n) = nI (bc_T bc_1 4 n) := by
  obtain ⟨s1, s2⟩ := bc_s1 4 n (by rw [bc_k1]; exact hn)
  unfold bc_i1
  rw [(bc_us n hn).1, bc_k5, nx_and, pk_sub s1, s2]
theorem bc_e2 (n : Nat) : bc_i2 (nI (bc_T bc_1 4 n)) = nI (bc_T (fun b => bc_2 (bc_1 b)) 4 n) := by
  have l1 := (bc_lt 4 n).1
  rw [bc_k1] at l1
  unfold bc_i2
  rw [(bc_us _ l1).2.1, bc_k6, nx_and, nx_and, nI_add, bc_s2]
theorem bc_e3 (n : Nat) : bc_i3 (nI (bc_T (fun b => bc_2 (bc_1 b)) 4 n)) = nI (bc_T (fun b => z_pcR 8 b) 4 n) := by
  have l2 := (bc_lt 4 n).2
  rw [bc_k2] at l2
  unfold bc_i3
  rw [(bc_us _ (by omega)).2.2.1, bc_k7, nI_add, nx_and, bc_s3]
theorem bc_e4 {p0 p1 p2 p3 : Nat} (q0 : p0 ≤ 8) (q1 : p1 ≤ 8) (q2 : p2 ≤ 8) (q3 : p3 ≤ 8) : bc_i5 (bc_i4 (nI (p0 + 256 * (p1 + 256 * (p2 + 256 * (p3 + 256 * 0)))))) &&& 63 = nI (p0 + (p1 + (p2 + p3))) := by
  generalize hy : p0 + 256 * (p1 + 256 * (p2 + 256 * (p3 + 256 * 0))) = y3
  have h3 : y3 < 2 ^ 32 := by omega
  have e4 : bc_i4 (nI y3) = nI (y3 + y3 / 256) := by
    unfold bc_i4
    rw [(bc_us y3 h3).2.2.2.1, nI_add]
  rw [e4]
  generalize hy4 : y3 + y3 / 256 = y4
  have h4 : y4 < 2 ^ 32 := by omega
  have e5 : bc_i5 (nI y4) = nI (y4 + y4 / 65536) := by
    unfold bc_i5
    rw [(bc_us y4 h4).2.2.2.2, nI_add]
  rw [e5, bc_k8, nx_and, Nat.and_two_pow_sub_one_eq_mod]
  have g1 : y3 / 256 = p1 + 256 * p2 + 65536 * p3 := by omega
  have g2 : y4 = (p0 + p1) + 256 * (p1 + p2) + 65536 * (p2 + p3 + 256 * p3) := by omega
  have g3 : y4 / 65536 = p2 + p3 + 256 * p3 := by omega
  have g4 : y4 + y4 / 65536 = (p0 + (p1 + (p2 + p3))) + 64 * (4 * (p1 + p2) + 1024 * (p2 + p3 + 256 * p3) + 4 * p3) := by omega
  rw [g4]
  congr 1
  rw [show (2 : Nat) ^ 6 = 64 from rfl, Nat.add_mul_mod_self_left, Nat.mod_eq_of_lt (by omega)]
theorem bc_all (x : Int32) : bc_i5 (bc_i4 (bc_i3 (bc_i2 (bc_i1 x)))) &&& 63 = z_pc x := by
  unfold z_pc
  have hx : x = nI x.toBitVec.toNat := by
    apply Int32.toBitVec_inj.mp
    apply BitVec.eq_of_toNat_eq
    rw [pk_tn x.toBitVec.isLt]
  have hn : x.toBitVec.toNat < 2 ^ 32 := x.toBitVec.isLt
  generalize x.toBitVec.toNat = n at *
  rw [hx, bc_e1 n hn, bc_e2, bc_e3, bc_pc n]
  have eT : bc_T (fun b => z_pcR 8 b) 4 n = z_pcR 8 (n % 256) + 256 * (z_pcR 8 (n / 256 % 256) + 256 * (z_pcR 8 (n / 256 / 256 % 256) + 256 * (z_pcR 8 (n / 256 / 256 / 256 % 256) + 256 * 0))) := by rw [bc_T, bc_T, bc_T, bc_T, bc_T]
  rw [eT]
  exact bc_e4 (bc_a3 _ (Nat.mod_lt _ (by omega))).2.2.2 (bc_a3 _ (Nat.mod_lt _ (by omega))).2.2.2 (bc_a3 _ (Nat.mod_lt _ (by omega))).2.2.2 (bc_a3 _ (Nat.mod_lt _ (by omega))).2.2.2
theorem hp_J6_bitCount_0f7a4 {x0 : Int32} (h : Q (some (.int (z_pc x0))) S v) : z_J G d mJ6_bitCount_0f7a4 (0, [.int x0], [], S, v) Q := by
  rw [← bc_all] at h
  exact sg_J6_bitCount_0f7a4_0 h
end HP
