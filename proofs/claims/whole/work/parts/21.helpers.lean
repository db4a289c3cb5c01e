/-! HELPERS: small methods whose contract is used in place -/
/-- the sum of the k lowest binary digits -/
def z_pcR : Nat → Nat → Nat
  | 0, _ => 0
  | k + 1, n => n % 2 + z_pcR k (n / 2)
/-- how many bits are set -/
def z_pc (x : Int32) : Int32 := nI (z_pcR 32 x.toBitVec.toNat)
def z_tzA (i n : Int32) : Int32 := n + z_us i 1
def z_tzB (i n : Int32) : Int32 := if i ≤ 4 then z_tzA i n else z_tzA (z_us i 2) (n + 2)
def z_tzC (i n : Int32) : Int32 := if i ≤ 16 then z_tzB i n else z_tzB (z_us i 4) (n + 4)
def z_tzD (i n : Int32) : Int32 := if i ≤ 256 then z_tzC i n else z_tzC (z_us i 8) (n + 8)
def z_tzE (i n : Int32) : Int32 := if i ≤ 65536 then z_tzD i n else z_tzD (z_us i 16) (n + 16)
/-- numberOfTrailingZeros, as the library reckons it -/
def z_tz (x : Int32) : Int32 := if 0 < (x ^^^ (-1)) &&& (x - 1) then z_tzE ((x ^^^ (-1)) &&& (x - 1)) 1 else ((x ^^^ (-1)) &&& (x - 1)) &&& 32
/-- the draw of 64 behind a seed -/
def z_dr (x : Int32) : Int32 := z_us x 8 - z_us x 8 / 64 * 64
section HP
variable {G : z_G} {d : Nat} {S : z_Shp} {v : z_Dat} {Q : Option Value → z_Shp → z_Dat → Prop}
theorem hp_X11_isKind {x0 : Int32} (h1 : (x0 = 0 ∨ x0 = 1) → Q (some (.int 1)) S v) (h0 : ¬ (x0 = 0 ∨ x0 = 1) → Q (some (.int 0)) S v) : z_J G d mX11_isKind (0, [.int x0], [], S, v) Q :=
  sg_X11_isKind_0 ⟨fun c => h1 (Or.inl c), fun c => ⟨fun c1 => h0 (fun q => q.elim c c1), fun c1 => h1 (Or.inr c1)⟩⟩
theorem hp_X10_isKind {x0 : Int32} (h1 : (x0 = 0 ∨ x0 = 1) → Q (some (.int 1)) S v) (h0 : ¬ (x0 = 0 ∨ x0 = 1) → Q (some (.int 0)) S v) : z_J G d mX10_isKind (0, [.int x0], [], S, v) Q :=
  sg_X10_isKind_0 ⟨fun c => h1 (Or.inl c), fun c => ⟨fun c1 => h0 (fun q => q.elim c c1), fun c1 => h1 (Or.inr c1)⟩⟩
theorem hp_X10_isLogical {x0 : Int32} (h1 : (x0 = 0 ∨ x0 = 1) → Q (some (.int 1)) S v) (h0 : ¬ (x0 = 0 ∨ x0 = 1) → Q (some (.int 0)) S v) : z_J G d mX10_isLogical (0, [.int x0], [], S, v) Q :=
  sg_X10_isLogical_0 ⟨fun c => h1 (Or.inl c), fun c => ⟨fun c1 => h0 (fun q => q.elim c c1), fun c1 => h1 (Or.inr c1)⟩⟩
theorem hp_X10_isFactor {x0 : Int32} (h1 : (0 ≤ x0 ∧ x0 ≤ 99) → Q (some (.int 1)) S v) (h0 : ¬ (0 ≤ x0 ∧ x0 ≤ 99) → Q (some (.int 0)) S v) : z_J G d mX10_isFactor (0, [.int x0], [], S, v) Q :=
  sg_X10_isFactor_0 ⟨fun c => h0 (fun q => absurd c (Int32.not_lt.mpr q.1)), fun c => ⟨fun c1 => h0 (fun q => absurd c1 (Int32.not_lt.mpr q.2)), fun c1 => h1 ⟨Int32.not_lt.mp c, Int32.not_lt.mp c1⟩⟩⟩
theorem hp_X11_isIn {x0 x1 x2 : Int32} (h1 : (x1 ≤ x0 ∧ x0 ≤ x2) → Q (some (.int 1)) S v) (h0 : ¬ (x1 ≤ x0 ∧ x0 ≤ x2) → Q (some (.int 0)) S v) : z_J G d mX11_isIn (0, [.int x0, .int x1, .int x2], [], S, v) Q :=
  sg_X11_isIn_0 ⟨fun c => h0 (fun q => absurd c (Int32.not_lt.mpr q.1)), fun c => ⟨fun c1 => h0 (fun q => absurd c1 (Int32.not_lt.mpr q.2)), fun c1 => h1 ⟨Int32.not_lt.mp c, Int32.not_lt.mp c1⟩⟩⟩
theorem hp_X11_bitOf {x0 x1 : Int32} (h1 : ((x0 >>> (x1 &&& 31)) &&& 1) = 1 → Q (some (.int 1)) S v) (h0 : ¬ ((x0 >>> (x1 &&& 31)) &&& 1) = 1 → Q (some (.int 0)) S v) : z_J G d mX11_bitOf (0, [.int x0, .int x1], [], S, v) Q :=
  sg_X11_bitOf_0 ⟨h0, h1⟩
theorem hp_X4_hasEvent {x1 : Int32} (hL : z_L S) (h1 : (0 ≤ x1 ∧ x1 < v 149 3) → Q (some (.int 1)) S v) (h0 : ¬ (0 ≤ x1 ∧ x1 < v 149 3) → Q (some (.int 0)) S v) : z_J G d mX4_hasEvent (0, [.ref 149, .int x1], [], S, v) Q :=
  sg_X4_hasEvent_0 hL ⟨fun c => h0 (fun q => absurd c (Int32.not_lt.mpr q.1)), fun c => ⟨fun c1 => h0 (fun q => absurd q.2 (Int32.not_lt.mpr c1)), fun c1 => h1 ⟨Int32.not_lt.mp c, Int32.not_le.mp c1⟩⟩⟩
theorem hp_X11_d (hL : z_L S) (h : Q (some (.int (v 224 0))) S v) : z_J G d mX11_d (0, [.ref 223], [], S, v) Q := sg_X11_d_0 hL h
theorem hp_X11_qubits (hL : z_L S) (h : Q (some (.int (v 224 0 * v 224 0))) S v) : z_J G d mX11_qubits (0, [.ref 223], [], S, v) Q := sg_X11_qubits_0 hL h
theorem hp_X0_drawBehind {x0 : Int32} (h : Q (some (.int (x0 * 1103515245 + 12345))) S v) : z_J G d mX0_drawBehind (0, [.int x0], [], S, v) Q := sg_X0_drawBehind_0 h
theorem hp_X0_drawOf {x0 : Int32} (h : Q (some (.int (z_dr x0))) S v) : z_J G d mX0_drawOf (0, [.int x0], [], S, v) Q := sg_X0_drawOf_0 h
theorem hp_X4_nearAt {x1 x2 : Int32} (hL : z_L S) (h1 : vp_in (x1 * 6 + x2) 648) (h : Q (some (.int (v 154 (x1 * 6 + x2).toNatClampNeg))) S v) : z_J G d mX4_nearAt (0, [.ref 149, .int x1, .int x2], [], S, v) Q := sg_X4_nearAt_0 hL ⟨h1, h⟩
theorem hp_X4_otherEnd {x1 x2 : Int32} (hL : z_L S) (h1 : vp_in x1 321) (h : Q (some (.int (if v 150 x1.toNatClampNeg = x2 then v 151 x1.toNatClampNeg else v 150 x1.toNatClampNeg))) S v) : z_J G d mX4_otherEnd (0, [.ref 149, .int x1, .int x2], [], S, v) Q :=
  sg_X4_otherEnd_0 hL ⟨h1, fun c => ⟨h1, by rw [if_neg c] at h; exact h⟩, fun c => ⟨h1, by rw [if_pos c] at h; exact h⟩⟩
theorem hp_J6_numberOfTrailingZeros_0f7a4 {x0 : Int32} (h : Q (some (.int (z_tz x0))) S v) : z_J G d mJ6_numberOfTrailingZeros_0f7a4 (0, [.int x0, .null], [], S, v) Q := by
  have hA : ∀ i n : Int32, Q (some (.int (z_tzA i n))) S v → z_J G d mJ6_numberOfTrailingZeros_0f7a4 (74, [.int i, .int n], [], S, v) Q := fun i n q => sg_J6_numberOfTrailingZeros_0f7a4_74 q
  have hB : ∀ i n : Int32, Q (some (.int (z_tzB i n))) S v → z_J G d mJ6_numberOfTrailingZeros_0f7a4 (62, [.int i, .int n], [], S, v) Q := fun i n q =>
    sg_J6_numberOfTrailingZeros_0f7a4_62 ⟨fun c => hA _ _ (by rw [z_tzB, if_pos c] at q; exact q), fun c => hA _ _ (by rw [z_tzB, if_neg c] at q; exact q)⟩
  have hC : ∀ i n : Int32, Q (some (.int (z_tzC i n))) S v → z_J G d mJ6_numberOfTrailingZeros_0f7a4 (49, [.int i, .int n], [], S, v) Q := fun i n q =>
    sg_J6_numberOfTrailingZeros_0f7a4_49 ⟨fun c => hB _ _ (by rw [z_tzC, if_pos c] at q; exact q), fun c => hB _ _ (by rw [z_tzC, if_neg c] at q; exact q)⟩
  have hD : ∀ i n : Int32, Q (some (.int (z_tzD i n))) S v → z_J G d mJ6_numberOfTrailingZeros_0f7a4 (34, [.int i, .int n], [], S, v) Q := fun i n q =>
    sg_J6_numberOfTrailingZeros_0f7a4_34 ⟨fun c => hC _ _ (by rw [z_tzD, if_pos c] at q; exact q), fun c => hC _ _ (by rw [z_tzD, if_neg c] at q; exact q)⟩
  unfold z_tz at h
  refine sg_J6_numberOfTrailingZeros_0f7a4_0 ⟨fun c => ?_, fun c => ?_⟩
  · rw [if_pos c, z_tzE] at h
    exact ⟨fun c1 => hD _ _ (by rw [if_pos c1] at h; exact h), fun c1 => hD _ _ (by rw [if_neg c1] at h; exact h)⟩
  · rw [if_neg c] at h
    exact h
/-- the lowest set bit of a small number -/
def z_low (n : Nat) : Nat := ((List.range 14).find? (fun i => n / 2 ^ i % 2 == 1)).getD 14
theorem z_pcR_s : ∀ (k n : Nat), z_pcR (k + 1) n = z_pcR k n + n / 2 ^ k % 2
  | 0, n => by simp [z_pcR]
  | k + 1, n => by
    rw [z_pcR, z_pcR_s k (n / 2), z_pcR, Nat.pow_succ, Nat.mul_comm (2 ^ k) 2, ← Nat.div_div_eq_div_mul]
    omega
theorem hp_X11_bits {x0 : Int32} (h : Q (some (.int (z_pc x0))) S v) : z_J G d mX11_bits (0, [.int x0, .null, .null], [], S, v) Q := by
  have key : ∀ j k : Nat, j + k = 32 → z_J G d mX11_bits (4, [.int x0, .int (nI (z_pcR k x0.toBitVec.toNat)), .int (nI k)], [], S, v) Q := by
    intro j
    induction j with
    | zero =>
      intro k hk
      have hk : k = 32 := by omega
      subst hk
      exact sg_X11_bits_4 ⟨fun _ => h, fun c => absurd (by decide) c⟩
    | succ j ih =>
      intro k hk
      refine sg_X11_bits_4 ⟨fun c => absurd c (nI_ge (a := k) (b := 32) (by omega) (by omega)), fun _ => ?_⟩
      rw [zb_bitx x0 (by omega), nI_add, nI_1, ← z_pcR_s]
      exact ih (k + 1) (by omega)
  exact sg_X11_bits_0 (key 32 0 rfl)
theorem hp_J6_bitCount_0f7a4 {x0 : Int32} (h : Q (some (.int (z_pc x0))) S v) : z_J G d mJ6_bitCount_0f7a4 (0, [.int x0], [], S, v) Q := by
  sorry
end HP
