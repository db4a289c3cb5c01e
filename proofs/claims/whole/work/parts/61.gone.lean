/-! WHAT EDGES TELL: qubits on an odd number of them, checks from one round to the next; qubitsOf, risesOf, gone -/
def n_qb (ρ : Nat → Nat) (g : Nat → Nat) : Nat → Nat
  | 0 => 0
  | e + 1 => if g e ≠ 0 ∧ e % n_W (ρ 0) < ρ 0 * ρ 0 then n_qb ρ g e ^^^ 2 ^ (e % n_W (ρ 0)) else n_qb ρ g e
def n_rr (ρ : Nat → Nat) (g : Nat → Nat) (t : Nat) : Nat → Nat
  | 0 => 0
  | e + 1 => if g e ≠ 0 ∧ ρ 0 * ρ 0 ≤ e % n_W (ρ 0) ∧ e / n_W (ρ 0) = t then n_rr ρ g t e ^^^ 2 ^ (e % n_W (ρ 0) - ρ 0 * ρ 0) else n_rr ρ g t e
theorem n_Wlt {d : Nat} (h35 : d = 3 ∨ d = 5) : d * d < n_W d ∧ n_W d ≤ 37 ∧ d * d ≤ 25 ∧ n_W d = d * d + t_K d := by rcases h35 with rfl | rfl <;> decide
theorem n_qb_lt {ρ : Nat → Nat} {g : Nat → Nat} : ∀ e, n_qb ρ g e < 2 ^ (ρ 0 * ρ 0)
  | 0 => Nat.pow_pos (by omega)
  | e + 1 => by
    rw [n_qb]
    split
    · rename_i c
      exact Nat.xor_lt_two_pow (n_qb_lt e) (Nat.pow_lt_pow_right (by omega) c.2)
    · exact n_qb_lt e
theorem n_qb_sk {ρ : Nat → Nat} {g : Nat → Nat} (h35 : ρ 0 = 3 ∨ ρ 0 = 5) (t : Nat) : ∀ k, k ≤ t_K (ρ 0) → n_qb ρ g (t * n_W (ρ 0) + ρ 0 * ρ 0 + k) = n_qb ρ g (t * n_W (ρ 0) + ρ 0 * ρ 0)
  | 0, _ => rfl
  | k + 1, hk => by
    have hW := n_Wlt h35
    have e1 := (n_dm (W := n_W (ρ 0)) (t := t) (x := ρ 0 * ρ 0 + k) (by omega)).2
    have ih := n_qb_sk (g := g) h35 t k (by omega)
    rw [← Nat.add_assoc, n_qb, if_neg (fun z => by
      have := z.2
      rw [Nat.add_assoc, e1] at this
      omega)]
    exact ih
theorem n_rr_lt {ρ : Nat → Nat} {g : Nat → Nat} {t : Nat} (h35 : ρ 0 = 3 ∨ ρ 0 = 5) : ∀ e, n_rr ρ g t e < 2 ^ t_K (ρ 0)
  | 0 => Nat.pow_pos (by omega)
  | e + 1 => by
    have hW := n_Wlt h35
    have hm := Nat.mod_lt e (show 0 < n_W (ρ 0) by omega)
    rw [n_rr]
    split
    · rename_i c
      exact Nat.xor_lt_two_pow (n_rr_lt h35 e) (Nat.pow_lt_pow_right (by omega) (by omega))
    · exact n_rr_lt h35 e
theorem n_rr_0 {ρ : Nat → Nat} {g : Nat → Nat} {t : Nat} (h35 : ρ 0 = 3 ∨ ρ 0 = 5) : ∀ e, e ≤ t * n_W (ρ 0) + ρ 0 * ρ 0 → n_rr ρ g t e = 0
  | 0, _ => rfl
  | e + 1, he => by
    have hW := n_Wlt h35
    rw [n_rr, if_neg (fun z => ?_)]
    · exact n_rr_0 h35 e (by omega)
    · have hd := Nat.div_add_mod e (n_W (ρ 0))
      have h3 := z.2.2
      have h2 := z.2.1
      rw [h3, Nat.mul_comm] at hd
      omega
theorem n_rr_k {ρ : Nat → Nat} {g : Nat → Nat} {t : Nat} (h35 : ρ 0 = 3 ∨ ρ 0 = 5) : ∀ k, k < t_K (ρ 0) → n_rr ρ g t (t * n_W (ρ 0) + ρ 0 * ρ 0 + k) < 2 ^ k ∧ n_rr ρ g t (t * n_W (ρ 0) + ρ 0 * ρ 0 + (k + 1)) = (if g (t * n_W (ρ 0) + ρ 0 * ρ 0 + k) ≠ 0 then n_rr ρ g t (t * n_W (ρ 0) + ρ 0 * ρ 0 + k) ^^^ 2 ^ k else n_rr ρ g t (t * n_W (ρ 0) + ρ 0 * ρ 0 + k)) := by
  have hW := n_Wlt h35
  have st : ∀ k, k < t_K (ρ 0) → n_rr ρ g t (t * n_W (ρ 0) + ρ 0 * ρ 0 + (k + 1)) = (if g (t * n_W (ρ 0) + ρ 0 * ρ 0 + k) ≠ 0 then n_rr ρ g t (t * n_W (ρ 0) + ρ 0 * ρ 0 + k) ^^^ 2 ^ k else n_rr ρ g t (t * n_W (ρ 0) + ρ 0 * ρ 0 + k)) := by
    intro k hk
    have e1 := n_dm (W := n_W (ρ 0)) (t := t) (x := ρ 0 * ρ 0 + k) (by omega)
    rw [← Nat.add_assoc, n_rr, Nat.add_assoc (t * n_W (ρ 0)), e1.1, e1.2, Nat.add_sub_cancel_left]
    by_cases c : g (t * n_W (ρ 0) + (ρ 0 * ρ 0 + k)) ≠ 0
    · rw [if_pos ⟨c, by omega, rfl⟩, if_pos c]
    · rw [if_neg (fun z => c z.1), if_neg c]
  intro k
  induction k with
  | zero => exact fun hk => ⟨by rw [Nat.add_zero, n_rr_0 h35 _ (Nat.le_refl _)]; exact Nat.one_pos, st 0 hk⟩
  | succ k ih =>
    intro hk
    obtain ⟨i1, i2⟩ := ih (by omega)
    refine ⟨?_, st (k + 1) hk⟩
    rw [i2]
    split
    · exact Nat.xor_lt_two_pow (Nat.lt_trans i1 (Nat.pow_lt_pow_right (by omega) (by omega))) (Nat.pow_lt_pow_right (by omega) (by omega))
    · exact Nat.lt_trans i1 (Nat.pow_lt_pow_right (by omega) (by omega))
theorem n_rr_e {ρ : Nat → Nat} {g : Nat → Nat} {t : Nat} (h35 : ρ 0 = 3 ∨ ρ 0 = 5) : ∀ k, n_rr ρ g t ((t + 1) * n_W (ρ 0) + k) = n_rr ρ g t ((t + 1) * n_W (ρ 0))
  | 0 => rfl
  | k + 1 => by
    have hW := n_Wlt h35
    rw [← Nat.add_assoc, n_rr, if_neg (fun z => ?_)]
    · exact n_rr_e h35 k
    · have h3 := z.2.2
      have := Nat.div_le_div_right (c := n_W (ρ 0)) (show (t + 1) * n_W (ρ 0) ≤ (t + 1) * n_W (ρ 0) + k by omega)
      rw [Nat.mul_div_cancel _ (show 0 < n_W (ρ 0) by omega), h3] at this
      omega
theorem x_or {a k : Nat} (h : a < 2 ^ k) : a ||| 2 ^ k = a ^^^ 2 ^ k := by
  refine Nat.eq_of_testBit_eq (fun j => ?_)
  rw [Nat.testBit_or, Nat.testBit_xor]
  by_cases e : j = k
  · subst e
    rw [Nat.testBit_lt_two_pow h, Nat.testBit_two_pow_self]; rfl
  · rw [Nat.testBit_two_pow_of_ne (fun z => e z.symm), Bool.or_false, Bool.xor_false]
section GO
variable {G : z_G} {d : Nat} {S : z_Shp} {v v0 : z_Dat} {Q : Option Value → z_Shp → z_Dat → Prop} {ρ : Nat → Nat} {κ : Nat} {g : Nat → Nat} {a : Nat}
theorem sp_X4_qubitsOf (hL : z_L S) (hV : p_V ρ) (hk : z_k S a = 21) (hl : z_l S a = 321) (hR : c_R ρ κ v) (hg : ∀ e, g e ≤ 1) (ha : ∀ e, e < n_E ρ → v a e = nI (g e)) (h : Q (some (.int (nI (n_qb ρ g (n_E ρ))))) S v) : z_J G d mX4_qubitsOf (0, [.ref 149, .ref a, .null, .null, .null], [], S, v) Q := by
  have hW := n_Wlt hV.1
  have hE := n_E_le hV.1 hV.2.1
  have h8 := hV.2.1
  have e12 := hR.1.2.2.2.1
  have e13 := hR.1.2.2.2.2.1
  have e14 := hR.1.2.2.2.2.2
  have outer : ∀ j t, t + j = ρ 1 + 1 → z_J G d mX4_qubitsOf (4, [.ref 149, .ref a, .int (nI (if t = ρ 1 + 1 then n_qb ρ g (n_E ρ) else n_qb ρ g (t * n_W (ρ 0)))), .int (nI t), .null], [], S, v) Q := by
    intro j
    induction j with
    | zero =>
      intro t ht
      have ht : t = ρ 1 + 1 := by omega
      rw [if_pos ht]
      refine sg_X4_qubitsOf_4 hL hk ⟨fun _ => h, fun c => absurd ?_ c⟩
      rw [e12, ht]; exact nI_le (Nat.le_refl _) (by omega)
    | succ j ih =>
      intro t ht
      rw [if_neg (by omega)]
      have htE : t * n_W (ρ 0) + ρ 0 * ρ 0 ≤ n_E ρ := by
        unfold n_E
        have := Nat.mul_le_mul_right (n_W (ρ 0)) (show t ≤ ρ 1 by omega)
        omega
      refine sg_X4_qubitsOf_4 hL hk ⟨fun c => absurd c (by rw [e12]; exact nI_ge (by omega) (by omega)), fun _ => ?_⟩
      have inner : ∀ m q, q + m = ρ 0 * ρ 0 → z_J G d mX4_qubitsOf (15, [.ref 149, .ref a, .int (nI (n_qb ρ g (t * n_W (ρ 0) + q))), .int (nI t), .int (nI q)], [], S, v) Q := by
        intro m
        induction m with
        | zero =>
          intro q hq
          have hq : q = ρ 0 * ρ 0 := by omega
          subst hq
          refine sg_X4_qubitsOf_15 hL hk ⟨fun _ => ?_, fun c => absurd (by rw [e13]; exact nI_le (Nat.le_refl _) (by omega)) c⟩
          rw [nI_1]
          have := ih (t + 1) (by omega)
          by_cases z : t + 1 = ρ 1 + 1
          · rw [if_pos z] at this
            have ez : t * n_W (ρ 0) + ρ 0 * ρ 0 = n_E ρ := by unfold n_E; rw [show t = ρ 1 by omega]
            rw [ez]; exact this
          · rw [if_neg z] at this
            have es : (t + 1) * n_W (ρ 0) = t * n_W (ρ 0) + ρ 0 * ρ 0 + t_K (ρ 0) := by rw [Nat.add_mul, Nat.one_mul]; omega
            rw [es, n_qb_sk hV.1 t (t_K (ρ 0)) (Nat.le_refl _)] at this
            exact this
        | succ m ihm =>
          intro q hq
          have hlt : t * n_W (ρ 0) + q < n_E ρ := by omega
          have e1 := (n_dm (W := n_W (ρ 0)) (t := t) (x := q) (by omega)).2
          have hqb := n_qb_lt (ρ := ρ) (g := g) (t * n_W (ρ 0) + q)
          refine sg_X4_qubitsOf_15 hL hk ⟨fun c => absurd c (by rw [e13]; exact nI_ge (by omega) (by omega)), fun _ => ?_⟩
          rw [e13, e14, nI_add, ← hW.2.2.2, pk_mul, nI_add, nI_clamp (n := t * n_W (ρ 0) + q) (by omega), ha _ hlt, hl, nI_1]
          refine ⟨vp_in_nI (by omega) (by omega), ?_⟩
          have := ihm (q + 1) (by omega)
          rw [← Nat.add_assoc, n_qb, e1] at this
          rcases (show g (t * n_W (ρ 0) + q) = 0 ∨ g (t * n_W (ρ 0) + q) = 1 by have := hg (t * n_W (ρ 0) + q); omega) with z | z
          · rw [if_neg (fun w => w.1 z)] at this
            rw [z, zb_shl (by omega) (by rw [Nat.zero_mul]; omega), Nat.zero_mul, nx_xor, Nat.xor_zero]
            exact this
          · rw [if_pos ⟨by omega, by omega⟩] at this
            rw [z, zb_shl (by omega) (by rw [Nat.one_mul]; exact Nat.pow_lt_pow_right (by omega) (by omega)), Nat.one_mul, nx_xor]
            exact this
      have := inner (ρ 0 * ρ 0) 0 (Nat.zero_add _)
      rw [Nat.add_zero] at this
      exact this
  have := outer (ρ 1 + 1) 0 (Nat.zero_add _)
  rw [if_neg (by omega), Nat.zero_mul] at this
  exact sg_X4_qubitsOf_0 hk this
theorem sp_X4_risesOf {t : Nat} (hL : z_L S) (hV : p_V ρ) (hk : z_k S a = 21) (hl : z_l S a = 321) (hR : c_R ρ κ v) (hg : ∀ e, g e ≤ 1) (ha : ∀ e, e < n_E ρ → v a e = nI (g e)) (ht : t < ρ 1) (h : Q (some (.int (nI (n_rr ρ g t (n_E ρ))))) S v) : z_J G d mX4_risesOf (0, [.ref 149, .ref a, .int (nI t), .null, .null], [], S, v) Q := by
  have hW := n_Wlt hV.1
  have hE := n_E_le hV.1 hV.2.1
  have h8 := hV.2.1
  have hK := t_Kle hV.1
  have e13 := hR.1.2.2.2.2.1
  have e14 := hR.1.2.2.2.2.2
  have htE : (t + 1) * n_W (ρ 0) ≤ n_E ρ := by
    unfold n_E
    have := Nat.mul_le_mul_right (n_W (ρ 0)) (show t + 1 ≤ ρ 1 by omega)
    omega
  have hs : (t + 1) * n_W (ρ 0) = t * n_W (ρ 0) + ρ 0 * ρ 0 + t_K (ρ 0) := by rw [Nat.add_mul, Nat.one_mul]; omega
  have key : ∀ j k, k + j = t_K (ρ 0) → z_J G d mX4_risesOf (5, [.ref 149, .ref a, .int (nI t), .int (nI (n_rr ρ g t (t * n_W (ρ 0) + ρ 0 * ρ 0 + k))), .int (nI k)], [], S, v) Q := by
    intro j
    induction j with
    | zero =>
      intro k hk2
      have hk2 : k = t_K (ρ 0) := by omega
      subst hk2
      refine sg_X4_risesOf_5 hL hk ⟨fun _ => ?_, fun c => absurd (by rw [e14]; exact nI_le (Nat.le_refl _) (by omega)) c⟩
      obtain ⟨r, hr⟩ : ∃ r, n_E ρ = (t + 1) * n_W (ρ 0) + r := ⟨n_E ρ - (t + 1) * n_W (ρ 0), by omega⟩
      rw [hr, n_rr_e hV.1, hs] at h
      exact h
    | succ j ih =>
      intro k hk2
      have hlt : t * n_W (ρ 0) + ρ 0 * ρ 0 + k < n_E ρ := by omega
      obtain ⟨r1, r2⟩ := n_rr_k (g := g) (t := t) hV.1 k (by omega)
      refine sg_X4_risesOf_5 hL hk ⟨fun c => absurd c (by rw [e14]; exact nI_ge (by omega) (by omega)), fun _ => ?_⟩
      rw [e13, e14, nI_add, ← hW.2.2.2, pk_mul, nI_add, nI_add, nI_clamp (n := t * n_W (ρ 0) + ρ 0 * ρ 0 + k) (by omega), ha _ hlt, hl, nI_1]
      refine ⟨vp_in_nI (by omega) (by omega), ?_⟩
      have := ih (k + 1) (by omega)
      rw [r2] at this
      rcases (show g (t * n_W (ρ 0) + ρ 0 * ρ 0 + k) = 0 ∨ g (t * n_W (ρ 0) + ρ 0 * ρ 0 + k) = 1 by have := hg (t * n_W (ρ 0) + ρ 0 * ρ 0 + k); omega) with z | z
      · rw [if_neg (fun w => w z)] at this
        rw [z, zb_shl (by omega) (by rw [Nat.zero_mul]; omega), Nat.zero_mul, zb_or, Nat.or_zero]
        exact this
      · rw [if_pos (by omega)] at this
        rw [z, zb_shl (by omega) (by rw [Nat.one_mul]; exact Nat.pow_lt_pow_right (by omega) (by omega)), Nat.one_mul, zb_or, x_or r1]
        exact this
  have := key (t_K (ρ 0)) 0 (Nat.zero_add _)
  rw [Nat.add_zero, n_rr_0 hV.1 _ (Nat.le_refl _)] at this
  exact sg_X4_risesOf_0 hk this
theorem sp_X11_gone1 (hd : 1 ≤ d) (hL : z_L S) (hV : p_V ρ) (hM : v 224 0 = nI (ρ 0)) (hK : v 223 14 = nI (t_K (ρ 0))) (h31 : v 223 31 = nI (n_E ρ)) (hg : ∀ e, g e ≤ 1) (ha : ∀ e, e < n_E ρ → v 258 e = nI (g e)) {x2 : Int32} (h : Q (some (.int (nI (n_qb ρ g (n_E ρ))))) S v) : z_J G d mX11_gone (0, [.ref 223, .int 1, .int x2, .null, .null, .null, .null], [], S, v) Q := by
  obtain ⟨d, rfl⟩ : ∃ e, d = e + 1 := ⟨d - 1, by omega⟩
  have hW := n_Wlt hV.1
  have hE := n_E_le hV.1 hV.2.1
  refine sg_X11_gone_0 hL ?_
  rw [hM, hK, pk_mul, nI_add, ← hW.2.2.2]
  have key : ∀ j e, e + j = n_E ρ → z_J G (d + 1) mX11_gone (16, [.ref 223, .int 1, .int x2, .int (nI (n_W (ρ 0))), .int (nI (n_qb ρ g e)), .int (nI e), .null], [], S, v) Q := by
    intro j
    induction j with
    | zero =>
      intro e he
      have he : e = n_E ρ := by omega
      subst he
      exact sg_X11_gone_16 hL ⟨fun _ => h, fun c => absurd (by rw [h31]; exact nI_le (Nat.le_refl _) (by omega)) c⟩
    | succ j ih =>
      intro e he
      have hm := Nat.mod_lt e (show 0 < n_W (ρ 0) by omega)
      have hqb := n_qb_lt (ρ := ρ) (g := g) e
      have nx := ih (e + 1) (by omega)
      rw [n_qb] at nx
      refine sg_X11_gone_16 hL ⟨fun c => absurd c (by rw [h31]; exact nI_ge (by omega) (by omega)), fun _ => ?_⟩
      rw [nI_clamp (n := e) (by omega), ha e (by omega), hM, pk_mul, pk_rem (by omega) (by omega) (by omega), pk_div (by omega) (by omega) (by omega), nI_1]
      refine ⟨nI_ne0 (by omega) (by omega), vp_in_nI (by omega) (by omega), fun c => ?_, fun c => ⟨fun c2 => ⟨fun c3 => absurd c3 (by decide), fun _ => ?_⟩, fun c2 => ⟨fun _ => ⟨fun c3 => absurd c3 (by decide), fun _ => ?_⟩, fun c3 => absurd rfl c3⟩⟩⟩
      · have c := (nI_eq (b := 0) (by have := hg e; omega) (by omega)).mp c
        rw [if_neg (fun z => z.1 c)] at nx
        exact nx
      · have c2 := (nI_leI (by omega) (by omega)).mp c2
        rw [if_neg (fun z => by have := z.2; omega)] at nx
        exact nx
      · have c2 : e % n_W (ρ 0) < ρ 0 * ρ 0 := by
          rcases Nat.lt_or_ge (e % n_W (ρ 0)) (ρ 0 * ρ 0) with q | q
          · exact q
          · exact absurd (nI_le q (by omega)) c2
        rw [if_pos ⟨fun z => c (by rw [z]; rfl), c2⟩] at nx
        rw [zb_1 (by omega), nx_xor]
        exact nx
  exact key (n_E ρ) 0 (Nat.zero_add _)
theorem sp_X11_gone0 {t : Nat} (hd : 1 ≤ d) (hL : z_L S) (hV : p_V ρ) (hM : v 224 0 = nI (ρ 0)) (hK : v 223 14 = nI (t_K (ρ 0))) (h31 : v 223 31 = nI (n_E ρ)) (hg : ∀ e, g e ≤ 1) (ha : ∀ e, e < n_E ρ → v 258 e = nI (g e)) (ht : t < 8) (h : Q (some (.int (nI (n_rr ρ g t (n_E ρ))))) S v) : z_J G d mX11_gone (0, [.ref 223, .int 0, .int (nI t), .null, .null, .null, .null], [], S, v) Q := by
  obtain ⟨d, rfl⟩ : ∃ e, d = e + 1 := ⟨d - 1, by omega⟩
  have hW := n_Wlt hV.1
  have hE := n_E_le hV.1 hV.2.1
  refine sg_X11_gone_0 hL ?_
  rw [hM, hK, pk_mul, nI_add, ← hW.2.2.2]
  have key : ∀ j e, e + j = n_E ρ → z_J G (d + 1) mX11_gone (16, [.ref 223, .int 0, .int (nI t), .int (nI (n_W (ρ 0))), .int (nI (n_rr ρ g t e)), .int (nI e), .null], [], S, v) Q := by
    intro j
    induction j with
    | zero =>
      intro e he
      have he : e = n_E ρ := by omega
      subst he
      exact sg_X11_gone_16 hL ⟨fun _ => h, fun c => absurd (by rw [h31]; exact nI_le (Nat.le_refl _) (by omega)) c⟩
    | succ j ih =>
      intro e he
      have hm := Nat.mod_lt e (show 0 < n_W (ρ 0) by omega)
      have hdv := Nat.div_le_self e (n_W (ρ 0))
      have nx := ih (e + 1) (by omega)
      rw [n_rr] at nx
      refine sg_X11_gone_16 hL ⟨fun c => absurd c (by rw [h31]; exact nI_ge (by omega) (by omega)), fun _ => ?_⟩
      rw [nI_clamp (n := e) (by omega), ha e (by omega), hM, pk_mul, pk_rem (by omega) (by omega) (by omega), pk_div (by omega) (by omega) (by omega), nI_1]
      refine ⟨nI_ne0 (by omega) (by omega), vp_in_nI (by omega) (by omega), fun c => ?_, fun c => ⟨fun c2 => ⟨fun _ => ⟨fun _ => ⟨nI_ne0 (by omega) (by omega), fun c3 => ?_, fun c3 => ?_⟩, fun c3 => absurd rfl c3⟩, fun c3 => absurd rfl c3⟩, fun c2 => ⟨fun c3 => absurd c3 (by decide), fun _ => ?_⟩⟩⟩
      · have c := (nI_eq (b := 0) (by have := hg e; omega) (by omega)).mp c
        rw [if_neg (fun z => z.1 c)] at nx
        exact nx
      · rw [if_neg (fun z => c3 (by rw [z.2.2]))] at nx
        exact nx
      · have c2 := (nI_leI (by omega) (by omega)).mp c2
        have c3 := (nI_eq (by omega) (by omega)).mp c3
        rw [if_pos ⟨fun z => c (by rw [z]; rfl), c2, c3⟩] at nx
        have c4 : e % n_W (ρ 0) - ρ 0 * ρ 0 < 32 := by have := t_Kle hV.1; omega
        rw [pk_sub c2, zb_1 c4, nx_xor]
        exact nx
      · have c2 : e % n_W (ρ 0) < ρ 0 * ρ 0 := by
          rcases Nat.lt_or_ge (e % n_W (ρ 0)) (ρ 0 * ρ 0) with q | q
          · exact q
          · exact absurd (nI_le q (by omega)) c2
        rw [if_neg (fun z => by have := z.2.1; omega)] at nx
        exact nx
  exact key (n_E ρ) 0 (Nat.zero_add _)
end GO
