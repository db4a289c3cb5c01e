/-! a line of the picture: its signs; the class' drawLine, line, byteAt -/
theorem p_ld_b {d κ sl k : Nat} : ∀ n, k < n → p_ld d κ sl n / 2 ^ k % 2 = p_pc (sl &&& t_fb d κ k) % 2
  | 0, h => absurd h (Nat.not_lt_zero k)
  | n + 1, h => by
    have hl := p_ld_lt d κ sl n
    rw [p_ld]
    by_cases z : k = n
    · subst z
      rw [Nat.add_mul_div_right _ _ (Nat.pow_pos (by omega)), Nat.div_eq_of_lt hl, Nat.zero_add]
      omega
    · have ih := p_ld_b (d := d) (κ := κ) (sl := sl) (k := k) n (by omega)
      obtain ⟨m, rfl⟩ : ∃ m, n = k + 1 + m := ⟨n - k - 1, by omega⟩
      generalize p_pc (sl &&& t_fb d κ (k + 1 + m)) % 2 = b
      rw [show b * 2 ^ (k + 1 + m) = 2 ^ k * (2 * (b * 2 ^ m)) by
        rw [Nat.pow_add, Nat.pow_add, Nat.pow_one]
        simp only [Nat.mul_assoc, Nat.mul_comm, Nat.mul_left_comm], Nat.add_mul_div_left _ _ (Nat.pow_pos (by omega)), Nat.add_mul_mod_self_left]
      exact ih
def l_bk (D κ k : Nat) : Bool := decide (t_fi D κ k ≤ D) && decide (t_fj D κ k ≤ D) && decide (l_kd D (t_fi D κ k) (t_fj D κ k) = κ) && decide (l_n D κ (t_fi D κ k) (t_fj D κ k) = k)
theorem l_bk3 : ∀ κ, κ < 2 → ∀ k, k < 4 → l_bk 3 κ k = true := by decide
theorem l_bk5 : ∀ κ, κ < 2 → ∀ k, k < 12 → l_bk 5 κ k = true := by decide
theorem l_back {D κ k : Nat} (hD : D = 3 ∨ D = 5) (hκ : κ < 2) (hk : k < t_K D) : t_fi D κ k ≤ D ∧ t_fj D κ k ≤ D ∧ l_kd D (t_fi D κ k) (t_fj D κ k) = κ ∧ l_n D κ (t_fi D κ k) (t_fj D κ k) = k := by
  have h : l_bk D κ k = true := by
    rcases hD with rfl | rfl
    · exact l_bk3 κ hκ k hk
    · exact l_bk5 κ hκ k hk
  unfold l_bk at h
  rw [Bool.and_eq_true, Bool.and_eq_true, Bool.and_eq_true] at h
  exact ⟨of_decide_eq_true h.1.1.1, of_decide_eq_true h.1.1.2, of_decide_eq_true h.1.2, of_decide_eq_true h.2⟩
/-- the sign of a check, of a qubit, of a place -/
def s_ck (ρ : Nat → Nat) (κ b : Nat) : Nat := (if κ = 0 then 98 else 112) - (if p_pc (ρ (2 + κ) &&& b) % 2 = 1 then 32 else 0)
def s_qb (ρ : Nat → Nat) (q : Nat) : Nat := if ρ 3 / 2 ^ q % 2 = 1 then (if ρ 2 / 2 ^ q % 2 = 1 then 42 else 45) else (if ρ 2 / 2 ^ q % 2 = 1 then 43 else 46)
def s_g (ρ : Nat → Nat) (r c : Nat) : Nat := if r % 2 = 1 then (if c % 2 = 1 then s_qb ρ (ρ 0 * (r / 2) + c / 2) else 32) else (if c % 2 = 1 then 32 else if l_kd (ρ 0) (r / 2) (c / 2) = 2 then 32 else s_ck ρ (l_kd (ρ 0) (r / 2) (c / 2)) (l_bt (ρ 0) (r / 2) (c / 2)))
theorem s_g_lt {ρ : Nat → Nat} {r c : Nat} : s_g ρ r c < 128 := by
  unfold s_g s_qb s_ck
  repeat' split
  all_goals omega
theorem l_kd3 {D i j : Nat} : l_kd D i j = 0 ∨ l_kd D i j = 1 ∨ l_kd D i j = 2 := by unfold l_kd; split <;> split <;> omega
def a_ln (ρ : Nat → Nat) (x1 : Int32) (r : Nat) : Prop := r ≤ 2 * ρ 0 ∧ x1 = nI r
theorem a_ln_u {ρ : Nat → Nat} {x1 : Int32} (h35 : ρ 0 = 3 ∨ ρ 0 = 5) (i j : Nat) (h : a_ln ρ x1 i) (g : a_ln ρ x1 j) : i = j := (nI_eq (by have := h.1; omega) (by have := g.1; omega)).mp (h.2.symm.trans g.2)
/-- the signs that were told last -/
def c_Ts (v : z_Dat) (l : List Nat) : Prop := v 198 6 = nI l.length ∧ l.length ≤ 11 ∧ ∀ i, i < l.length → v 202 i = nI (l.getD i 0)
def m_Ts (v : z_Dat) (l : List Nat) : Prop := v 223 65 = nI l.length ∧ l.length ≤ 11 ∧ ∀ i, i < l.length → v 260 i = nI (l.getD i 0)
def s_ls (ρ : Nat → Nat) (r : Nat) : List Nat := (List.range (2 * ρ 0 + 1)).map (s_g ρ r)
theorem s_ls_len {ρ : Nat → Nat} {r : Nat} : (s_ls ρ r).length = 2 * ρ 0 + 1 := by unfold s_ls; rw [List.length_map, List.length_range]
theorem s_ls_get {ρ : Nat → Nat} {r i : Nat} (h : i < 2 * ρ 0 + 1) : (s_ls ρ r).getD i 0 = s_g ρ r i := by
  unfold s_ls
  rw [List.getD_eq_getElem?_getD, List.getElem?_map, List.getElem?_range h]
  rfl
theorem l_dv {r : Nat} (h : r ≤ 10) : nI r / 2 = nI (r / 2) ∧ ((nI r - nI r / 2 * 2 = 1) ↔ r % 2 = 1) := by
  rcases (show r = 0 ∨ r = 1 ∨ r = 2 ∨ r = 3 ∨ r = 4 ∨ r = 5 ∨ r = 6 ∨ r = 7 ∨ r = 8 ∨ r = 9 ∨ r = 10 by omega) with rfl | rfl | rfl | rfl | rfl | rfl | rfl | rfl | rfl | rfl | rfl <;> decide
section LN
variable {G : z_G} {d : Nat} {S : z_Shp} {v v0 : z_Dat} {Q : Option Value → z_Shp → z_Dat → Prop} {ρ : Nat → Nat} {κ i : Nat} {x1 : Int32} {l : List Nat}
theorem sp_X7_drawChecks (hd : 2 ≤ d) (hL : z_L S) (hV : p_V ρ) (hW : p_Ws v) (hF : p_F S v 37 ρ) (hκ : κ < 2) (hi : i ≤ ρ 0)
    (h : ∀ v1, (∀ c, c < 11 → v1 202 c = if c % 2 = 0 ∧ c / 2 ≤ ρ 0 ∧ l_kd (ρ 0) i (c / 2) = κ then nI (s_g ρ (2 * i) c) else v 202 c) → (∀ b, b ≠ 202 → v1 b = v b) → Q none S v1) : z_J G d mX7_drawChecks (0, [.ref 198, .ref 37, .int (nI κ), .int (nI i), .null, .null, .null, .null], [], S, v) Q := by
  obtain ⟨d, rfl⟩ : ∃ e, d = e + 1 := ⟨d - 1, by omega⟩
  have hK := t_Kle hV.1
  have h5 := l_35 hV.1
  refine sg_X7_drawChecks_0 hL zF_37 ?_
  refine sp_X0_loudOnes (by omega) hL hW zF_37 hF hκ ⟨_, rfl, rfl, ?_⟩
  have hlo := p_lo_lt (ρ 0) κ (ρ (2 + κ))
  have hlo2 : p_lo (ρ 0) κ (ρ (2 + κ)) < 2 ^ 31 := Nat.lt_of_lt_of_le hlo (Nat.pow_le_pow_right (by omega) (by omega))
  obtain ⟨⟨w, hw, hwd⟩, -⟩ := hF
  have hwl : w = 1 ∨ w = 19 := p_wdW hwd
  have key : ∀ kk k v1, k + kk = t_K (ρ 0) → (∀ c, c < 11 → v1 202 c = if c % 2 = 0 ∧ c / 2 ≤ ρ 0 ∧ l_kd (ρ 0) i (c / 2) = κ ∧ l_n (ρ 0) κ i (c / 2) < k then nI (s_g ρ (2 * i) c) else v 202 c) → (∀ b, b ≠ 202 → v1 b = v b) → z_J G (d + 1) mX7_drawChecks (10, [.ref 198, .ref 37, .int (nI κ), .int (nI i), .int (nI (p_lo (ρ 0) κ (ρ (2 + κ)))), .int (nI k), .null, .null], [], S, v1) Q := by
    intro kk
    induction kk with
    | zero =>
      intro k v1 hk k1 k2
      have hk : k = t_K (ρ 0) := by omega
      subst hk
      have hW1 : p_Ws v1 := hW.fr (fun a a1 a2 => k2 a (by omega))
      refine sg_X7_drawChecks_10 hL zF_37 hw (p_wdW hwd) ?_
      rw [(p_wdP hW1 hwd).2.2.1]
      refine ⟨fun _ => h v1 (fun c hc => ?_) k2, fun c => absurd (nI_le (Nat.le_refl _) (by omega)) c⟩
      rw [k1 c hc]
      by_cases z : c % 2 = 0 ∧ c / 2 ≤ ρ 0 ∧ l_kd (ρ 0) i (c / 2) = κ
      · rw [if_pos z, if_pos ⟨z.1, z.2.1, z.2.2, (l_ok hV.1 hi z.2.1 hκ z.2.2).1⟩]
      · rw [if_neg z, if_neg (fun y => z ⟨y.1, y.2.1, y.2.2.1⟩)]
    | succ kk ih =>
      intro k v1 hk k1 k2
      have hW1 : p_Ws v1 := hW.fr (fun a a1 a2 => k2 a (by omega))
      obtain ⟨b1, b2, b3, b4⟩ := l_back hV.1 hκ (show k < t_K (ρ 0) by omega)
      obtain ⟨t1, t2, t3⟩ := ((p_wdP hW1 hwd).2.2.2 κ hκ).2.2.1 k (by omega)
      have hin : vp_in (nI κ) 2 := vp_in_nI (by omega) (by omega)
      have hin2 : vp_in (nI k) 12 := vp_in_nI (by omega) (by omega)
      have hin3 : vp_in (nI (2 * t_fj (ρ 0) κ k)) 11 := vp_in_nI (by omega) (by omega)
      refine sg_X7_drawChecks_10 hL zF_37 hw (p_wdW hwd) ?_
      rw [(p_wdP hW1 hwd).2.2.1, nI_clamp (n := κ) (by omega), nI_clamp (n := k) (by omega), t1, t2, zb_bit hlo2 (by omega), nI_1, show (2 : Int32) = nI 2 from rfl, pk_mul, nI_clamp (n := 2 * t_fj (ρ 0) κ k) (by omega), show p_lo (ρ 0) κ (ρ (2 + κ)) / 2 ^ k % 2 = p_pc (ρ (2 + κ) &&& t_fb (ρ 0) κ k) % 2 from p_ld_b _ (by omega)]
      have other : ∀ c, c < 11 → ¬ (t_fi (ρ 0) κ k = i ∧ 2 * t_fj (ρ 0) κ k = c) → v1 202 c = if c % 2 = 0 ∧ c / 2 ≤ ρ 0 ∧ l_kd (ρ 0) i (c / 2) = κ ∧ l_n (ρ 0) κ i (c / 2) < k + 1 then nI (s_g ρ (2 * i) c) else v 202 c := by
        intro c hc hne
        rw [k1 c hc]
        by_cases z : c % 2 = 0 ∧ c / 2 ≤ ρ 0 ∧ l_kd (ρ 0) i (c / 2) = κ ∧ l_n (ρ 0) κ i (c / 2) < k
        · rw [if_pos z, if_pos ⟨z.1, z.2.1, z.2.2.1, by omega⟩]
        · rw [if_neg z, if_neg (fun y => ?_)]
          obtain ⟨y1, y2, y3, y4⟩ := y
          have y5 : l_n (ρ 0) κ i (c / 2) = k := by
            rcases Nat.lt_or_ge (l_n (ρ 0) κ i (c / 2)) k with q | q
            · exact absurd ⟨y1, y2, y3, q⟩ z
            · omega
          obtain ⟨o1, o2, o3, o4⟩ := l_ok hV.1 hi y2 hκ y3
          rw [y5] at o2 o3
          exact hne ⟨o2, by omega⟩
      have put : t_fi (ρ 0) κ k = i → ∀ v2 : z_Dat, v2 = z_u v1 202 (2 * t_fj (ρ 0) κ k) (nI (s_ck ρ κ (t_fb (ρ 0) κ k))) → z_J G (d + 1) mX7_drawChecks (10, [.ref 198, .ref 37, .int (nI κ), .int (nI i), .int (nI (p_lo (ρ 0) κ (ρ (2 + κ)))), .int (nI (k + 1)), .null, .null], [], S, v2) Q := by
        intro ei v2 e2
        rw [ei] at b3 b4
        refine ih (k + 1) v2 (by omega) (fun c hc => ?_) (fun b hb => by rw [e2, z_u_ne hb]; exact k2 b hb)
        by_cases z : c = 2 * t_fj (ρ 0) κ k
        · have ez : c / 2 = t_fj (ρ 0) κ k := by omega
          rw [e2, z_ue rfl z, ez, if_pos ⟨by omega, b2, b3, by omega⟩]
          unfold s_g
          rw [if_neg (by omega), if_neg (by omega), show 2 * i / 2 = i by omega, ez, b3, if_neg (by omega)]
          have o4 := (l_ok hV.1 hi b2 hκ b3).2.2.2
          rw [b4] at o4
          rw [o4]
        · rw [e2, z_un (Or.inr z)]
          exact other c hc (fun y => z y.2.symm)
      have sk : ∀ z : Nat, p_pc (ρ (2 + κ) &&& t_fb (ρ 0) κ k) % 2 = 1 → s_ck ρ κ (t_fb (ρ 0) κ k) = (if κ = 0 then 66 else 80) := fun _ z => by
        unfold s_ck; rw [if_pos z]; split <;> rfl
      have sn : ¬ p_pc (ρ (2 + κ) &&& t_fb (ρ 0) κ k) % 2 = 1 → s_ck ρ κ (t_fb (ρ 0) κ k) = (if κ = 0 then 98 else 112) := fun z => by
        unfold s_ck; rw [if_neg z]; split <;> rfl
      refine ⟨fun c => absurd c (nI_ge (by omega) (by omega)), fun _ => ⟨hin, hin2, fun c1 => ?_, fun c1 => ?_⟩⟩
      · refine ih (k + 1) v1 (by omega) (fun c hc => other c hc (fun y => c1 (by rw [y.1]))) k2
      have ei : t_fi (ρ 0) κ k = i := (nI_eq (by omega) (by omega)).mp c1
      refine ⟨fun c2 => ⟨fun c3 => ⟨hin, hin2, hin3, fun v2 e2 => put ei v2 ?_⟩, fun c3 => ⟨hin, hin2, hin3, fun v2 e2 => put ei v2 ?_⟩⟩, fun c2 => ⟨fun c3 => ⟨hin, hin2, hin3, fun v2 e2 => put ei v2 ?_⟩, fun c3 => ⟨hin, hin2, hin3, fun v2 e2 => put ei v2 ?_⟩⟩⟩
      · rw [e2, sn (fun z => c2 (by rw [z]; rfl)), if_neg (fun z => c3 (by rw [z]; rfl))]; rfl
      · have c3 : κ = 0 := (nI_eq (b := 0) (by omega) (by omega)).mp c3
        rw [e2, sn (fun z => c2 (by rw [z]; rfl)), if_pos c3]; rfl
      · have c2 := (nI_eq (b := 1) (by omega) (by omega)).mp c2
        rw [e2, sk 0 c2, if_neg (fun z => c3 (by rw [z]; rfl))]; rfl
      · have c2 := (nI_eq (b := 1) (by omega) (by omega)).mp c2
        have c3 : κ = 0 := (nI_eq (b := 0) (by omega) (by omega)).mp c3
        rw [e2, sk 0 c2, if_pos c3]; rfl
  exact key _ 0 v (Nat.zero_add _) (fun c hc => by rw [if_neg (fun y => absurd y.2.2.2 (Nat.not_lt_zero _))]) (fun _ _ => rfl)
theorem sp_X7_drawQubits (hL : z_L S) (hV : p_V ρ) (hW : p_Ws v) (hF : p_F S v 37 ρ) (hi : i < ρ 0)
    (h : ∀ v1, (∀ c, c < 11 → v1 202 c = if c % 2 = 1 ∧ c / 2 < ρ 0 then nI (s_qb ρ (ρ 0 * i + c / 2)) else v 202 c) → (∀ b, b ≠ 202 → v1 b = v b) → Q none S v1) : z_J G d mX7_drawQubits (0, [.ref 198, .ref 37, .int (nI i), .null, .null, .null, .null, .null], [], S, v) Q := by
  have h5 := l_35 hV.1
  have hF0 := hF
  obtain ⟨⟨w, hw, hwd⟩, -⟩ := hF
  have hwl : w = 1 ∨ w = 19 := p_wdW hwd
  have hsl : ∀ κ, κ < 2 → ρ (2 + κ) < 2 ^ 31 := fun κ hκ => by
    refine Nat.lt_of_lt_of_le (hV.2.2.1 κ hκ).1 (Nat.pow_le_pow_right (by omega) ?_)
    rcases hV.1 with e | e <;> rw [e] <;> decide
  have key : ∀ kk k v1, k + kk = ρ 0 → (∀ c, c < 11 → v1 202 c = if c % 2 = 1 ∧ c / 2 < k then nI (s_qb ρ (ρ 0 * i + c / 2)) else v 202 c) → (∀ b, b ≠ 202 → v1 b = v b) → z_J G d mX7_drawQubits (2, [.ref 198, .ref 37, .int (nI i), .int (nI k), .null, .null, .null, .null], [], S, v1) Q := by
    intro kk
    induction kk with
    | zero =>
      intro k v1 hk k1 k2
      have hk : k = ρ 0 := by omega
      rw [hk] at k1
      have hW1 : p_Ws v1 := hW.fr (fun a a1 a2 => k2 a (by omega))
      refine sg_X7_drawQubits_2 hL zF_37 hw (p_wdW hwd) ?_
      rw [(p_wdP hW1 hwd).1]
      exact ⟨fun _ => h v1 k1 k2, fun c => absurd (nI_le (by omega) (by omega)) c⟩
    | succ kk ih =>
      intro k v1 hk k1 k2
      have hW1 : p_Ws v1 := hW.fr (fun a a1 a2 => k2 a (by omega))
      have e0 : v1 (37 + 1) 0 = nI (ρ 2) := by rw [k2 (37 + 1) (by omega)]; exact (hF0.2.2.1 0 (by omega)).1
      have e1 : v1 (37 + 1) 1 = nI (ρ 3) := by rw [k2 (37 + 1) (by omega)]; exact (hF0.2.2.1 1 (by omega)).1
      have hq : i * ρ 0 + k < 32 := by
        have := Nat.mul_le_mul (show i ≤ 4 by omega) (show ρ 0 ≤ 5 by omega)
        omega
      have hin : vp_in (nI (2 * k + 1)) 11 := vp_in_nI (by omega) (by omega)
      refine sg_X7_drawQubits_2 hL zF_37 hw (p_wdW hwd) ?_
      rw [(p_wdP hW1 hwd).1, e0, e1, pk_mul, nI_add, zb_bit (hsl 0 (by omega)) hq, zb_bit (hsl 1 (by omega)) hq, show (2 : Int32) = nI 2 from rfl, pk_mul, nI_1 (2 * k), nI_1 k, nI_clamp (n := 2 * k + 1) (by omega)]
      have put : ∀ v2 : z_Dat, ∀ x, v2 = z_u v1 202 (2 * k + 1) x → x = nI (s_qb ρ (i * ρ 0 + k)) → z_J G d mX7_drawQubits (2, [.ref 198, .ref 37, .int (nI i), .int (nI (k + 1)), .null, .null, .null, .null], [], S, v2) Q := by
        intro v2 x e2 hx
        refine ih (k + 1) v2 (by omega) (fun c hc => ?_) (fun b hb => by rw [e2, z_u_ne hb]; exact k2 b hb)
        by_cases z : c = 2 * k + 1
        · rw [e2, z_ue rfl z, if_pos (by omega), hx, Nat.mul_comm, show c / 2 = k by omega]
        · rw [e2, z_un (Or.inr z), k1 c hc]
          by_cases y : c % 2 = 1 ∧ c / 2 < k
          · rw [if_pos y, if_pos (by omega)]
          · rw [if_neg y, if_neg (by omega)]
      have b0 : ∀ a : Nat, (nI (a % 2) = 1) → a % 2 = 1 := fun a c => (nI_eq (b := 1) (by omega) (by omega)).mp c
      have b1 : ∀ a : Nat, ¬ (nI (a % 2) = 1) → ¬ a % 2 = 1 := fun a c z => c (by rw [z]; rfl)
      refine ⟨fun c => absurd c (nI_ge (by omega) (by omega)), fun _ => ⟨fun c0 => ⟨fun c1 => ⟨hin, fun v2 e2 => put v2 _ e2 ?_⟩, fun c1 => ⟨fun c2 => ⟨hin, fun v2 e2 => put v2 _ e2 ?_⟩, fun c2 => absurd c2 c0⟩⟩, fun c0 => ⟨fun c1 => ⟨hin, fun v2 e2 => put v2 _ e2 ?_⟩, fun c1 => ⟨fun c2 => absurd c0 c2, fun c2 => ⟨hin, fun v2 e2 => put v2 _ e2 ?_⟩⟩⟩⟩⟩
      · unfold s_qb; rw [if_neg (b1 _ c1), if_neg (b1 _ c0)]; rfl
      · unfold s_qb; rw [if_pos (b0 _ c1), if_neg (b1 _ c0)]; rfl
      · unfold s_qb; rw [if_neg (b1 _ c1), if_pos (b0 _ c0)]; rfl
      · unfold s_qb; rw [if_pos (b0 _ c1), if_pos (b0 _ c0)]; rfl
  exact sg_X7_drawQubits_0 zF_37 (key _ 0 v (Nat.zero_add _) (fun c hc => by rw [if_neg (fun y => absurd y.2 (Nat.not_lt_zero _))]) (fun _ _ => rfl))
theorem sp_X7_drawLine {r : Nat} (hd : 3 ≤ d) (hL : z_L S) (hV : p_V ρ) (hW : p_Ws v) (hF : p_F S v 37 ρ) (hr : r ≤ 2 * ρ 0)
    (h : ∀ v1, c_Ts v1 (s_ls ρ r) → (∀ b, b ≠ 198 → b ≠ 202 → v1 b = v b) → (∀ j, j ≠ 6 → v1 198 j = v 198 j) → Q none S v1) : z_J G d mX7_drawLine (0, [.ref 198, .ref 37, .int (nI r)], [], S, v) Q := by
  obtain ⟨d, rfl⟩ : ∃ e, d = e + 1 := ⟨d - 1, by omega⟩
  have h5 := l_35 hV.1
  have l2 : z_l S 202 = 11 := zl_202 hL
  have hF0 := hF
  obtain ⟨⟨w, hw, hwd⟩, -⟩ := hF
  have hwl : w = 1 ∨ w = 19 := p_wdW hwd
  obtain ⟨dv1, dv2⟩ := l_dv (show r ≤ 10 by omega)
  refine sg_X7_drawLine_0 hL zF_37 hw (p_wdW hwd) (fun v1 e1 => ?_)
  rw [(p_wdP hW hwd).1, show (2 : Int32) = nI 2 from rfl, pk_mul, nI_1] at e1
  refine sp_J7_fill (zk_202 hL) (by rw [l2]; decide) (fun g hg => ⟨rfl, rfl, ?_⟩)
  rw [l2] at hg
  have w2 : ∀ b, b ≠ 198 → b ≠ 202 → z_ua v1 202 g b = v b := fun b b1 b2 => by rw [z_ua_ne b2, e1, z_u_ne b1]
  have hW2 : p_Ws (z_ua v1 202 g) := hW.fr (fun a a1 a2 => w2 a (by omega) (by omega))
  have hF2 : p_F S (z_ua v1 202 g) 37 ρ := hF0.fr (fun a a1 a2 => w2 a (by omega) (by omega))
  have fin : ∀ v3 : z_Dat, (∀ b, b ≠ 202 → v3 b = z_ua v1 202 g b) → (∀ c, c < 2 * ρ 0 + 1 → v3 202 c = nI (s_g ρ r c)) → Q none S v3 := by
    intro v3 f3 s3
    refine h v3 ⟨?_, by rw [s_ls_len]; omega, fun i hi => ?_⟩ (fun b b1 b2 => by rw [f3 b b2]; exact w2 b b1 b2) (fun j hj => by rw [f3 198 (by omega), z_uan (by omega), e1, z_un (Or.inr hj)])
    · rw [s_ls_len, f3 198 (by omega), z_uan (by omega), e1, z_ue rfl rfl]
    · rw [s_ls_len] at hi
      rw [s_ls_get hi]; exact s3 i hi
  rw [l_par (by omega), dv1]
  refine ⟨fun cr => ?_, fun c => ?_⟩
  · have hr1 : r % 2 = 1 := by omega
    refine sp_X7_drawQubits hL hV hW2 hF2 (i := r / 2) (by omega) (fun v3 s3 f3 => ⟨rfl, rfl, fin v3 f3 (fun c hc => ?_)⟩)
    rw [s3 c (by omega)]
    unfold s_g
    rw [if_pos hr1]
    by_cases z : c % 2 = 1
    · rw [if_pos (show c % 2 = 1 ∧ c / 2 < ρ 0 from ⟨z, by omega⟩), if_pos z]
    · rw [if_neg (show ¬ (c % 2 = 1 ∧ c / 2 < ρ 0) from fun y => z y.1), if_neg z, z_uae rfl, hg c (by omega)]; rfl
  · refine sp_X7_drawChecks (κ := 0) (i := r / 2) (by omega) hL hV hW2 hF2 (by omega) (by omega) (fun v3 s3 f3 => ⟨rfl, rfl, ?_⟩)
    have hW3 : p_Ws v3 := hW2.fr (fun a a1 a2 => f3 a (by omega))
    have hF3 : p_F S v3 37 ρ := hF2.fr (fun a a1 a2 => f3 a (by omega))
    refine sp_X7_drawChecks (κ := 1) (i := r / 2) (by omega) hL hV hW3 hF3 (by omega) (by omega) (fun v4 s4 f4 => ⟨rfl, rfl, fin v4 (fun b hb => (f4 b hb).trans (f3 b hb)) (fun c hc => ?_)⟩)
    have er : 2 * (r / 2) = r := by omega
    rw [s4 c (by omega), s3 c (by omega), er]
    by_cases y1 : c % 2 = 0 ∧ c / 2 ≤ ρ 0 ∧ l_kd (ρ 0) (r / 2) (c / 2) = 1
    · rw [if_pos y1]
    rw [if_neg y1]
    by_cases y0 : c % 2 = 0 ∧ c / 2 ≤ ρ 0 ∧ l_kd (ρ 0) (r / 2) (c / 2) = 0
    · rw [if_pos y0]
    rw [if_neg y0, z_uae rfl, hg c (by omega)]
    have : s_g ρ r c = 32 := by
      unfold s_g
      rw [if_neg (by omega)]
      by_cases z : c % 2 = 1
      · rw [if_pos z]
      · rw [if_neg z, if_pos]
        rcases l_kd3 (D := ρ 0) (i := r / 2) (j := c / 2) with q | q | q
        · exact absurd ⟨by omega, by omega, q⟩ y0
        · exact absurd ⟨by omega, by omega, q⟩ y1
        · exact q
    rw [this]; rfl
theorem sp_X10_line (hd : 4 ≤ d) (hL : z_L S) (hV : p_V ρ) (hW : p_Ws v) (hF : p_F S v 37 ρ)
    (h1 : ∀ v1 r, a_ln ρ x1 r → c_Ts v1 (s_ls ρ r) → (∀ b, b ≠ 198 → b ≠ 202 → v1 b = v b) → (∀ j, j ≠ 6 → v1 198 j = v 198 j) → Q (some (.int (nI (2 * ρ 0 + 1)))) S v1)
    (h0 : (¬ ∃ r, a_ln ρ x1 r) → Q (some (.int (-1))) S v) : z_J G d mX10_line (0, [.ref 0, .int x1], [], S, v) Q := by
  obtain ⟨d, rfl⟩ : ∃ e, d = e + 1 := ⟨d - 1, by omega⟩
  have h5 := l_35 hV.1
  have hF0 := hF
  obtain ⟨⟨w, hw, hwd⟩, -⟩ := hF
  refine sg_X10_line_0 hL hw (p_wdW hwd) ?_
  rw [(p_wdP hW hwd).1, show (2 : Int32) = nI 2 from rfl, pk_mul]
  refine ⟨fun c => h0 (fun ⟨r, q1, q2⟩ => nI_pos (n := r) (by omega) (by rw [← q2]; exact c)), fun c => ?_⟩
  obtain ⟨r, hr, rfl⟩ := nI_of c
  refine ⟨fun c2 => ?_, fun c2 => h0 (fun ⟨r', q1, q2⟩ => c2 (by rw [q2]; exact nI_le q1 (by omega)))⟩
  have c2 := (nI_leI hr (by omega)).mp c2
  refine sp_X7_drawLine (by omega) hL hV hW hF0 c2 (fun v1 t1 f1 g1 => ⟨rfl, rfl, ?_⟩)
  have e := t1.1
  rw [s_ls_len] at e
  rw [e]
  exact h1 v1 r ⟨c2, rfl⟩ t1 f1 g1
theorem sp_X10_byteAt (hL : z_L S) (hT : c_Ts v l) (h : ∀ y, a_at l x1 y → Q (some (.int y)) S v) : z_J G d mX10_byteAt (0, [.ref 0, .int x1], [], S, v) Q := by
  obtain ⟨t4, t5, t6⟩ := hT
  refine sg_X10_byteAt_0 hL ⟨fun c => h _ (Or.inr ⟨fun ⟨i, hi, e⟩ => nI_pos (n := i) (by omega) (by rw [← e]; exact c), rfl⟩), fun c => ?_⟩
  obtain ⟨i, hi, rfl⟩ := nI_of c
  rw [t4]
  refine ⟨fun c2 => ?_, fun c2 => h _ (Or.inr ⟨fun ⟨j, hj, e⟩ => c2 (by rw [e]; exact nI_lt hj (by omega)), rfl⟩)⟩
  have c2 := (nI_ltI hi (by omega)).mp c2
  refine ⟨vp_in_nI (by omega) (by omega), ?_⟩
  rw [nI_clamp hi]
  exact h _ (Or.inl ⟨i, c2, rfl, t6 i c2⟩)
theorem sp_X11_byteAt (hd : 1 ≤ d) (hL : z_L S) (hT : m_Ts v l) (h : ∀ v1 y, a_at l x1 y → v1 = z_u v 223 0 0 → Q (some (.int y)) S v1) : z_J G d mX11_byteAt (0, [.ref 223, .int x1], [], S, v) Q := by
  obtain ⟨d, rfl⟩ : ∃ e, d = e + 1 := ⟨d - 1, by omega⟩
  obtain ⟨t4, t5, t6⟩ := hT
  refine sg_X11_byteAt_0 hL (fun v1 e1 => ?_)
  rw [show v1 223 65 = nI l.length by rw [e1, z_un (by omega)]; exact t4, ix_le (by omega)]
  refine ⟨fun ⟨i, hi, e⟩ => ⟨by rw [e]; exact vp_in_nI (by omega) (by omega), ?_⟩, fun c => h v1 _ (Or.inr ⟨c, rfl⟩) e1⟩
  refine h v1 _ (Or.inl ⟨i, hi, e, ?_⟩) e1
  rw [e, nI_clamp (by omega), e1, z_u_ne (by omega)]
  exact t6 i hi
end LN
