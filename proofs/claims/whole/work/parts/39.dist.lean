/-! DISTANCES in the net: what a row of them must satisfy, that it is then the only one, and that it stays small -/
def t_hd30 : List Nat := [0, 2, 1, 1, 2, 0, 3, 1, 1, 3, 0, 2, 1, 1, 2, 0]
def t_hd31 : List Nat := [0, 1, 2, 3, 1, 0, 1, 2, 2, 1, 0, 1, 3, 2, 1, 0]
def t_hd50 : List Nat := [0, 2, 4, 1, 1, 3, 2, 2, 4, 3, 3, 3, 2, 0, 2, 3, 1, 1, 2, 2, 2, 3, 3, 3, 4, 2, 0, 5, 3, 1, 4, 2, 2, 5, 3, 3, 1, 3, 5, 0, 2, 4, 1, 3, 5, 2, 2, 4, 1, 1, 3, 2, 0, 2, 1, 1, 3, 2, 2, 2, 3, 1, 1, 4, 2, 0, 3, 1, 1, 4, 2, 2, 2, 2, 4, 1, 1, 3, 0, 2, 4, 1, 1, 3, 2, 2, 2, 3, 1, 1, 2, 0, 2, 3, 1, 1, 4, 2, 2, 5, 3, 1, 4, 2, 0, 5, 3, 1, 3, 3, 5, 2, 2, 4, 1, 3, 5, 0, 2, 4, 3, 3, 3, 2, 2, 2, 1, 1, 3, 2, 0, 2, 3, 3, 3, 4, 2, 2, 3, 1, 1, 4, 2, 0]
def t_hd51 : List Nat := [0, 2, 1, 3, 2, 2, 3, 3, 4, 4, 5, 5, 2, 0, 1, 1, 2, 2, 3, 3, 4, 4, 5, 5, 1, 1, 0, 2, 1, 1, 2, 2, 3, 3, 4, 4, 3, 1, 2, 0, 3, 1, 2, 2, 3, 3, 4, 4, 2, 2, 1, 3, 0, 2, 1, 3, 2, 2, 3, 3, 2, 2, 1, 1, 2, 0, 1, 1, 2, 2, 3, 3, 3, 3, 2, 2, 1, 1, 0, 2, 1, 1, 2, 2, 3, 3, 2, 2, 3, 1, 2, 0, 3, 1, 2, 2, 4, 4, 3, 3, 2, 2, 1, 3, 0, 2, 1, 3, 4, 4, 3, 3, 2, 2, 1, 1, 2, 0, 1, 1, 5, 5, 4, 4, 3, 3, 2, 2, 1, 1, 0, 2, 5, 5, 4, 4, 3, 3, 2, 2, 3, 1, 2, 0]
/-- how many qubits lead from one check to another, in a layer -/
def t_hd (d κ k j : Nat) : Nat := (if d = 3 then (if κ = 0 then t_hd30 else t_hd31) else (if κ = 0 then t_hd50 else t_hd51)).getD (t_K d * k + j) 0

def n_us (ρ : Nat → Nat) (κ T e : Nat) : Prop := n_hi ρ κ e ≠ n_B ρ ∨ T = n_B ρ
/-- no edge makes a spot nearer -/
def n_D1 (ρ : Nat → Nat) (κ T : Nat) (r : Nat → Nat) : Prop := ∀ e, e < n_E ρ → n_us ρ κ T e → r (n_lo ρ κ e) ≤ r (n_hi ρ κ e) + n_w ρ κ e ∧ (n_hi ρ κ e ≠ n_B ρ → r (n_hi ρ κ e) ≤ r (n_lo ρ κ e) + n_w ρ κ e)
/-- an edge leads from a spot to one that is nearer by its weight -/
def n_sup (ρ : Nat → Nat) (κ T : Nat) (r : Nat → Nat) (s : Nat) : Prop := ∃ e, e < n_E ρ ∧ n_us ρ κ T e ∧ ((n_lo ρ κ e = s ∧ r (n_hi ρ κ e) + n_w ρ κ e ≤ r s) ∨ (n_hi ρ κ e = s ∧ r (n_lo ρ κ e) + n_w ρ κ e ≤ r s))
def n_isD (ρ : Nat → Nat) (κ T : Nat) (r : Nat → Nat) : Prop := r T = 0 ∧ n_D1 ρ κ T r ∧ ∀ s, s < n_B ρ → s ≠ T → n_sup ρ κ T r s
theorem n_wt {ρ : Nat → Nat} {κ e : Nat} (hV : p_V ρ) (hκ : κ < 2) : 1 ≤ n_w ρ κ e ∧ n_w ρ κ e ≤ 9 := by
  have hW : 0 < n_W (ρ 0) := by unfold n_W; rcases hV.1 with e | e <;> rw [e] <;> decide
  have hm := Nat.mod_lt e hW
  have hK := t_Kle hV.1
  have hD25 : ρ 0 * ρ 0 ≤ 25 := by rcases hV.1 with e | e <;> rw [e] <;> omega
  have hd : n_W (ρ 0) = ρ 0 * ρ 0 + t_K (ρ 0) := rfl
  unfold n_w
  split
  · exact hV.2.2.2 _ (by omega)
  · exact (hV.2.2.1 κ hκ).2.2.2 _ (by omega)
theorem n_le {ρ : Nat → Nat} {κ T : Nat} {r r' : Nat → Nat} (hV : p_V ρ) (hκ : κ < 2) (h : ∀ s, s < n_B ρ → s ≠ T → r s < 1000000 → n_sup ρ κ T r s) (h0 : r' T = 0) (h1 : n_D1 ρ κ T r') : ∀ n s, s < n_B ρ ∨ s = T → r s = n → n < 1000000 → r' s ≤ n := by
  intro n
  induction n using Nat.strongRecOn with
  | ind n ih =>
    intro s hs hr hn
    by_cases e : s = T
    · rw [e, h0]; omega
    · have hs : s < n_B ρ := hs.resolve_right e
      obtain ⟨e, he, hu, h2⟩ := h s hs e (by omega)
      have hw := n_wt (e := e) hV hκ
      obtain ⟨q1, q2, q3⟩ := n_ends hV.1 hκ he
      have d1 := h1 e he hu
      rcases h2 with ⟨e1, e2⟩ | ⟨e1, e2⟩
      · have hb : n_hi ρ κ e < n_B ρ ∨ n_hi ρ κ e = T := by
          rcases Nat.lt_or_ge (n_hi ρ κ e) (n_B ρ) with q | q
          · exact Or.inl q
          · rcases hu with u | u
            · omega
            · exact Or.inr (by omega)
        have := ih _ (by omega) (n_hi ρ κ e) hb rfl (by omega)
        have := d1.1
        rw [e1] at this
        omega
      · have := ih _ (by omega) (n_lo ρ κ e) (Or.inl q2) rfl (by omega)
        have := d1.2 (by omega)
        rw [e1] at this
        omega
theorem t_hd_ok {d κ k j : Nat} (h35 : d = 3 ∨ d = 5) (hκ : κ < 2) (hk : k < t_K d) (hj : j < t_K d) : t_hd d κ k j ≤ 5 ∧ (k = j ∨ ∃ q, q < d * d ∧ t_c2 d κ q ≠ 99 ∧ ((t_c1 d κ q = k ∧ t_hd d κ (t_c2 d κ q) j + 1 = t_hd d κ k j) ∨ (t_c2 d κ q = k ∧ t_hd d κ (t_c1 d κ q) j + 1 = t_hd d κ k j))) := by
  rcases h35 with rfl | rfl <;> rcases (show κ = 0 ∨ κ = 1 by omega) with rfl | rfl
  · exact (by decide +kernel : ∀ k, k < 4 → ∀ j, j < 4 → (t_hd 3 0 k j ≤ 5 ∧ (k = j ∨ ∃ q, q < 9 ∧ t_c2 3 0 q ≠ 99 ∧ ((t_c1 3 0 q = k ∧ t_hd 3 0 (t_c2 3 0 q) j + 1 = t_hd 3 0 k j) ∨ (t_c2 3 0 q = k ∧ t_hd 3 0 (t_c1 3 0 q) j + 1 = t_hd 3 0 k j))))) k hk j hj
  · exact (by decide +kernel : ∀ k, k < 4 → ∀ j, j < 4 → (t_hd 3 1 k j ≤ 5 ∧ (k = j ∨ ∃ q, q < 9 ∧ t_c2 3 1 q ≠ 99 ∧ ((t_c1 3 1 q = k ∧ t_hd 3 1 (t_c2 3 1 q) j + 1 = t_hd 3 1 k j) ∨ (t_c2 3 1 q = k ∧ t_hd 3 1 (t_c1 3 1 q) j + 1 = t_hd 3 1 k j))))) k hk j hj
  · exact (by decide +kernel : ∀ k, k < 12 → ∀ j, j < 12 → (t_hd 5 0 k j ≤ 5 ∧ (k = j ∨ ∃ q, q < 25 ∧ t_c2 5 0 q ≠ 99 ∧ ((t_c1 5 0 q = k ∧ t_hd 5 0 (t_c2 5 0 q) j + 1 = t_hd 5 0 k j) ∨ (t_c2 5 0 q = k ∧ t_hd 5 0 (t_c1 5 0 q) j + 1 = t_hd 5 0 k j))))) k hk j hj
  · exact (by decide +kernel : ∀ k, k < 12 → ∀ j, j < 12 → (t_hd 5 1 k j ≤ 5 ∧ (k = j ∨ ∃ q, q < 25 ∧ t_c2 5 1 q ≠ 99 ∧ ((t_c1 5 1 q = k ∧ t_hd 5 1 (t_c2 5 1 q) j + 1 = t_hd 5 1 k j) ∨ (t_c2 5 1 q = k ∧ t_hd 5 1 (t_c1 5 1 q) j + 1 = t_hd 5 1 k j))))) k hk j hj
theorem t_bq {d κ : Nat} (h35 : d = 3 ∨ d = 5) (hκ : κ < 2) : ∃ q, q < d * d ∧ t_c2 d κ q = 99 := by
  rcases h35 with rfl | rfl <;> rcases (show κ = 0 ∨ κ = 1 by omega) with rfl | rfl
  · exact ⟨0, by decide, by decide⟩
  · exact ⟨0, by decide, by decide⟩
  · exact ⟨0, by decide, by decide⟩
  · exact ⟨0, by decide, by decide⟩
theorem n_vert {ρ : Nat → Nat} {κ T : Nat} {r : Nat → Nat} (hV : p_V ρ) (hκ : κ < 2) (h1 : n_D1 ρ κ T r) {k : Nat} (hk : k < t_K (ρ 0)) : ∀ n t, t + n ≤ ρ 1 → r (t * t_K (ρ 0) + k) ≤ r ((t + n) * t_K (ρ 0) + k) + 9 * n ∧ r ((t + n) * t_K (ρ 0) + k) ≤ r (t * t_K (ρ 0) + k) + 9 * n
  | 0, t, _ => ⟨Nat.le_refl _, Nat.le_refl _⟩
  | n + 1, t, ht => by
    have ih := n_vert hV hκ h1 hk n t (by omega)
    have he := n_EW2 (ρ := ρ) (t := t + n) (k := k) (by omega) hk
    obtain ⟨a1, a2, a3⟩ := n_at2 (κ := κ) (t := t + n) (ρ := ρ) hk
    obtain ⟨q1, q2, q3⟩ := n_ends hV.1 hκ he
    have hw := n_wt (e := (t + n) * n_W (ρ 0) + (ρ 0 * ρ 0 + k)) hV hκ
    have hb : n_hi ρ κ ((t + n) * n_W (ρ 0) + (ρ 0 * ρ 0 + k)) ≠ n_B ρ := by
      rw [a2]
      unfold n_B
      have : (t + n + 1 + 1) * t_K (ρ 0) ≤ (ρ 1 + 1) * t_K (ρ 0) := Nat.mul_le_mul_right _ (by omega)
      rw [Nat.succ_mul] at this
      omega
    have d1 := h1 _ he (Or.inl hb)
    have d2 := d1.2 hb
    have d1 := d1.1
    rw [a1, a2] at d1 d2
    have e : t + (n + 1) = t + n + 1 := rfl
    rw [e]
    omega
theorem n_hor {ρ : Nat → Nat} {κ T : Nat} {r : Nat → Nat} (hV : p_V ρ) (hκ : κ < 2) (h1 : n_D1 ρ κ T r) {t j : Nat} (ht : t ≤ ρ 1) (hj : j < t_K (ρ 0)) : ∀ n k, k < t_K (ρ 0) → t_hd (ρ 0) κ k j = n → r (t * t_K (ρ 0) + k) ≤ r (t * t_K (ρ 0) + j) + 9 * n := by
  intro n
  induction n with
  | zero =>
    intro k hk hn
    rcases (t_hd_ok hV.1 hκ hk hj).2 with e | ⟨q, hq, h9, h2⟩
    · rw [e]; omega
    · omega
  | succ n ih =>
    intro k hk hn
    rcases (t_hd_ok hV.1 hκ hk hj).2 with e | ⟨q, hq, h9, h2⟩
    · rw [e]; omega
    · have he := n_EW (ρ := ρ) ht hq
      obtain ⟨a1, a2, a3⟩ := n_at1 (κ := κ) (t := t) hq
      rw [if_neg h9] at a2
      have hw := n_wt (e := t * n_W (ρ 0) + q) hV hκ
      have c1 := t_c1_lt hV.1 hκ hq
      have c2 := (t_c2_lt hV.1 hκ hq).resolve_left h9
      have hb : n_hi ρ κ (t * n_W (ρ 0) + q) ≠ n_B ρ := by
        rw [a2]
        unfold n_B
        have : (t + 1) * t_K (ρ 0) ≤ (ρ 1 + 1) * t_K (ρ 0) := Nat.mul_le_mul_right _ (by omega)
        rw [Nat.succ_mul] at this
        omega
      have d1 := h1 _ he (Or.inl hb)
      have d2 := d1.2 hb
      have d1 := d1.1
      rw [a1, a2] at d1 d2
      rcases h2 with ⟨e1, e2⟩ | ⟨e1, e2⟩
      · have := ih (t_c2 (ρ 0) κ q) c2.1 (by omega)
        rw [e1] at d1
        omega
      · have := ih (t_c1 (ρ 0) κ q) c1 (by omega)
        rw [e1] at d2
        omega
/-- every distance is small -/
theorem n_bd {ρ : Nat → Nat} {κ T : Nat} {r : Nat → Nat} (hV : p_V ρ) (hκ : κ < 2) (hT : T ≤ n_B ρ) (h0 : r T = 0) (h1 : n_D1 ρ κ T r) : ∀ s, s < n_B ρ → r s ≤ 120 := by
  intro s hs
  have hK0 : 0 < t_K (ρ 0) := by rcases hV.1 with e | e <;> rw [e] <;> decide
  have h8 := hV.2.1
  have co : ∀ x, x < n_B ρ → x / t_K (ρ 0) ≤ ρ 1 ∧ x % t_K (ρ 0) < t_K (ρ 0) ∧ x / t_K (ρ 0) * t_K (ρ 0) + x % t_K (ρ 0) = x := fun x hx => by
    refine ⟨?_, Nat.mod_lt _ hK0, ?_⟩
    · have : x / t_K (ρ 0) < ρ 1 + 1 := Nat.div_lt_of_lt_mul (by rw [Nat.mul_comm]; exact hx)
      omega
    · rw [Nat.mul_comm]; exact Nat.div_add_mod x _
  obtain ⟨s1, s2, s3⟩ := co s hs
  generalize s / t_K (ρ 0) = t at *
  generalize s % t_K (ρ 0) = k at *
  subst s3
  have vert : ∀ t' k, k < t_K (ρ 0) → t' ≤ ρ 1 → r (t * t_K (ρ 0) + k) ≤ r (t' * t_K (ρ 0) + k) + 72 := fun t' k hk ht' => by
    rcases Nat.le_total t t' with q | q
    · have := (n_vert hV hκ h1 hk (t' - t) t (by omega)).1
      rw [show t + (t' - t) = t' by omega] at this
      omega
    · have := (n_vert hV hκ h1 hk (t - t') t' (by omega)).2
      rw [show t' + (t - t') = t by omega] at this
      omega
  rcases Nat.lt_or_ge T (n_B ρ) with hb | hb
  · obtain ⟨u1, u2, u3⟩ := co T hb
    have a := vert (T / t_K (ρ 0)) k s2 u1
    have b := n_hor hV hκ h1 (t := T / t_K (ρ 0)) u1 u2 _ k s2 rfl
    have c := (t_hd_ok hV.1 hκ s2 u2).1
    rw [u3, h0] at b
    omega
  · have hTB : T = n_B ρ := by omega
    obtain ⟨q, hq, h9⟩ := t_bq hV.1 hκ
    have c1 := t_c1_lt hV.1 hκ hq
    have he := n_EW (ρ := ρ) s1 hq
    obtain ⟨a1, a2, a3⟩ := n_at1 (κ := κ) (t := t) hq
    rw [if_pos h9] at a2
    have hw := n_wt (e := t * n_W (ρ 0) + q) hV hκ
    have d1 := (h1 _ he (Or.inr hTB)).1
    rw [a1, a2, ← hTB, h0] at d1
    have b := n_hor hV hκ h1 s1 c1 _ k s2 rfl
    have c := (t_hd_ok hV.1 hκ s2 c1).1
    omega
theorem n_uni {ρ : Nat → Nat} {κ T : Nat} {r r' : Nat → Nat} (hV : p_V ρ) (hκ : κ < 2) (hT : T ≤ n_B ρ) (h : n_isD ρ κ T r) (h' : n_isD ρ κ T r') : ∀ s, s < n_B ρ → r s = r' s := by
  intro s hs
  have b := n_bd hV hκ hT h.1 h.2.1 s hs
  have b' := n_bd hV hκ hT h'.1 h'.2.1 s hs
  have x := n_le hV hκ (fun s h1 h2 _ => h.2.2 s h1 h2) h'.1 h'.2.1 (r s) s (Or.inl hs) rfl (by omega)
  have y := n_le hV hκ (fun s h1 h2 _ => h'.2.2 s h1 h2) h.1 h.2.1 (r' s) s (Or.inl hs) rfl (by omega)
  omega
/-- the distances to a spot or to the border -/
noncomputable def n_ds (ρ : Nat → Nat) (κ T : Nat) : Nat → Nat := Classical.epsilon (fun r => n_isD ρ κ T r)
theorem n_ds_is {ρ : Nat → Nat} {κ T : Nat} {r : Nat → Nat} (h : n_isD ρ κ T r) : n_isD ρ κ T (n_ds ρ κ T) := Classical.epsilon_spec (p := fun r => n_isD ρ κ T r) ⟨r, h⟩
theorem n_ds_eq {ρ : Nat → Nat} {κ T : Nat} {r : Nat → Nat} (hV : p_V ρ) (hκ : κ < 2) (hT : T ≤ n_B ρ) (h : n_isD ρ κ T r) : ∀ s, s < n_B ρ → r s = n_ds ρ κ T s := n_uni hV hκ hT h (n_ds_is h)
/-- it is enough that what is not far is led on -/
theorem n_isD_of {ρ : Nat → Nat} {κ T : Nat} {r : Nat → Nat} (hV : p_V ρ) (hκ : κ < 2) (hT : T ≤ n_B ρ) (h0 : r T = 0) (h1 : n_D1 ρ κ T r) (h2 : ∀ s, s < n_B ρ → s ≠ T → r s ≤ 120 → n_sup ρ κ T r s) : n_isD ρ κ T r := ⟨h0, h1, fun s hs hn => h2 s hs hn (n_bd hV hκ hT h0 h1 s hs)⟩
