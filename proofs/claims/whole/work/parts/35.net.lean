/-! THE NET of a row and a kind: edges by their numbers, what lies at a spot, events -/
def n_W (d : Nat) : Nat := d * d + t_K d
def n_E (ρ : Nat → Nat) : Nat := ρ 1 * n_W (ρ 0) + ρ 0 * ρ 0
def n_B (ρ : Nat → Nat) : Nat := (ρ 1 + 1) * t_K (ρ 0)
def n_lo (ρ : Nat → Nat) (κ e : Nat) : Nat := if e % n_W (ρ 0) < ρ 0 * ρ 0 then e / n_W (ρ 0) * t_K (ρ 0) + t_c1 (ρ 0) κ (e % n_W (ρ 0)) else e / n_W (ρ 0) * t_K (ρ 0) + (e % n_W (ρ 0) - ρ 0 * ρ 0)
def n_hi (ρ : Nat → Nat) (κ e : Nat) : Nat := if e % n_W (ρ 0) < ρ 0 * ρ 0 then (if t_c2 (ρ 0) κ (e % n_W (ρ 0)) = 99 then n_B ρ else e / n_W (ρ 0) * t_K (ρ 0) + t_c2 (ρ 0) κ (e % n_W (ρ 0))) else (e / n_W (ρ 0) + 1) * t_K (ρ 0) + (e % n_W (ρ 0) - ρ 0 * ρ 0)
def n_w (ρ : Nat → Nat) (κ e : Nat) : Nat := if e % n_W (ρ 0) < ρ 0 * ρ 0 then ρ (22 + e % n_W (ρ 0)) else ρ (47 + 12 * κ + (e % n_W (ρ 0) - ρ 0 * ρ 0))
/-- qubits of a check -/
def t_qs (d κ k : Nat) : List Nat := (List.range (d * d)).filter (fun q => decide (t_c1 d κ q = k ∨ t_c2 d κ q = k))
/-- edges at a spot, in order -/
def n_nr (ρ : Nat → Nat) (κ s : Nat) : List Nat :=
  (if 0 < s / t_K (ρ 0) then [(s / t_K (ρ 0) - 1) * n_W (ρ 0) + ρ 0 * ρ 0 + s % t_K (ρ 0)] else []) ++
  ((t_qs (ρ 0) κ (s % t_K (ρ 0))).map (fun q => s / t_K (ρ 0) * n_W (ρ 0) + q) ++
  (if s / t_K (ρ 0) < ρ 1 then [s / t_K (ρ 0) * n_W (ρ 0) + ρ 0 * ρ 0 + s % t_K (ρ 0)] else []))
/-- of them those below c -/
def n_ls (ρ : Nat → Nat) (κ s c : Nat) : List Nat := (n_nr ρ κ s).filter (fun e => decide (e < c))
theorem n_dm {W t x : Nat} (h : x < W) : (t * W + x) / W = t ∧ (t * W + x) % W = x := by
  constructor
  · rw [Nat.mul_comm, Nat.mul_add_div (by omega), Nat.div_eq_of_lt h, Nat.add_zero]
  · rw [Nat.mul_comm, Nat.mul_add_mod, Nat.mod_eq_of_lt h]
theorem t_c1_lt {d κ q : Nat} (h35 : d = 3 ∨ d = 5) (hκ : κ < 2) (hq : q < d * d) : t_c1 d κ q < t_K d := by
  rcases h35 with rfl | rfl <;> rcases (show κ = 0 ∨ κ = 1 by omega) with rfl | rfl
  · exact (by decide : ∀ q, q < 9 → t_c1 3 0 q < t_K 3) q hq
  · exact (by decide : ∀ q, q < 9 → t_c1 3 1 q < t_K 3) q hq
  · exact (by decide : ∀ q, q < 25 → t_c1 5 0 q < t_K 5) q hq
  · exact (by decide : ∀ q, q < 25 → t_c1 5 1 q < t_K 5) q hq
theorem t_c2_lt {d κ q : Nat} (h35 : d = 3 ∨ d = 5) (hκ : κ < 2) (hq : q < d * d) : t_c2 d κ q = 99 ∨ (t_c2 d κ q < t_K d ∧ t_c1 d κ q < t_c2 d κ q) := by
  rcases h35 with rfl | rfl <;> rcases (show κ = 0 ∨ κ = 1 by omega) with rfl | rfl
  · exact (by decide : ∀ q, q < 9 → t_c2 3 0 q = 99 ∨ (t_c2 3 0 q < t_K 3 ∧ t_c1 3 0 q < t_c2 3 0 q)) q hq
  · exact (by decide : ∀ q, q < 9 → t_c2 3 1 q = 99 ∨ (t_c2 3 1 q < t_K 3 ∧ t_c1 3 1 q < t_c2 3 1 q)) q hq
  · exact (by decide : ∀ q, q < 25 → t_c2 5 0 q = 99 ∨ (t_c2 5 0 q < t_K 5 ∧ t_c1 5 0 q < t_c2 5 0 q)) q hq
  · exact (by decide : ∀ q, q < 25 → t_c2 5 1 q = 99 ∨ (t_c2 5 1 q < t_K 5 ∧ t_c1 5 1 q < t_c2 5 1 q)) q hq
theorem t_qs_len {d κ k : Nat} (h35 : d = 3 ∨ d = 5) (hκ : κ < 2) (hk : k < t_K d) : (t_qs d κ k).length ≤ 4 := by
  rcases h35 with rfl | rfl <;> rcases (show κ = 0 ∨ κ = 1 by omega) with rfl | rfl
  · exact (by decide : ∀ k, k < 4 → (t_qs 3 0 k).length ≤ 4) k hk
  · exact (by decide : ∀ k, k < 4 → (t_qs 3 1 k).length ≤ 4) k hk
  · exact (by decide +kernel : ∀ k, k < 12 → (t_qs 5 0 k).length ≤ 4) k hk
  · exact (by decide +kernel : ∀ k, k < 12 → (t_qs 5 1 k).length ≤ 4) k hk
theorem n_nr_len {ρ : Nat → Nat} {κ s : Nat} (h35 : ρ 0 = 3 ∨ ρ 0 = 5) (hκ : κ < 2) : (n_nr ρ κ s).length ≤ 6 := by
  have hK : 0 < t_K (ρ 0) := by rcases h35 with e | e <;> rw [e] <;> decide
  have h := t_qs_len (k := s % t_K (ρ 0)) h35 hκ (Nat.mod_lt _ hK)
  unfold n_nr
  rw [List.length_append, List.length_append, List.length_map]
  split <;> split <;> simp <;> omega
/-- where an edge's ends are -/
theorem n_ends {ρ : Nat → Nat} {κ c : Nat} (h35 : ρ 0 = 3 ∨ ρ 0 = 5) (hκ : κ < 2) (hc : c < n_E ρ) : n_lo ρ κ c < n_hi ρ κ c ∧ n_lo ρ κ c < n_B ρ ∧ n_hi ρ κ c ≤ n_B ρ := by
  unfold n_lo n_hi n_B
  unfold n_E at hc
  have hx : c % n_W (ρ 0) < n_W (ρ 0) := Nat.mod_lt _ (by unfold n_W; rcases h35 with e | e <;> rw [e] <;> decide)
  generalize hX : c % n_W (ρ 0) = x at *
  generalize ρ 0 = D at *
  by_cases h : x < D * D
  · have a1 := t_c1_lt h35 hκ h
    have a2 := t_c2_lt h35 hκ h
    rw [if_pos h, if_pos h]
    generalize t_c1 D κ x = c1 at *
    generalize t_c2 D κ x = c2 at *
    rcases h35 with rfl | rfl <;> simp only [n_W, show t_K 3 = 4 from rfl, show t_K 5 = 12 from rfl] at * <;> (split <;> omega)
  · rw [if_neg h, if_neg h]
    rcases h35 with rfl | rfl <;> simp only [n_W, show t_K 3 = 4 from rfl, show t_K 5 = 12 from rfl] at * <;> omega
theorem n_mem {ρ : Nat → Nat} {κ c s : Nat} (h35 : ρ 0 = 3 ∨ ρ 0 = 5) (hκ : κ < 2) (hc : c < n_E ρ) (hs : s < n_B ρ) : c ∈ n_nr ρ κ s ↔ (n_lo ρ κ c = s ∨ n_hi ρ κ c = s) := by
  have hx : c % n_W (ρ 0) < n_W (ρ 0) := Nat.mod_lt _ (by unfold n_W; rcases h35 with e | e <;> rw [e] <;> decide)
  have m1 : c ∈ n_nr ρ κ s ↔ ((0 < s / t_K (ρ 0) ∧ c = (s / t_K (ρ 0) - 1) * n_W (ρ 0) + ρ 0 * ρ 0 + s % t_K (ρ 0)) ∨ (∃ q, q < ρ 0 * ρ 0 ∧ (t_c1 (ρ 0) κ q = s % t_K (ρ 0) ∨ t_c2 (ρ 0) κ q = s % t_K (ρ 0)) ∧ s / t_K (ρ 0) * n_W (ρ 0) + q = c) ∨ (s / t_K (ρ 0) < ρ 1 ∧ c = s / t_K (ρ 0) * n_W (ρ 0) + ρ 0 * ρ 0 + s % t_K (ρ 0))) := by
    unfold n_nr t_qs
    rw [List.mem_append, List.mem_append, List.mem_map]
    refine or_congr ?_ (or_congr ?_ ?_)
    · split <;> simp [*]
    · constructor
      · rintro ⟨q, hq, e⟩
        rw [List.mem_filter, List.mem_range, decide_eq_true_eq] at hq
        exact ⟨q, hq.1, hq.2, e⟩
      · rintro ⟨q, h1, h2, e⟩
        exact ⟨q, by rw [List.mem_filter, List.mem_range, decide_eq_true_eq]; exact ⟨h1, h2⟩, e⟩
    · split <;> simp [*]
  rw [m1]
  unfold n_lo n_hi
  unfold n_E at hc
  unfold n_B at hs ⊢
  generalize hX : c % n_W (ρ 0) = x at *
  clear m1
  generalize ρ 0 = D at *
  by_cases h : x < D * D
  · have a1 := t_c1_lt h35 hκ h
    have a2 := t_c2_lt h35 hκ h
    rw [if_pos h, if_pos h]
    constructor
    · rintro (⟨h1, h2⟩ | ⟨q, h1, h2, h3⟩ | ⟨h1, h2⟩)
      · rcases h35 with rfl | rfl <;> simp only [n_W, show t_K 3 = 4 from rfl, show t_K 5 = 12 from rfl] at * <;> omega
      · have hq : q = x := by rcases h35 with rfl | rfl <;> simp only [n_W, show t_K 3 = 4 from rfl, show t_K 5 = 12 from rfl] at * <;> omega
        subst hq
        generalize t_c1 D κ q = c1 at *
        generalize t_c2 D κ q = c2 at *
        rcases h35 with rfl | rfl <;> simp only [n_W, show t_K 3 = 4 from rfl, show t_K 5 = 12 from rfl] at * <;> (split <;> omega)
      · rcases h35 with rfl | rfl <;> simp only [n_W, show t_K 3 = 4 from rfl, show t_K 5 = 12 from rfl] at * <;> omega
    · intro h1
      refine Or.inr (Or.inl ⟨x, h, ?_⟩)
      generalize t_c1 D κ x = c1 at *
      generalize t_c2 D κ x = c2 at *
      rcases h35 with rfl | rfl <;> simp only [n_W, show t_K 3 = 4 from rfl, show t_K 5 = 12 from rfl] at * <;> (split at h1 <;> omega)
  · rw [if_neg h, if_neg h]
    constructor
    · rintro (⟨h1, h2⟩ | ⟨q, h1, h2, h3⟩ | ⟨h1, h2⟩) <;> rcases h35 with rfl | rfl <;> simp only [n_W, show t_K 3 = 4 from rfl, show t_K 5 = 12 from rfl] at * <;> omega
    · intro h1
      rcases h1 with h1 | h1
      · refine Or.inr (Or.inr ?_)
        rcases h35 with rfl | rfl <;> simp only [n_W, show t_K 3 = 4 from rfl, show t_K 5 = 12 from rfl] at * <;> omega
      · refine Or.inl ?_
        rcases h35 with rfl | rfl <;> simp only [n_W, show t_K 3 = 4 from rfl, show t_K 5 = 12 from rfl] at * <;> omega
theorem n_sorted {ρ : Nat → Nat} {κ s : Nat} (h35 : ρ 0 = 3 ∨ ρ 0 = 5) : (n_nr ρ κ s).Pairwise (· < ·) := by
  have hK : s % t_K (ρ 0) < t_K (ρ 0) := Nat.mod_lt _ (by rcases h35 with e | e <;> rw [e] <;> decide)
  have hq : ∀ q ∈ t_qs (ρ 0) κ (s % t_K (ρ 0)), q < ρ 0 * ρ 0 := fun q h => by
    unfold t_qs at h
    rw [List.mem_filter, List.mem_range] at h
    exact h.1
  have hp : (t_qs (ρ 0) κ (s % t_K (ρ 0))).Pairwise (· < ·) := List.Pairwise.filter _ List.pairwise_lt_range
  unfold n_nr
  generalize s / t_K (ρ 0) = t at *
  generalize s % t_K (ρ 0) = k at *
  refine List.pairwise_append.mpr ⟨by split <;> simp, List.pairwise_append.mpr ⟨?_, by split <;> simp, ?_⟩, ?_⟩
  · exact List.pairwise_map.mpr (hp.imp (fun h => by omega))
  · intro a ha b hb
    obtain ⟨q, h1, rfl⟩ := List.mem_map.mp ha
    have := hq q h1
    split at hb
    · rw [List.mem_singleton] at hb; omega
    · cases hb
  · intro a ha b hb
    split at ha
    next h0 =>
      rw [List.mem_singleton] at ha
      have hm : (t - 1) * n_W (ρ 0) + n_W (ρ 0) = t * n_W (ρ 0) := by
        rw [← Nat.succ_mul]; congr 1; omega
      have hw : n_W (ρ 0) = ρ 0 * ρ 0 + t_K (ρ 0) := rfl
      rcases List.mem_append.mp hb with hb | hb
      · obtain ⟨q, h1, rfl⟩ := List.mem_map.mp hb
        omega
      · split at hb
        · rw [List.mem_singleton] at hb; omega
        · cases hb
    next => cases ha
theorem l_flt (c : Nat) : ∀ l : List Nat, l.Pairwise (· < ·) → l.filter (fun e => decide (e < c + 1)) = l.filter (fun e => decide (e < c)) ++ (if c ∈ l then [c] else [])
  | [], _ => by simp
  | a :: l, h => by
    have h2 := List.pairwise_cons.mp h
    have ih := l_flt c l h2.2
    by_cases h1 : a < c
    · rw [List.filter_cons_of_pos (by simp; omega), List.filter_cons_of_pos (by simpa using h1), ih]
      have : (c ∈ a :: l) ↔ c ∈ l := by
        rw [List.mem_cons]
        constructor
        · rintro (e | e)
          · omega
          · exact e
        · exact Or.inr
      simp only [this, List.cons_append]
    · have hl : ∀ x ∈ l, ¬ x < c + 1 := fun x hx => by have := h2.1 x hx; omega
      have e1 : l.filter (fun e => decide (e < c + 1)) = [] := List.filter_eq_nil_iff.mpr (fun x hx => by simpa using hl x hx)
      have e2 : l.filter (fun e => decide (e < c)) = [] := List.filter_eq_nil_iff.mpr (fun x hx => by have := hl x hx; simp; omega)
      by_cases h3 : a = c
      · subst h3
        rw [List.filter_cons_of_pos (by simp), List.filter_cons_of_neg (by simp), e1, e2]
        simp
      · have : ¬ c ∈ a :: l := by
          rw [List.mem_cons]
          rintro (e | e)
          · exact h3 e.symm
          · exact hl c e (by omega)
        rw [List.filter_cons_of_neg (by simp; omega), List.filter_cons_of_neg (by simp; omega), e1, e2, if_neg this]
        rfl
theorem n_ls_s {ρ : Nat → Nat} {κ s c : Nat} (h35 : ρ 0 = 3 ∨ ρ 0 = 5) (hκ : κ < 2) (hc : c < n_E ρ) (hs : s < n_B ρ) : n_ls ρ κ s (c + 1) = n_ls ρ κ s c ++ (if n_lo ρ κ c = s ∨ n_hi ρ κ c = s then [c] else []) := by
  unfold n_ls
  rw [l_flt c _ (n_sorted h35)]
  simp only [n_mem h35 hκ hc hs]
theorem n_ls_len {ρ : Nat → Nat} {κ s c : Nat} (h35 : ρ 0 = 3 ∨ ρ 0 = 5) (hκ : κ < 2) : (n_ls ρ κ s c).length ≤ 6 := Nat.le_trans (List.length_filter_le _ _) (n_nr_len h35 hκ)
theorem n_B_le {ρ : Nat → Nat} (h35 : ρ 0 = 3 ∨ ρ 0 = 5) (h8 : ρ 1 ≤ 8) : n_B ρ ≤ 108 := by
  unfold n_B
  rcases h35 with e | e <;> rw [e] <;> simp only [show t_K 3 = 4 from rfl, show t_K 5 = 12 from rfl] <;> omega
theorem n_E_le {ρ : Nat → Nat} (h35 : ρ 0 = 3 ∨ ρ 0 = 5) (h8 : ρ 1 ≤ 8) : n_E ρ ≤ 321 := by
  unfold n_E n_W
  rcases h35 with e | e <;> rw [e] <;> simp only [show t_K 3 = 4 from rfl, show t_K 5 = 12 from rfl] <;> omega
/-- the layer ahead -/
def n_pr (ρ : Nat → Nat) (κ t : Nat) : Nat := if t = 0 then 0 else p_la ρ κ (t - 1)
/-- whether an event is at a spot (1, else 0) -/
def n_is (ρ : Nat → Nat) (κ s : Nat) : Nat := (p_la ρ κ (s / t_K (ρ 0)) ^^^ n_pr ρ κ (s / t_K (ρ 0))) / 2 ^ (s % t_K (ρ 0)) % 2
/-- events: spots at which a layer isn't as the one ahead, the first n spots looked at -/
def n_ev (ρ : Nat → Nat) (κ : Nat) : Nat → List Nat
  | 0 => []
  | s + 1 => n_ev ρ κ s ++ (if n_is ρ κ s = 1 then [s] else [])
def n_evs (ρ : Nat → Nat) (κ : Nat) : List Nat := n_ev ρ κ (n_B ρ)
theorem n_ev_lt {ρ : Nat → Nat} {κ : Nat} : ∀ s, (n_ev ρ κ s).length ≤ s ∧ ∀ x ∈ n_ev ρ κ s, x < s
  | 0 => ⟨Nat.le_refl _, fun x h => by cases h⟩
  | s + 1 => by
    have ih := n_ev_lt (ρ := ρ) (κ := κ) s
    rw [n_ev]
    constructor
    · rw [List.length_append]
      split <;> simp <;> omega
    · intro x hx
      rcases List.mem_append.mp hx with h | h
      · have := ih.2 x h; omega
      · split at h
        · rw [List.mem_singleton] at h; omega
        · cases h
