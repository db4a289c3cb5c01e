/-! CLUMPS: labels of spots, joining two, what is odd; growing ends -/
def u_J (lab : Nat → Nat) (a b : Nat) : Nat → Nat := fun v => if lab v = lab a then lab b else lab v
theorem u_J_eq {lab : Nat → Nat} {a b u v : Nat} (h : lab u = lab v) : u_J lab a b u = u_J lab a b v := by unfold u_J; rw [h]
theorem u_J_ab {lab : Nat → Nat} {a b : Nat} : u_J lab a b a = u_J lab a b b := by
  unfold u_J
  rw [if_pos rfl]
  by_cases e : lab b = lab a
  · rw [if_pos e]
  · rw [if_neg e]
theorem u_J_id {lab : Nat → Nat} {a b : Nat} (h : lab a = lab b) : u_J lab a b = lab := by
  funext v
  unfold u_J
  by_cases e : lab v = lab a
  · rw [if_pos e, ← h, e]
  · rw [if_neg e]
theorem u_J_cl {lab : Nat → Nat} {a b : Nat} {X : Nat → Prop} (h : ∀ u v, lab u = lab v → (X u ↔ X v)) (hab : X a ↔ X b) : ∀ u v, u_J lab a b u = u_J lab a b v → (X u ↔ X v) := by
  intro u v e
  unfold u_J at e
  by_cases c1 : lab u = lab a <;> by_cases c2 : lab v = lab a
  · exact h u v (c1.trans c2.symm)
  · rw [if_pos c1, if_neg c2] at e
    exact (h u a c1).trans (hab.trans (h b v e))
  · rw [if_neg c1, if_pos c2] at e
    exact (h u b e).trans (hab.symm.trans (h a v c2.symm))
  · rw [if_neg c1, if_neg c2] at e
    exact h u v e
def u_lb (B : Nat) (lab : Nat → Nat) : Prop := ∀ v, v ≤ B → lab v ≤ B ∧ lab (lab v) = lab v
theorem u_J_lb {B a b : Nat} {lab : Nat → Nat} (h : u_lb B lab) (ha : a ≤ B) (hb : b ≤ B) : u_lb B (u_J lab a b) := fun v hv => by
  unfold u_J
  by_cases c : lab v = lab a
  · rw [if_pos c]
    refine ⟨(h b hb).1, ?_⟩
    rw [(h b hb).2]
    by_cases z : lab b = lab a
    · rw [if_pos z]
    · rw [if_neg z]
  · rw [if_neg c]
    refine ⟨(h v hv).1, ?_⟩
    rw [(h v hv).2, if_neg c]
/-- the parity of events of a label, among the first n spots -/
def u_pr (w lab : Nat → Nat) (x : Nat) : Nat → Nat
  | 0 => 0
  | n + 1 => (u_pr w lab x n + (if lab n = x then w n else 0)) % 2
theorem u_pr_lt {w lab : Nat → Nat} {x : Nat} : ∀ n, u_pr w lab x n < 2
  | 0 => by show 0 < 2; omega
  | n + 1 => Nat.mod_lt _ (by omega)
theorem u_pr_c {w lab lab' : Nat → Nat} {x x' : Nat} : ∀ n, (∀ u, u < n → (lab u = x ↔ lab' u = x')) → u_pr w lab x n = u_pr w lab' x' n
  | 0, _ => rfl
  | n + 1, h => by
    rw [u_pr, u_pr, u_pr_c n (fun u hu => h u (by omega))]
    by_cases c : lab n = x
    · rw [if_pos c, if_pos ((h n (by omega)).mp c)]
    · rw [if_neg c, if_neg (fun z => c ((h n (by omega)).mpr z))]
theorem u_pr_J {w lab : Nat → Nat} {a b : Nat} (h : lab a ≠ lab b) : ∀ n, u_pr w (u_J lab a b) (lab b) n = (u_pr w lab (lab a) n + u_pr w lab (lab b) n) % 2
  | 0 => rfl
  | n + 1 => by
    have ih := u_pr_J (w := w) h n
    rw [u_pr, u_pr, u_pr, ih]
    by_cases c : lab n = lab a
    · have e : u_J lab a b n = lab b := if_pos c
      rw [if_pos e, if_pos c, if_neg (fun z => h (c.symm.trans z))]
      omega
    · have e : u_J lab a b n = lab n := if_neg c
      rw [e, if_neg c]
      omega
theorem u_pr_1 {w lab : Nat → Nat} {x : Nat} : ∀ n, u_pr w lab x n = 1 → ∃ u, u < n ∧ lab u = x ∧ w u % 2 = 1
  | 0, h => by cases h
  | n + 1, h => by
    rw [u_pr] at h
    by_cases c : lab n = x
    · rw [if_pos c] at h
      by_cases z : w n % 2 = 1
      · exact ⟨n, by omega, c, z⟩
      · have := u_pr_lt (w := w) (lab := lab) (x := x) n
        obtain ⟨u, h1, h2⟩ := u_pr_1 n (show u_pr w lab x n = 1 by omega)
        exact ⟨u, by omega, h2⟩
    · rw [if_neg c] at h
      have := u_pr_lt (w := w) (lab := lab) (x := x) n
      obtain ⟨u, h1, h2⟩ := u_pr_1 n (show u_pr w lab x n = 1 by omega)
      exact ⟨u, by omega, h2⟩
/-- whether a spot's clump is open -/
def u_o (ρ : Nat → Nat) (κ : Nat) (lab : Nat → Nat) (v : Nat) : Nat := if lab v = lab (n_B ρ) then 0 else u_pr (n_is ρ κ) lab (lab v) (n_B ρ)
theorem u_o_le {ρ : Nat → Nat} {κ : Nat} {lab : Nat → Nat} {v : Nat} : u_o ρ κ lab v ≤ 1 := by
  unfold u_o
  split
  · omega
  · have := u_pr_lt (w := n_is ρ κ) (lab := lab) (x := lab v) (n_B ρ)
    omega
abbrev u_S : Type := (Nat → Nat) × (Nat → Nat) × (Nat → Nat)
def u_gb (ρ : Nat → Nat) (κ : Nat) (st : u_S) : Nat → Nat := fun e => if st.2.2 e = 0 then st.2.1 e + (u_o ρ κ st.1 (n_lo ρ κ e) + u_o ρ κ st.1 (n_hi ρ κ e)) else st.2.1 e
def u_jw (ρ : Nat → Nat) (κ : Nat) (gb lab wh : Nat → Nat) : Nat → (Nat → Nat) × (Nat → Nat)
  | 0 => (lab, wh)
  | e + 1 => if (u_jw ρ κ gb lab wh e).2 e = 0 ∧ 2 * n_w ρ κ e ≤ gb e then (u_J (u_jw ρ κ gb lab wh e).1 (n_lo ρ κ e) (n_hi ρ κ e), p_up (u_jw ρ κ gb lab wh e).2 e 1) else u_jw ρ κ gb lab wh e
def u_s1 (ρ : Nat → Nat) (κ : Nat) (st : u_S) : u_S := ((u_jw ρ κ (u_gb ρ κ st) st.1 st.2.2 (n_E ρ)).1, u_gb ρ κ st, (u_jw ρ κ (u_gb ρ κ st) st.1 st.2.2 (n_E ρ)).2)
def u_st (ρ : Nat → Nat) (κ : Nat) : Nat → u_S
  | 0 => (fun v => v, fun _ => 0, fun _ => 0)
  | n + 1 => u_s1 ρ κ (u_st ρ κ n)
def u_any (ρ : Nat → Nat) (κ : Nat) (lab : Nat → Nat) : Prop := ∃ v, v < n_B ρ ∧ u_o ρ κ lab v = 1
/-- what a set of edges joins -/
def u_cl (ρ : Nat → Nat) (κ : Nat) (wh : Nat → Nat) (X : Nat → Prop) : Prop := ∀ e, e < n_E ρ → wh e = 1 → (X (n_lo ρ κ e) ↔ X (n_hi ρ κ e))
/-- labels are just what edges join -/
def u_ok (ρ : Nat → Nat) (κ : Nat) (lab wh : Nat → Nat) : Prop := u_lb (n_B ρ) lab ∧ (∀ e, wh e ≤ 1) ∧ (∀ e, e < n_E ρ → wh e = 1 → lab (n_lo ρ κ e) = lab (n_hi ρ κ e)) ∧ ∀ X, u_cl ρ κ wh X → ∀ u v, lab u = lab v → (X u ↔ X v)
theorem u_ok_0 {ρ : Nat → Nat} {κ : Nat} : u_ok ρ κ (fun v => v) (fun _ => 0) := ⟨fun v hv => ⟨hv, rfl⟩, fun _ => Nat.zero_le _, fun e _ h => (by cases h), fun X _ u v h => (by have h : u = v := h; rw [h])⟩
theorem u_ok_J {ρ : Nat → Nat} {κ e : Nat} {lab wh : Nat → Nat} (hV : p_V ρ) (hκ : κ < 2) (h : u_ok ρ κ lab wh) (he : e < n_E ρ) : u_ok ρ κ (u_J lab (n_lo ρ κ e) (n_hi ρ κ e)) (p_up wh e 1) := by
  obtain ⟨q1, q2, q3⟩ := n_ends hV.1 hκ he
  refine ⟨u_J_lb h.1 (by omega) q3, fun e' => ?_, fun e' he' hw => ?_, fun X hX u v hl => ?_⟩
  · by_cases z : e' = e
    · rw [p_ue z]; omega
    · rw [p_un z]; exact h.2.1 e'
  · by_cases z : e' = e
    · rw [z]; exact u_J_ab
    · rw [p_un z] at hw; exact u_J_eq (h.2.2.1 e' he' hw)
  · refine u_J_cl (h.2.2.2 X (fun e' he' hw => hX e' he' ?_)) (hX e he (p_ue rfl)) u v hl
    by_cases z : e' = e
    · exact p_ue z
    · rw [p_un z]; exact hw
theorem u_jw_o {ρ : Nat → Nat} {κ : Nat} {gb lab wh : Nat → Nat} {e' : Nat} : ∀ e, e ≤ e' → (u_jw ρ κ gb lab wh e).2 e' = wh e'
  | 0, _ => rfl
  | e + 1, h => by
    rw [u_jw]
    split
    · show p_up (u_jw ρ κ gb lab wh e).2 e 1 e' = _
      rw [p_un (by omega)]
      exact u_jw_o e (by omega)
    · exact u_jw_o e (by omega)
theorem u_jw_s {ρ : Nat → Nat} {κ : Nat} {gb lab wh : Nat → Nat} {e' : Nat} : ∀ k, (u_jw ρ κ gb lab wh (e' + 1 + k)).2 e' = (u_jw ρ κ gb lab wh (e' + 1)).2 e'
  | 0 => rfl
  | k + 1 => by
    rw [← Nat.add_assoc, u_jw]
    split
    · show p_up (u_jw ρ κ gb lab wh (e' + 1 + k)).2 (e' + 1 + k) 1 e' = _
      rw [p_un (by omega)]
      exact u_jw_s k
    · exact u_jw_s k
theorem u_jw_e {ρ : Nat → Nat} {κ : Nat} {gb lab wh : Nat → Nat} {e' E : Nat} (h : e' < E) : (u_jw ρ κ gb lab wh E).2 e' = if wh e' = 0 ∧ 2 * n_w ρ κ e' ≤ gb e' then 1 else wh e' := by
  obtain ⟨k, rfl⟩ : ∃ k, E = e' + 1 + k := ⟨E - (e' + 1), by omega⟩
  rw [u_jw_s, u_jw, u_jw_o e' (Nat.le_refl _)]
  by_cases c : wh e' = 0 ∧ 2 * n_w ρ κ e' ≤ gb e'
  · rw [if_pos c, if_pos c]
    exact p_ue rfl
  · rw [if_neg c, if_neg c]
    exact u_jw_o e' (Nat.le_refl _)
theorem u_jw_ok {ρ : Nat → Nat} {κ : Nat} {gb lab wh : Nat → Nat} (hV : p_V ρ) (hκ : κ < 2) (h : u_ok ρ κ lab wh) : ∀ e, e ≤ n_E ρ → u_ok ρ κ (u_jw ρ κ gb lab wh e).1 (u_jw ρ κ gb lab wh e).2
  | 0, _ => h
  | e + 1, he => by
    rw [u_jw]
    split
    · exact u_ok_J hV hκ (u_jw_ok hV hκ h e (by omega)) (by omega)
    · exact u_jw_ok hV hκ h e (by omega)
def u_Iv (ρ : Nat → Nat) (κ : Nat) (st : u_S) : Prop := u_ok ρ κ st.1 st.2.2 ∧ ∀ e, e < n_E ρ → (st.2.2 e = 0 → st.2.1 e < 2 * n_w ρ κ e) ∧ st.2.1 e ≤ 19
theorem u_Iv_0 {ρ : Nat → Nat} {κ : Nat} (hV : p_V ρ) (hκ : κ < 2) : u_Iv ρ κ (u_st ρ κ 0) := ⟨u_ok_0, fun e _ => ⟨fun _ => by
  have := n_wt (e := e) hV hκ
  show 0 < _
  omega, Nat.zero_le _⟩⟩
theorem u_gb_le {ρ : Nat → Nat} {κ : Nat} {st : u_S} {e : Nat} : st.2.1 e ≤ u_gb ρ κ st e := by
  unfold u_gb
  split <;> omega
theorem u_Iv_s {ρ : Nat → Nat} {κ : Nat} {st : u_S} (hV : p_V ρ) (hκ : κ < 2) (h : u_Iv ρ κ st) : u_Iv ρ κ (u_s1 ρ κ st) := by
  refine ⟨u_jw_ok hV hκ h.1 (n_E ρ) (Nat.le_refl _), fun e he => ?_⟩
  have hw := n_wt (e := e) hV hκ
  obtain ⟨h1, h2⟩ := h.2 e he
  have ha := u_o_le (ρ := ρ) (κ := κ) (lab := st.1) (v := n_lo ρ κ e)
  have hb := u_o_le (ρ := ρ) (κ := κ) (lab := st.1) (v := n_hi ρ κ e)
  have eg : u_gb ρ κ st e = if st.2.2 e = 0 then st.2.1 e + (u_o ρ κ st.1 (n_lo ρ κ e) + u_o ρ κ st.1 (n_hi ρ κ e)) else st.2.1 e := rfl
  refine ⟨fun z => ?_, ?_⟩
  · have z : (u_jw ρ κ (u_gb ρ κ st) st.1 st.2.2 (n_E ρ)).2 e = 0 := z
    rw [u_jw_e he] at z
    show u_gb ρ κ st e < _
    by_cases c : st.2.2 e = 0 ∧ 2 * n_w ρ κ e ≤ u_gb ρ κ st e
    · rw [if_pos c] at z; cases z
    · rw [if_neg c] at z
      rcases Nat.lt_or_ge (u_gb ρ κ st e) (2 * n_w ρ κ e) with q | q
      · exact q
      · exact absurd ⟨z, q⟩ c
  · show u_gb ρ κ st e ≤ 19
    rw [eg]
    split
    · rename_i c
      have := h1 c
      omega
    · exact h2
theorem u_Iv_n {ρ : Nat → Nat} {κ : Nat} (hV : p_V ρ) (hκ : κ < 2) : ∀ n, u_Iv ρ κ (u_st ρ κ n)
  | 0 => u_Iv_0 hV hκ
  | n + 1 => u_Iv_s hV hκ (u_Iv_n hV hκ n)
/-- from every set of spots without the border an edge leads out -/
theorem n_leave {ρ : Nat → Nat} {κ : Nat} {X : Nat → Prop} (hV : p_V ρ) (hκ : κ < 2) (hB : ¬ X (n_B ρ)) {s : Nat} (hs : s < n_B ρ) (h : X s) : ∃ e, e < n_E ρ ∧ ((X (n_lo ρ κ e) ∧ ¬ X (n_hi ρ κ e)) ∨ (¬ X (n_lo ρ κ e) ∧ X (n_hi ρ κ e))) := by
  obtain ⟨q0, hq0, hc0⟩ := t_bq hV.1 hκ
  have hj := t_c1_lt hV.1 hκ hq0
  have hK0 : 0 < t_K (ρ 0) := by rcases hV.1 with e | e <;> rw [e] <;> decide
  have hW := n_Wlt hV.1
  generalize hjj : t_c1 (ρ 0) κ q0 = j at *
  have key : ∀ n k t, t ≤ ρ 1 → k < t_K (ρ 0) → t_hd (ρ 0) κ k j = n → X (t * t_K (ρ 0) + k) → ∃ e, e < n_E ρ ∧ ((X (n_lo ρ κ e) ∧ ¬ X (n_hi ρ κ e)) ∨ (¬ X (n_lo ρ κ e) ∧ X (n_hi ρ κ e))) := by
    intro n
    induction n using Nat.strongRecOn with
    | ind n ih =>
    intro k t ht hk hn hX
    have hEt : ∀ q, q < ρ 0 * ρ 0 → t * n_W (ρ 0) + q < n_E ρ := fun q hq => by
      unfold n_E
      have := Nat.mul_le_mul_right (n_W (ρ 0)) ht
      omega
    rcases (t_hd_ok hV.1 hκ hk hj).2 with e | ⟨q, hq, hc, ⟨c1, c2⟩ | ⟨c1, c2⟩⟩
    · refine ⟨t * n_W (ρ 0) + q0, hEt q0 hq0, Or.inl ?_⟩
      obtain ⟨a1, a2, -⟩ := n_at1 (ρ := ρ) (κ := κ) (t := t) hq0
      rw [a1, a2, if_pos hc0, hjj, ← e]
      exact ⟨hX, hB⟩
    · obtain ⟨a1, a2, -⟩ := n_at1 (ρ := ρ) (κ := κ) (t := t) hq
      rw [if_neg hc] at a2
      by_cases z : X (n_hi ρ κ (t * n_W (ρ 0) + q))
      · rw [a2] at z
        exact ih _ (by omega) (t_c2 (ρ 0) κ q) t ht ((t_c2_lt hV.1 hκ hq).resolve_left hc).1 rfl z
      · exact ⟨t * n_W (ρ 0) + q, hEt q hq, Or.inl ⟨by rw [a1, c1]; exact hX, z⟩⟩
    · obtain ⟨a1, a2, -⟩ := n_at1 (ρ := ρ) (κ := κ) (t := t) hq
      rw [if_neg hc] at a2
      by_cases z : X (n_lo ρ κ (t * n_W (ρ 0) + q))
      · rw [a1] at z
        exact ih _ (by omega) (t_c1 (ρ 0) κ q) t ht (t_c1_lt hV.1 hκ hq) rfl z
      · exact ⟨t * n_W (ρ 0) + q, hEt q hq, Or.inr ⟨z, by rw [a2, c1]; exact hX⟩⟩
  obtain ⟨s1, s2⟩ := n_sB hV.1 hs
  refine key _ (s % t_K (ρ 0)) (s / t_K (ρ 0)) s1 s2 rfl ?_
  rw [Nat.mul_comm, Nat.div_add_mod]
  exact h
theorem m_sum_le {f g : Nat → Nat} : ∀ n, (∀ e, e < n → f e ≤ g e) → m_sum f n ≤ m_sum g n
  | 0, _ => Nat.le_refl _
  | n + 1, h => by
    have ih := m_sum_le n (fun e he => h e (by omega))
    have := h n (by omega)
    show m_sum f n + f n ≤ m_sum g n + g n
    omega
theorem m_sum_lt {f g : Nat → Nat} {e : Nat} : ∀ n, e < n → (∀ e, e < n → f e ≤ g e) → f e < g e → m_sum f n < m_sum g n
  | 0, h, _, _ => by omega
  | n + 1, h, hl, hs => by
    have h2 := hl n (by omega)
    show m_sum f n + f n < m_sum g n + g n
    by_cases z : e = n
    · subst z
      have := m_sum_le e (fun e' he' => hl e' (by omega))
      omega
    · have := m_sum_lt n (by omega) (fun e' he' => hl e' (by omega)) hs
      omega
theorem m_sum_c {c : Nat} : ∀ n, m_sum (fun _ => c) n = n * c
  | 0 => by rw [Nat.zero_mul]; rfl
  | n + 1 => by
    show m_sum (fun _ => c) n + c = _
    rw [m_sum_c n, Nat.add_mul, Nat.one_mul]
theorem u_more {ρ : Nat → Nat} {κ : Nat} {st : u_S} (hV : p_V ρ) (hκ : κ < 2) (h : u_Iv ρ κ st) (ha : u_any ρ κ st.1) : m_sum st.2.1 (n_E ρ) < m_sum (u_s1 ρ κ st).2.1 (n_E ρ) := by
  obtain ⟨v, hv, ho⟩ := ha
  have hl : ¬ st.1 v = st.1 (n_B ρ) := fun z => by
    unfold u_o at ho
    rw [if_pos z] at ho; cases ho
  obtain ⟨e, he, hx⟩ := n_leave (X := fun u => st.1 u = st.1 v) hV hκ (fun z => hl z.symm) hv rfl
  have hop : ∀ u, st.1 u = st.1 v → u_o ρ κ st.1 u = 1 := fun u hu => by
    unfold u_o at ho ⊢
    rw [hu]; exact ho
  have hw : st.2.2 e = 0 := by
    have h1 := h.1.2.1 e
    rcases (show st.2.2 e = 0 ∨ st.2.2 e = 1 by omega) with z | z
    · exact z
    · have := h.1.2.2.1 e he z
      rcases hx with ⟨x1, x2⟩ | ⟨x1, x2⟩
      · exact absurd (this.symm.trans x1) x2
      · exact absurd (this.trans x2) x1
  refine m_sum_lt (e := e) (n_E ρ) he (fun e' _ => u_gb_le) ?_
  show st.2.1 e < u_gb ρ κ st e
  unfold u_gb
  rw [if_pos hw]
  rcases hx with ⟨x1, -⟩ | ⟨-, x2⟩
  · have := hop _ x1; omega
  · have := hop _ x2; omega
theorem u_ends {ρ : Nat → Nat} {κ : Nat} (hV : p_V ρ) (hκ : κ < 2) : ∃ n, n ≤ 6099 ∧ ¬ u_any ρ κ (u_st ρ κ n).1 ∧ ∀ k, k < n → u_any ρ κ (u_st ρ κ k).1 := by
  have hE := n_E_le hV.1 hV.2.1
  have low : ∀ n, (∀ k, k < n → u_any ρ κ (u_st ρ κ k).1) → n ≤ m_sum (u_st ρ κ n).2.1 (n_E ρ) := by
    intro n
    induction n with
    | zero => intro _; omega
    | succ n ih =>
      intro hk
      have := ih (fun k q => hk k (by omega))
      have h2 := u_more hV hκ (u_Iv_n hV hκ n) (hk n (by omega))
      have e : u_st ρ κ (n + 1) = u_s1 ρ κ (u_st ρ κ n) := rfl
      rw [e]
      omega
  have hi : ∀ n, m_sum (u_st ρ κ n).2.1 (n_E ρ) ≤ 6099 := fun n => by
    have h1 := m_sum_le (g := fun _ => 19) (n_E ρ) (fun e he => ((u_Iv_n hV hκ n).2 e he).2)
    rw [m_sum_c] at h1
    have := Nat.mul_le_mul_right 19 hE
    omega
  have ex : ¬ ∀ k, k < 6100 → u_any ρ κ (u_st ρ κ k).1 := fun hk => by
    have h1 := low 6100 hk
    have h2 := hi 6100
    exact absurd (Nat.le_trans h1 h2) (by decide)
  have ex2 : ∃ k, k < 6100 ∧ ¬ u_any ρ κ (u_st ρ κ k).1 := Classical.byContradiction fun z => ex (fun k hk => Classical.byContradiction fun q => z ⟨k, hk, q⟩)
  obtain ⟨k, hk, hn⟩ := ex2
  obtain ⟨n, h1, h2⟩ := n_min (P := fun n => ¬ u_any ρ κ (u_st ρ κ n).1) k hn
  refine ⟨n, ?_, h1, fun k' hk' => Classical.byContradiction (h2 k' hk')⟩
  rcases Nat.lt_or_ge k n with q | q
  · exact absurd hn (h2 k q)
  · omega
noncomputable def u_N (ρ : Nat → Nat) (κ : Nat) : Nat := Classical.epsilon (fun n => n ≤ 6099 ∧ ¬ u_any ρ κ (u_st ρ κ n).1 ∧ ∀ k, k < n → u_any ρ κ (u_st ρ κ k).1)
theorem u_N_ok {ρ : Nat → Nat} {κ : Nat} (hV : p_V ρ) (hκ : κ < 2) : u_N ρ κ ≤ 6099 ∧ ¬ u_any ρ κ (u_st ρ κ (u_N ρ κ)).1 ∧ ∀ k, k < u_N ρ κ → u_any ρ κ (u_st ρ κ k).1 := Classical.epsilon_spec (p := fun n => n ≤ 6099 ∧ ¬ u_any ρ κ (u_st ρ κ n).1 ∧ ∀ k, k < n → u_any ρ κ (u_st ρ κ k).1) (u_ends hV hκ)
