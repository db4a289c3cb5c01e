/-! PEELING: what has been peeled off hangs on one spot left; a leaf's edge is peeled just when its side is odd; the class' peelForest -/
def u_PI (ρ : Nat → Nat) (κ : Nat) (F R h pl : Nat → Nat) : Prop :=
  (∀ e, R e ≤ 1 ∧ (R e = 1 → F e = 1 ∧ e < n_E ρ)) ∧ (∀ u, pl u ≤ 1) ∧ pl (n_B ρ) = 0 ∧ (∀ e, R e = 1 → pl (n_lo ρ κ e) = 0 ∧ pl (n_hi ρ κ e) = 0) ∧
  (∀ u, u ≤ n_B ρ → h u ≤ n_B ρ ∧ pl (h u) = 0 ∧ (pl u = 0 → h u = u)) ∧ (∀ e, e < n_E ρ → F e = 1 → R e = 0 → h (n_lo ρ κ e) = h (n_hi ρ κ e)) ∧
  ∀ u, u ≤ n_B ρ → ∀ X : Nat → Prop, (∀ e, e < n_E ρ → F e = 1 → R e = 0 → (X (n_lo ρ κ e) ↔ X (n_hi ρ κ e))) → (X (h u) ↔ X u)
def u_lf (ρ : Nat → Nat) (κ : Nat) (R : Nat → Nat) (l e : Nat) : Prop := R e = 1 ∧ (n_lo ρ κ e = l ∨ n_hi ρ κ e = l) ∧ ∀ e', R e' = 1 → (n_lo ρ κ e' = l ∨ n_hi ρ κ e' = l) → e' = e
section PE
variable {ρ : Nat → Nat} {κ : Nat} {F R h pl : Nat → Nat} {l e : Nat}
theorem u_lf_o (hV : p_V ρ) (hκ : κ < 2) (hP : u_PI ρ κ F R h pl) (hf : u_lf ρ κ R l e) : e < n_E ρ ∧ F e = 1 ∧ l ≤ n_B ρ ∧ n_oth ρ κ e l ≤ n_B ρ ∧ n_oth ρ κ e l ≠ l ∧ pl l = 0 ∧ pl (n_oth ρ κ e l) = 0 ∧ h l = l ∧ h (n_oth ρ κ e l) = n_oth ρ κ e l ∧ ((n_lo ρ κ e = l ∧ n_hi ρ κ e = n_oth ρ κ e l) ∨ (n_hi ρ κ e = l ∧ n_lo ρ κ e = n_oth ρ κ e l)) := by
  obtain ⟨p1, p2, p3, p4, p5, p6, p7⟩ := hP
  obtain ⟨f1, f2, f3⟩ := hf
  obtain ⟨g1, g2⟩ := (p1 e).2 f1
  obtain ⟨q1, q2, q3⟩ := n_ends hV.1 hκ g2
  obtain ⟨a1, a2⟩ := p4 e f1
  have hc : (n_lo ρ κ e = l ∧ n_hi ρ κ e = n_oth ρ κ e l) ∨ (n_hi ρ κ e = l ∧ n_lo ρ κ e = n_oth ρ κ e l) := by
    unfold n_oth
    by_cases c : n_lo ρ κ e = l
    · exact Or.inl ⟨c, by rw [if_pos c]⟩
    · exact Or.inr ⟨f2.resolve_left c, by rw [if_neg c]⟩
  have hl : l ≤ n_B ρ ∧ pl l = 0 := by
    rcases f2 with z | z <;> rw [← z]
    · exact ⟨by omega, a1⟩
    · exact ⟨q3, a2⟩
  have ho : n_oth ρ κ e l ≤ n_B ρ ∧ n_oth ρ κ e l ≠ l ∧ pl (n_oth ρ κ e l) = 0 := by
    rcases hc with ⟨z1, z2⟩ | ⟨z1, z2⟩ <;> rw [← z2]
    · exact ⟨q3, by omega, a2⟩
    · exact ⟨by omega, by omega, a1⟩
  exact ⟨g2, g1, hl.1, ho.1, ho.2.1, hl.2, ho.2.2, (p5 l hl.1).2.2 hl.2, (p5 _ ho.1).2.2 ho.2.2, hc⟩
theorem u_PI_s (hV : p_V ρ) (hκ : κ < 2) (hP : u_PI ρ κ F R h pl) (hlB : l < n_B ρ) (hf : u_lf ρ κ R l e) : u_PI ρ κ F (p_up R e 0) (u_J h l (n_oth ρ κ e l)) (p_up pl l 1) := by
  obtain ⟨o1, o2, o3, o4, o5, o6, o7, o8, o9, o10⟩ := u_lf_o hV hκ hP hf
  obtain ⟨p1, p2, p3, p4, p5, p6, p7⟩ := hP
  obtain ⟨f1, f2, f3⟩ := hf
  have eJ : ∀ u, u_J h l (n_oth ρ κ e l) u = if h u = l then n_oth ρ κ e l else h u := fun u => by unfold u_J; rw [o8, o9]
  refine ⟨fun e' => ?_, fun u => ?_, ?_, fun e' he' => ?_, fun u hu => ?_, fun e' he' hF hR => ?_, fun u hu X hX => ?_⟩
  · by_cases z : e' = e
    · rw [p_ue z]; exact ⟨by omega, fun q => by omega⟩
    · rw [p_un z]; exact p1 e'
  · by_cases z : u = l
    · rw [p_ue z]; omega
    · rw [p_un z]; exact p2 u
  · rw [p_un (by omega)]; exact p3
  · by_cases z : e' = e
    · rw [p_ue z] at he'; omega
    · rw [p_un z] at he'
      have n1 : n_lo ρ κ e' ≠ l := fun q => z (f3 e' he' (Or.inl q))
      have n2 : n_hi ρ κ e' ≠ l := fun q => z (f3 e' he' (Or.inr q))
      rw [p_un n1, p_un n2]; exact p4 e' he'
  · obtain ⟨a1, a2, a3⟩ := p5 u hu
    rw [eJ]
    by_cases c : h u = l
    · rw [if_pos c, p_un o5]
      refine ⟨o4, o7, fun z => ?_⟩
      by_cases y : u = l
      · rw [p_ue y] at z; omega
      · rw [p_un y] at z
        exact absurd ((a3 z).symm.trans c) y
    · rw [if_neg c, p_un c]
      refine ⟨a1, a2, fun z => a3 ?_⟩
      by_cases y : u = l
      · rw [p_ue y] at z; omega
      · rw [p_un y] at z; exact z
  · by_cases z : e' = e
    · rw [z]
      rcases o10 with ⟨z1, z2⟩ | ⟨z1, z2⟩
      · rw [z1, z2]; exact u_J_ab
      · rw [z1, z2]; exact u_J_ab.symm
    · rw [p_un z] at hR
      exact u_J_eq (p6 e' he' hF hR)
  · have hX0 : ∀ e', e' < n_E ρ → F e' = 1 → R e' = 0 → (X (n_lo ρ κ e') ↔ X (n_hi ρ κ e')) := fun e' he' hF hR => hX e' he' hF (by
      by_cases z : e' = e
      · rw [p_ue z]
      · rw [p_un z]; exact hR)
    have hXe : X l ↔ X (n_oth ρ κ e l) := by
      have := hX e o1 o2 (p_ue rfl)
      rcases o10 with ⟨z1, z2⟩ | ⟨z1, z2⟩
      · rw [z1, z2] at this; exact this
      · rw [z1, z2] at this; exact this.symm
    have h7 := p7 u hu X hX0
    rw [eJ]
    by_cases c : h u = l
    · rw [if_pos c, ← hXe, ← c]; exact h7
    · rw [if_neg c]; exact h7
/-- at a leaf: the edges behind it never leave what hangs on it -/
theorem u_lf_c (hV : p_V ρ) (hκ : κ < 2) (hP : u_PI ρ κ F R h pl) (hf : u_lf ρ κ R l e) : ∀ e', e' < n_E ρ → F e' = 1 → e' ≠ e → (h (n_lo ρ κ e') = l ↔ h (n_hi ρ κ e') = l) := by
  obtain ⟨p1, p2, p3, p4, p5, p6, p7⟩ := hP
  obtain ⟨f1, f2, f3⟩ := hf
  intro e' he' hF hne
  obtain ⟨q1, q2, q3⟩ := n_ends hV.1 hκ he'
  have := (p1 e').1
  rcases (show R e' = 0 ∨ R e' = 1 by omega) with z | z
  · rw [p6 e' he' hF z]
  · obtain ⟨a1, a2⟩ := p4 e' z
    rw [(p5 _ (show n_lo ρ κ e' ≤ n_B ρ by omega)).2.2 a1, (p5 _ q3).2.2 a2]
    exact ⟨fun q => absurd (f3 e' z (Or.inl q)) hne, fun q => absurd (f3 e' z (Or.inr q)) hne⟩
theorem u_rc_h (hV : p_V ρ) (hκ : κ < 2) (hP : u_PI ρ κ F R h pl) (hf : u_lf ρ κ R l e) {u : Nat} (hu : u ≤ n_B ρ) : u_rc ρ κ F e l u ↔ h u = l := by
  have o := u_lf_o hV hκ hP hf
  refine ⟨fun hr => hr (fun u => h u = l) o.2.2.2.2.2.2.2.1 (u_lf_c hV hκ hP hf), fun hl X hX hc => ?_⟩
  have := hP.2.2.2.2.2.2 u hu X (fun e' he' hF hR => hc e' he' hF (fun z => by rw [z, hf.1] at hR; cases hR))
  rw [hl] at this
  exact this.mp hX
theorem u_rc_n (hV : p_V ρ) (hκ : κ < 2) (hP : u_PI ρ κ F R h pl) (hf : u_lf ρ κ R l e) {u : Nat} (hr : u_rc ρ κ F e (n_oth ρ κ e l) u) : h u ≠ l := by
  have o := u_lf_o hV hκ hP hf
  refine hr (fun u => h u ≠ l) (by show h (n_oth ρ κ e l) ≠ l; rw [o.2.2.2.2.2.2.2.2.1]; exact o.2.2.2.2.1) (fun e' he' hF hne => ?_)
  have := u_lf_c hV hκ hP hf e' he' hF hne
  exact ⟨fun a b => a (this.mpr b), fun a b => a (this.mp b)⟩
theorem u_pr_or {w lab f g : Nat → Nat} {x : Nat} : ∀ n, (∀ u, u < n → (lab u = x ↔ (f u = 1 ∨ g u = 1))) → (∀ u, u < n → ¬ (f u = 1 ∧ g u = 1)) → u_pr w lab x n = (u_pr w f 1 n + u_pr w g 1 n) % 2
  | 0, _, _ => rfl
  | n + 1, h1, h2 => by
    have ih := u_pr_or (w := w) n (fun u hu => h1 u (by omega)) (fun u hu => h2 u (by omega))
    have a1 := h1 n (by omega)
    have a2 := h2 n (by omega)
    rw [u_pr, u_pr, u_pr, ih]
    by_cases c1 : f n = 1
    · have c2 : ¬ g n = 1 := fun z => a2 ⟨c1, z⟩
      rw [if_pos (a1.mpr (Or.inl c1)), if_pos c1, if_neg c2]; omega
    · by_cases c2 : g n = 1
      · rw [if_pos (a1.mpr (Or.inr c2)), if_neg c1, if_pos c2]; omega
      · rw [if_neg (fun z => (a1.mp z).elim c1 c2), if_neg c1, if_neg c2]; omega
theorem u_peel {wh lab : Nat → Nat} (hV : p_V ρ) (hκ : κ < 2) (hw1 : ∀ e, wh e ≤ 1) (hG : u_ok ρ κ lab wh) (hA : ¬ u_any ρ κ lab) (hF : F = (u_fs ρ κ wh (n_E ρ)).2) (hP : u_PI ρ κ F R h pl) (hlB : l < n_B ρ) (hf : u_lf ρ κ R l e) : u_PP ρ κ F e = u_pr (n_is ρ κ) h l (n_B ρ) := by
  obtain ⟨o1, o2, o3, o4, o5, o6, o7, o8, o9, o10⟩ := u_lf_o hV hκ hP hf
  have hB : ¬ h (n_B ρ) = l := fun z => by
    rw [(hP.2.2.2.2.1 _ (Nat.le_refl _)).2.2 hP.2.2.1] at z; omega
  have fin : (∀ u, u < n_B ρ → (u_sd ρ κ F e u ↔ u_rc ρ κ F e l u)) → u_PP ρ κ F e = u_pr (n_is ρ κ) h l (n_B ρ) := fun hs => by
    unfold u_PP
    refine u_pr_c _ (fun u hu => ?_)
    rw [u_i_e, hs u hu]
    exact u_rc_h hV hκ hP hf (by omega)
  rcases o10 with ⟨z1, z2⟩ | ⟨z1, z2⟩
  · refine fin (fun u _ => ?_)
    have hn : ¬ u_rc ρ κ F e (n_lo ρ κ e) (n_B ρ) := fun q => by
      rw [z1] at q
      exact hB ((u_rc_h hV hκ hP hf (Nat.le_refl _)).mp q)
    unfold u_sd
    rw [z1] at hn ⊢
    exact ⟨fun q => q.2 hn, fun q => ⟨fun w => absurd w hn, fun _ => q⟩⟩
  · by_cases hc : u_rc ρ κ F e (n_lo ρ κ e) (n_B ρ)
    · refine fin (fun u _ => ?_)
      unfold u_sd
      rw [z1]
      exact ⟨fun q => q.1 hc, fun q => ⟨fun _ => q, fun w => absurd hc w⟩⟩
    · -- neither side has the border: all of it is even
      have hFw : ∀ e', e' < n_E ρ → F e' = 1 → wh e' = 1 := fun e' he' q => by
        rw [hF, u_fs_e he'] at q
        exact (Classical.byContradiction (fun z => by rw [if_neg z] at q; cases q) : wh e' = 1 ∧ (u_fs ρ κ wh e').1 (n_lo ρ κ e') ≠ (u_fs ρ κ wh e').1 (n_hi ρ κ e')).1
      have hlab : lab (n_lo ρ κ e) = lab l := by rw [hG.2.2.1 e o1 (hFw e o1 o2), z1]
      have ha : ∀ u, (u_rc ρ κ F e (n_lo ρ κ e) u ∨ u_rc ρ κ F e l u) → lab u = lab l := fun u q => by
        have cl : ∀ e', e' < n_E ρ → F e' = 1 → e' ≠ e → (lab (n_lo ρ κ e') = lab l ↔ lab (n_hi ρ κ e') = lab l) := fun e' he' hF' _ => by rw [hG.2.2.1 e' he' (hFw e' he' hF')]
        rcases q with q | q
        · exact q (fun u => lab u = lab l) hlab cl
        · exact q (fun u => lab u = lab l) rfl cl
      have hb : ∀ u, lab u = lab l → (u_rc ρ κ F e (n_lo ρ κ e) u ∨ u_rc ρ κ F e l u) := fun u q => by
        have clF : u_cl ρ κ F (fun u => u_rc ρ κ F e (n_lo ρ κ e) u ∨ u_rc ρ κ F e l u) := fun e' he' hF' => by
          by_cases z : e' = e
          · rw [z, z1]
            exact ⟨fun _ => Or.inr (fun X hX _ => hX), fun _ => Or.inl (fun X hX _ => hX)⟩
          · exact ⟨fun w => w.imp (fun w X hX hc => (hc e' he' hF' z).mp (w X hX hc)) (fun w X hX hc => (hc e' he' hF' z).mp (w X hX hc)), fun w => w.imp (fun w X hX hc => (hc e' he' hF' z).mpr (w X hX hc)) (fun w X hX hc => (hc e' he' hF' z).mpr (w X hX hc))⟩
        have okF := u_fs_ok (wh := wh) hV hκ (n_E ρ) (Nat.le_refl _)
        have clW : u_cl ρ κ wh (fun u => u_rc ρ κ F e (n_lo ρ κ e) u ∨ u_rc ρ κ F e l u) := fun e' he' hw' => okF.2.2.2 _ (by rw [← hF]; exact clF) _ _ (u_fs_w he' hw')
        exact (hG.2.2.2 _ clW u l q).mpr (Or.inr (fun X hX _ => hX))
      have hne : lab l ≠ lab (n_B ρ) := fun q => by
        rcases hb (n_B ρ) q.symm with w | w
        · exact hc w
        · exact hB ((u_rc_h hV hκ hP hf (Nat.le_refl _)).mp w)
      have h0 : u_pr (n_is ρ κ) lab (lab l) (n_B ρ) = 0 := by
        have h1 : ¬ u_o ρ κ lab l = 1 := fun q => hA ⟨l, hlB, q⟩
        unfold u_o at h1
        rw [if_neg hne] at h1
        have := u_pr_lt (w := n_is ρ κ) (lab := lab) (x := lab l) (n_B ρ)
        omega
      have hor := u_pr_or (w := n_is ρ κ) (lab := lab) (f := fun u => u_i (u_rc ρ κ F e (n_lo ρ κ e) u)) (g := fun u => u_i (u_rc ρ κ F e l u)) (x := lab l) (n_B ρ) (fun u _ => by rw [u_i_e, u_i_e]; exact ⟨hb u, ha u⟩) (fun u hu => by
        rw [u_i_e, u_i_e]
        rintro ⟨w1, w2⟩
        rw [z2] at w1
        exact u_rc_n hV hκ hP hf w1 ((u_rc_h hV hκ hP hf (by omega)).mp w2))
      have e1 : u_PP ρ κ F e = u_pr (n_is ρ κ) (fun u => u_i (u_rc ρ κ F e (n_lo ρ κ e) u)) 1 (n_B ρ) := by
        unfold u_PP
        refine u_pr_c _ (fun u _ => ?_)
        rw [u_i_e, u_i_e]
        unfold u_sd
        exact ⟨fun q => q.2 hc, fun q => ⟨fun w => absurd w hc, fun _ => q⟩⟩
      have e2 : u_pr (n_is ρ κ) (fun u => u_i (u_rc ρ κ F e l u)) 1 (n_B ρ) = u_pr (n_is ρ κ) h l (n_B ρ) := u_pr_c _ (fun u hu => by rw [u_i_e]; exact u_rc_h hV hκ hP hf (by omega))
      rw [h0, ← e1, e2] at hor
      have := u_PP_lt (ρ := ρ) (κ := κ) (F := F) (e := e)
      have := u_pr_lt (w := n_is ρ κ) (lab := h) (x := l) (n_B ρ)
      omega
/-- what is told of the edges that are off -/
noncomputable def u_cf (ρ : Nat → Nat) (κ : Nat) (F R : Nat → Nat) (e : Nat) : Nat := if F e = 1 ∧ R e = 0 then u_PP ρ κ F e else 0
theorem u_cf_le {e : Nat} : u_cf ρ κ F R e ≤ 1 := by
  unfold u_cf
  split
  · have := u_PP_lt (ρ := ρ) (κ := κ) (F := F) (e := e); omega
  · omega
theorem u_cf_p (h1 : F e = 1) (h2 : R e = 1) : u_cf ρ κ F (p_up R e 0) = p_up (u_cf ρ κ F R) e (u_PP ρ κ F e) ∧ u_cf ρ κ F R e = 0 := by
  refine ⟨funext fun e' => ?_, ?_⟩
  · by_cases z : e' = e
    · rw [p_ue z]
      unfold u_cf
      rw [z, if_pos ⟨h1, p_ue rfl⟩]
    · rw [p_un z]
      unfold u_cf
      rw [p_un z]
  · unfold u_cf
    rw [if_neg (fun z => by have := z.2; omega)]
def g_P (ρ : Nat → Nat) (κ : Nat) (F : Nat → Nat) (v : z_Dat) (R h pl : Nat → Nat) : Prop := (∀ y, y ≤ n_B ρ → v 193 y = nI (u_dg ρ κ R y)) ∧ (∀ y, y ≤ n_B ρ → pl y = 0 → v 194 y = nI (u_xr ρ κ R y) ∧ v 191 y = nI (u_pr (n_is ρ κ) h y (n_B ρ))) ∧ (∀ e, e < n_E ρ → v 187 e = nI (u_cf ρ κ F R e)) ∧ v 186 3 = nI (m_sum (u_cf ρ κ F R) (n_E ρ)) ∧ v 186 4 = nI (m_sum (fun e => u_cf ρ κ F R e * n_w ρ κ e) (n_E ρ))
end PE
section PF
variable {G : z_G} {d : Nat} {S : z_Shp} {v v0 : z_Dat} {Q : Option Value → z_Shp → z_Dat → Prop} {ρ : Nat → Nat} {κ : Nat} {F R h pl : Nat → Nat} {l : Nat}
/-- one branch only: then it is the leaf's edge -/
theorem u_dg_1 (hP : u_PI ρ κ F R h pl) (hd : u_dg ρ κ R l = 1) : u_lf ρ κ R l (u_xr ρ κ R l) := by
  obtain ⟨e, e1, e2, e3, e4⟩ := m_sum_1 _ hd
  have e4 : u_xr ρ κ R l = e := e4
  rw [e4]
  have hR : ∀ e', R e' * u_at ρ κ e' l = 1 ↔ (R e' = 1 ∧ (n_lo ρ κ e' = l ∨ n_hi ρ κ e' = l)) := fun e' => by
    rw [← u_at_1]
    have a1 := (hP.1 e').1
    have a2 := u_at_le (ρ := ρ) (κ := κ) (e := e') (y := l)
    rcases (show R e' = 0 ∨ R e' = 1 by omega) with z | z <;> rw [z]
    · rw [Nat.zero_mul]; omega
    · rw [Nat.one_mul]; omega
  have f := (hR e).mp e2
  refine ⟨f.1, f.2, fun e' r' i' => Classical.byContradiction fun hne => ?_⟩
  have h1 := (hR e').mpr ⟨r', i'⟩
  have h2 : R e' * u_at ρ κ e' l = 0 := e3 e' ((hP.1 e').2 r').2 hne
  omega
theorem sp_X1_peelLeaf {wh lab : Nat → Nat} (hd : 1 ≤ d) (hL : z_L S) (hV : p_V ρ) (hκ : κ < 2) (hR : c_R ρ κ v) (hw1 : ∀ e, wh e ≤ 1) (hG : u_ok ρ κ lab wh) (hA : ¬ u_any ρ κ lab) (hF : F = (u_fs ρ κ wh (n_E ρ)).2) (hP : u_PI ρ κ F R h pl) (hC : g_P ρ κ F v R h pl) (hlB : l < n_B ρ) (hdg : u_dg ρ κ R l = 1)
    (hq : ∀ v1 e, u_lf ρ κ R l e → g_P ρ κ F v1 (p_up R e 0) (u_J h l (n_oth ρ κ e l)) (p_up pl l 1) → (∀ b, b ≠ 186 → b ≠ 187 → b ≠ 191 → b ≠ 193 → b ≠ 194 → v1 b = v b) → (∀ j, j ≠ 3 → j ≠ 4 → v1 186 j = v 186 j) → Q (some (.int (nI (n_oth ρ κ e l)))) S v1) : z_J G d mX1_peelLeaf (0, [.ref 186, .ref 149, .int (nI l), .null, .null], [], S, v) Q := by
  have hBn := n_B_le hV.1 hV.2.1
  have hE := n_E_le hV.1 hV.2.1
  obtain ⟨d, rfl⟩ : ∃ e, d = e + 1 := ⟨d - 1, by omega⟩
  have hf := u_dg_1 hP hdg
  have hPP := u_peel hV hκ hw1 hG hA hF hP hlB hf
  obtain ⟨o1, o2, o3, o4, o5, o6, o7, o8, o9, o10⟩ := u_lf_o hV hκ hP hf
  obtain ⟨c1, c2, c3, c4, c5⟩ := hC
  obtain ⟨cl1, cl2⟩ := c2 l o3 o6
  obtain ⟨r1, r2, r3⟩ := hR.2.1 _ o1
  have hqq := fun v1 => hq v1 _ hf
  generalize he : u_xr ρ κ R l = e at *
  obtain ⟨u1, u2⟩ := u_cf_p (ρ := ρ) (κ := κ) o2 hf.1
  have hPl := u_PP_lt (ρ := ρ) (κ := κ) (F := F) (e := e)
  have hw := n_wt (e := e) hV hκ
  have hne : h l ≠ h (n_oth ρ κ e l) := by rw [o8, o9]; exact fun z => o5 z.symm
  have eNX : (if v 150 e = nI l then v 151 e else v 150 e) = nI (n_oth ρ κ e l) := by
    rw [r1, r2]
    obtain ⟨q1, q2, q3⟩ := n_ends hV.1 hκ o1
    unfold n_oth
    by_cases c : n_lo ρ κ e = l
    · rw [if_pos (by rw [c]), if_pos c]
    · rw [if_neg (fun z => c ((nI_eq (by omega) (by omega)).mp z)), if_neg c]
  have hil : vp_in (nI l) 109 := vp_in_nI (by omega) (by omega)
  have hie : vp_in (nI e) 321 := vp_in_nI (by omega) (by omega)
  have hin : vp_in (nI (n_oth ρ κ e l)) 109 := vp_in_nI (by omega) (by omega)
  refine sg_X1_peelLeaf_0 hL ?_
  rw [nI_clamp (n := l) (by omega), cl1, nI_clamp (n := e) (by omega), eNX, nI_clamp (n := n_oth ρ κ e l) (by omega)]
  generalize hn : n_oth ρ κ e l = n at *
  have an : u_at ρ κ e n = 1 := u_at_1.mpr (by rcases o10 with ⟨_, z⟩ | ⟨_, z⟩; exact Or.inr z; exact Or.inl z)
  have al : u_at ρ κ e l = 1 := u_at_1.mpr hf.2.1
  have ao : ∀ y, y ≠ l → y ≠ n → u_at ρ κ e y = 0 := fun y y1 y2 => by
    have h1 := u_at_le (ρ := ρ) (κ := κ) (e := e) (y := y)
    have h2 : ¬ u_at ρ κ e y = 1 := fun q => by
      rcases u_at_1.mp q with q | q <;> rcases o10 with ⟨z1, z2⟩ | ⟨z1, z2⟩
      · exact y1 (q.symm.trans z1)
      · exact y2 (q.symm.trans z2)
      · exact y2 (q.symm.trans z2)
      · exact y1 (q.symm.trans z1)
    omega
  have dgp : ∀ y, u_dg ρ κ (p_up R e 0) y + u_at ρ κ e y = u_dg ρ κ R y := fun y => by
    have := u_dg_p (ρ := ρ) (κ := κ) (R := R) (e := e) (x := 0) (y := y) o1
    rw [hf.1, Nat.one_mul, Nat.zero_mul, Nat.add_zero] at this
    exact this
  have xrp : ∀ y, u_xr ρ κ (p_up R e 0) y = if u_at ρ κ e y = 1 then u_xr ρ κ R y ^^^ e else u_xr ρ κ R y := fun y => u_xr_p o1 (Or.inl ⟨hf.1, rfl⟩)
  have prn : u_pr (n_is ρ κ) (u_J h l n) n (n_B ρ) = (u_PP ρ κ F e + u_pr (n_is ρ κ) h n (n_B ρ)) % 2 := by
    have := u_pr_J (w := n_is ρ κ) hne (n_B ρ)
    rw [o8, o9] at this
    rw [this, hPP]
  have pro : ∀ y, y ≠ l → y ≠ n → u_pr (n_is ρ κ) (u_J h l n) y (n_B ρ) = u_pr (n_is ρ κ) h y (n_B ρ) := fun y y1 y2 => u_pr_c _ (fun u _ => by
    have eJ : u_J h l n u = if h u = l then n else h u := by unfold u_J; rw [o8, o9]
    rw [eJ]
    by_cases c : h u = l
    · rw [if_pos c, c]; exact ⟨fun q => absurd q.symm y2, fun q => absurd q.symm y1⟩
    · rw [if_neg c])
  have hpn := u_pr_lt (w := n_is ρ κ) (lab := h) (x := n) (n_B ρ)
  obtain ⟨cn1, cn2⟩ := c2 n o4 o7
  -- the sums
  have m3 : m_sum (u_cf ρ κ F (p_up R e 0)) (n_E ρ) = m_sum (u_cf ρ κ F R) (n_E ρ) + u_PP ρ κ F e := by
    have := m_sum_p (f := u_cf ρ κ F R) (e := e) (x := u_PP ρ κ F e) (n_E ρ) o1
    rw [u1]; omega
  have m4 : m_sum (fun e' => u_cf ρ κ F (p_up R e 0) e' * n_w ρ κ e') (n_E ρ) = m_sum (fun e' => u_cf ρ κ F R e' * n_w ρ κ e') (n_E ρ) + u_PP ρ κ F e * n_w ρ κ e := by
    have := m_sum_p (f := fun e' => u_cf ρ κ F R e' * n_w ρ κ e') (e := e) (x := u_PP ρ κ F e * n_w ρ κ e) (n_E ρ) o1
    have ef : (fun e' => u_cf ρ κ F (p_up R e 0) e' * n_w ρ κ e') = p_up (fun e' => u_cf ρ κ F R e' * n_w ρ κ e') e (u_PP ρ κ F e * n_w ρ κ e) := funext fun e' => by
      rw [u1]
      by_cases z : e' = e
      · rw [p_ue z, p_ue z, z]
      · rw [p_un z, p_un z]
    rw [ef]
    have hz : u_cf ρ κ F R e * n_w ρ κ e = 0 := by rw [u2, Nat.zero_mul]
    omega
  have fin : ∀ v7 : z_Dat, (∀ y, v7 193 y = if y = n then v 193 n - 1 else if y = l then 0 else v 193 y) → (∀ y, v7 194 y = if y = n then nI (u_xr ρ κ R n ^^^ e) else v 194 y) → v7 191 n = nI ((u_PP ρ κ F e + u_pr (n_is ρ κ) h n (n_B ρ)) % 2) → (∀ y, y ≠ n → v7 191 y = v 191 y) → (∀ e', v7 187 e' = if e' = e then nI (u_PP ρ κ F e) else v 187 e') → v7 186 3 = v 186 3 + nI (u_PP ρ κ F e) → v7 186 4 = v 186 4 + nI (u_PP ρ κ F e * n_w ρ κ e) → g_P ρ κ F v7 (p_up R e 0) (u_J h l n) (p_up pl l 1) := by
    intro v7 w1 w2 w3 w4 w5 w6 w7
    refine ⟨fun y hy => ?_, fun y hy hpl => ?_, fun e' he' => ?_, ?_, ?_⟩
    · have dy := dgp y
      rw [w1]
      by_cases z1 : y = n
      · rw [if_pos z1, c1 n o4]
        rw [z1] at dy ⊢
        rw [an] at dy
        obtain ⟨q, hq⟩ : ∃ q, u_dg ρ κ R n = q + 1 := ⟨u_dg ρ κ R n - 1, by omega⟩
        rw [hq, nI_pred]
        congr 1; omega
      · rw [if_neg z1]
        by_cases z2 : y = l
        · rw [if_pos z2]
          rw [z2] at dy ⊢
          rw [al, hdg] at dy
          rw [show u_dg ρ κ (p_up R e 0) l = 0 by omega]; rfl
        · rw [if_neg z2, c1 y hy]
          rw [ao y z2 z1] at dy
          congr 1; omega
    · have z2 : y ≠ l := fun z => by rw [p_ue z] at hpl; omega
      rw [p_un z2] at hpl
      obtain ⟨d1, d2⟩ := c2 y hy hpl
      rw [w2, xrp]
      by_cases z1 : y = n
      · rw [if_pos z1, z1, an, if_pos rfl, w3, prn]; exact ⟨rfl, rfl⟩
      · rw [if_neg z1, ao y z2 z1, if_neg (show ¬ (0 : Nat) = 1 by omega), w4 y z1, pro y z2 z1]; exact ⟨d1, d2⟩
    · rw [w5, u1]
      by_cases z : e' = e
      · rw [if_pos z, p_ue z]
      · rw [if_neg z, p_un z]; exact c3 e' he'
    · rw [w6, c4, nI_add, m3]
    · rw [w7, c5, nI_add, m4]
  refine ⟨hil, hie, hil, fun v1 e1 => ⟨hin, hin, fun v2 e2 => ⟨hin, hin, fun v3 e3 => ⟨hil, ?_⟩⟩⟩⟩
  have hln : n ≠ l := o5
  have x1 : v1 193 n = v 193 n := by rw [e1, z_un (Or.inr hln)]
  have x2 : v2 194 n = nI (u_xr ρ κ R n) := by rw [e2, z_u_ne (by omega), e1, z_u_ne (by omega)]; exact cn1
  have x3 : v3 191 l = nI (u_PP ρ κ F e) := by rw [e3, z_u_ne (by omega), e2, z_u_ne (by omega), e1, z_u_ne (by omega), hPP]; exact cl2
  have x4 : v3 191 n = nI (u_pr (n_is ρ κ) h n (n_B ρ)) := by rw [e3, z_u_ne (by omega), e2, z_u_ne (by omega), e1, z_u_ne (by omega)]; exact cn2
  rw [x1] at e2
  rw [x2, nx_xor] at e3
  have g193 : ∀ y, v3 193 y = if y = n then v 193 n - 1 else if y = l then 0 else v 193 y := fun y => by
    rw [e3, z_u_ne (by omega), e2]
    by_cases z1 : y = n
    · rw [z_ue rfl z1, if_pos z1]
    · rw [z_un (Or.inr z1), if_neg z1, e1]
      by_cases z2 : y = l
      · rw [z_ue rfl z2, if_pos z2]
      · rw [z_un (Or.inr z2), if_neg z2]
  have g194 : ∀ y, v3 194 y = if y = n then nI (u_xr ρ κ R n ^^^ e) else v 194 y := fun y => by
    rw [e3]
    by_cases z1 : y = n
    · rw [z_ue rfl z1, if_pos z1]
    · rw [z_un (Or.inr z1), if_neg z1, e2, z_u_ne (by omega), e1, z_u_ne (by omega)]
  have w3 : ∀ b, b ≠ 193 → b ≠ 194 → v3 b = v b := fun b b1 b2 => by rw [e3, z_u_ne b2, e2, z_u_ne b1, e1, z_u_ne b1]
  rw [x3]
  refine ⟨fun c => ?_, fun c => ⟨hin, hin, fun v4 e4 => ⟨hie, fun v5 e5 v6 e6 => ⟨hie, fun v7 e7 => ?_⟩⟩⟩⟩
  · have p0 : u_PP ρ κ F e = 0 := by
      rcases (show u_PP ρ κ F e = 0 ∨ u_PP ρ κ F e = 1 by omega) with z | z
      · exact z
      · rw [z] at c; exact absurd rfl c
    refine hqq v3 (fin v3 g193 g194 ?_ (fun y _ => by rw [w3 191 (by omega) (by omega)]) (fun e' => ?_) ?_ ?_) (fun b _ _ _ b4 b5 => w3 b b4 b5) (fun j _ _ => by rw [w3 186 (by omega) (by omega)])
    · rw [x4, p0, Nat.zero_add, Nat.mod_eq_of_lt hpn]
    · rw [w3 187 (by omega) (by omega)]
      by_cases z : e' = e
      · rw [if_pos z, z, p0, c3 e o1, u2]
      · rw [if_neg z]
    · rw [w3 186 (by omega) (by omega), p0]; exact (Int32.add_zero _).symm
    · rw [w3 186 (by omega) (by omega), p0, Nat.zero_mul]; exact (Int32.add_zero _).symm
  · have p1 : u_PP ρ κ F e = 1 := (nI_eq (b := 1) (by omega) (by omega)).mp c
    rw [x4, x_fl (by omega)] at e4
    have w5 : ∀ b, b ≠ 191 → b ≠ 187 → v5 b = v3 b := fun b b1 b2 => by rw [e5, z_u_ne b2, e4, z_u_ne b1]
    have w7 : ∀ b, b ≠ 191 → b ≠ 187 → b ≠ 186 → v7 b = v3 b := fun b b1 b2 b3 => by rw [e7, z_u_ne b3, e6, z_u_ne b3, w5 b b1 b2]
    have e152 : v6 152 e = nI (n_w ρ κ e) := by rw [e6, z_u_ne (by omega), w5 152 (by omega) (by omega), w3 152 (by omega) (by omega)]; exact r3
    rw [e152] at e7
    refine hqq v7 (fin v7 (fun y => by rw [w7 193 (by omega) (by omega) (by omega)]; exact g193 y) (fun y => by rw [w7 194 (by omega) (by omega) (by omega)]; exact g194 y) ?_ (fun y hy => ?_) (fun e' => ?_) ?_ ?_) (fun b b1 b2 b3 b4 b5 => by rw [w7 b b3 b2 b1, w3 b b4 b5]) (fun j j1 j2 => ?_)
    · rw [e7, z_u_ne (by omega), e6, z_u_ne (by omega), e5, z_u_ne (by omega), e4, z_ue rfl rfl, p1]
      congr 1; omega
    · rw [e7, z_u_ne (by omega), e6, z_u_ne (by omega), e5, z_u_ne (by omega), e4, z_un (Or.inr hy), w3 191 (by omega) (by omega)]
    · rw [e7, z_u_ne (by omega), e6, z_u_ne (by omega), e5]
      by_cases z : e' = e
      · rw [z_ue rfl z, if_pos z, p1]; rfl
      · rw [z_un (Or.inr z), if_neg z, e4, z_u_ne (by omega), w3 187 (by omega) (by omega)]
    · rw [e7, z_un (by omega), e6, z_ue rfl rfl, w5 186 (by omega) (by omega), w3 186 (by omega) (by omega), p1]; rfl
    · rw [e7, z_ue rfl rfl, e6, z_un (by omega), w5 186 (by omega) (by omega), w3 186 (by omega) (by omega), p1, Nat.one_mul]
    · rw [e7, z_un (Or.inr j2), e6, z_un (Or.inr j1), w5 186 (by omega) (by omega), w3 186 (by omega) (by omega)]
end PF
