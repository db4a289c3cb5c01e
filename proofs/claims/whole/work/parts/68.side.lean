/-! WHAT LIES ON A SIDE of an edge of the forest; the reference's side, peels, grows -/
/-- b can be reached from a by edges of F, but one -/
def u_rc (ρ : Nat → Nat) (κ : Nat) (F : Nat → Nat) (but a b : Nat) : Prop := ∀ X : Nat → Prop, X a → (∀ e, e < n_E ρ → F e = 1 → e ≠ but → (X (n_lo ρ κ e) ↔ X (n_hi ρ κ e))) → X b
noncomputable def u_i (P : Prop) : Nat := @ite Nat P (Classical.propDecidable P) 1 0
theorem u_i_1 {P : Prop} (h : P) : u_i P = 1 := by unfold u_i; rw [if_pos h]
theorem u_i_0 {P : Prop} (h : ¬ P) : u_i P = 0 := by unfold u_i; rw [if_neg h]
theorem u_i_e {P : Prop} : u_i P = 1 ↔ P := ⟨fun h => Classical.byContradiction fun z => (by rw [u_i_0 z] at h; cases h), u_i_1⟩
theorem u_i_le {P : Prop} : u_i P ≤ 1 := by
  by_cases h : P
  · rw [u_i_1 h]; omega
  · rw [u_i_0 h]; omega
theorem u_i_c {P R : Prop} (h : P ↔ R) : u_i P = u_i R := by rw [propext h]
def u_sd (ρ : Nat → Nat) (κ : Nat) (F : Nat → Nat) (e u : Nat) : Prop := (u_rc ρ κ F e (n_lo ρ κ e) (n_B ρ) → u_rc ρ κ F e (n_hi ρ κ e) u) ∧ (¬ u_rc ρ κ F e (n_lo ρ κ e) (n_B ρ) → u_rc ρ κ F e (n_lo ρ κ e) u)
noncomputable def u_PP (ρ : Nat → Nat) (κ : Nat) (F : Nat → Nat) (e : Nat) : Nat := u_pr (n_is ρ κ) (fun u => u_i (u_sd ρ κ F e u)) 1 (n_B ρ)
theorem u_PP_lt {ρ : Nat → Nat} {κ : Nat} {F : Nat → Nat} {e : Nat} : u_PP ρ κ F e < 2 := u_pr_lt _
/-- whether an edge is peeled -/
noncomputable def u_Pf (ρ : Nat → Nat) (κ : Nat) (F : Nat → Nat) (e : Nat) : Nat := if F e = 1 then u_PP ρ κ F e else 0
theorem u_Pf_le {ρ : Nat → Nat} {κ : Nat} {F : Nat → Nat} {e : Nat} : u_Pf ρ κ F e ≤ 1 := by
  unfold u_Pf
  split
  · have := u_PP_lt (ρ := ρ) (κ := κ) (F := F) (e := e); omega
  · omega
noncomputable def u_pp (ρ : Nat → Nat) (κ : Nat) (F : Nat → Nat) : Nat → List Nat
  | 0 => []
  | e + 1 => if u_Pf ρ κ F e = 1 then u_pp ρ κ F e ++ [e] else u_pp ρ κ F e
/-- those of a list that are peeled -/
noncomputable def u_ps (ρ : Nat → Nat) (κ : Nat) (F : Nat → Nat) (l : List Nat) : Nat → List Nat
  | 0 => []
  | i + 1 => if u_PP ρ κ F (l.getD i 0) = 1 then u_ps ρ κ F l i ++ [l.getD i 0] else u_ps ρ κ F l i
theorem u_ps_ap {ρ : Nat → Nat} {κ : Nat} {F : Nat → Nat} {l m : List Nat} : ∀ i, i ≤ l.length → u_ps ρ κ F (l ++ m) i = u_ps ρ κ F l i
  | 0, _ => rfl
  | i + 1, h => by rw [u_ps, u_ps, u_ps_ap i (by omega), l_gl (by omega)]
theorem u_ps_len {ρ : Nat → Nat} {κ : Nat} {F : Nat → Nat} {l : List Nat} : ∀ i, (u_ps ρ κ F l i).length ≤ i
  | 0 => Nat.le_refl _
  | i + 1 => by
    have := u_ps_len (ρ := ρ) (κ := κ) (F := F) (l := l) i
    rw [u_ps]
    split
    · rw [List.length_append, List.length_singleton]; omega
    · omega
theorem u_ps_pp {ρ : Nat → Nat} {κ : Nat} {wh : Nat → Nat} {E : Nat} : ∀ e, e ≤ E → u_ps ρ κ (u_fs ρ κ wh E).2 (u_fl ρ κ wh e) (u_fl ρ κ wh e).length = u_pp ρ κ (u_fs ρ κ wh E).2 e
  | 0, _ => rfl
  | e + 1, h => by
    have ih := u_ps_pp (ρ := ρ) (κ := κ) (wh := wh) e (show e ≤ E by omega)
    have hF := u_fs_e (ρ := ρ) (κ := κ) (wh := wh) (show e < E by omega)
    rw [u_fl, u_pp]
    unfold u_Pf
    rw [hF]
    by_cases c : wh e = 1 ∧ (u_fs ρ κ wh e).1 (n_lo ρ κ e) ≠ (u_fs ρ κ wh e).1 (n_hi ρ κ e)
    · rw [if_pos c, if_pos c, if_pos rfl, List.length_append, List.length_singleton, u_ps, u_ps_ap _ (Nat.le_refl _), l_ge, ih]
    · rw [if_neg c, if_neg c, if_neg (show ¬ (0 : Nat) = 1 by omega), if_neg (show ¬ (0 : Nat) = 1 by omega)]
      exact ih
section SI
variable {G : z_G} {d : Nat} {S : z_Shp} {v v0 : z_Dat} {Q : Option Value → z_Shp → z_Dat → Prop} {ρ : Nat → Nat} {κ : Nat} {F : Nat → Nat} {l : List Nat}
/-- a list holds the edges of F -/
def u_isL (ρ : Nat → Nat) (F : Nat → Nat) (l : List Nat) : Prop := l.length ≤ 108 ∧ (∀ i, i < l.length → l.getD i 0 < n_E ρ ∧ F (l.getD i 0) = 1) ∧ ∀ e, e < n_E ρ → F e = 1 → ∃ i, i < l.length ∧ l.getD i 0 = e
theorem m_Fo.fr {v v1 : z_Dat} (h : m_Fo ρ κ v l) (h1 : v1 223 52 = v 223 52) (h2 : v1 252 = v 252) : m_Fo ρ κ v1 l := by
  unfold m_Fo
  rw [h1, h2]; exact h
theorem sp_X11_side {a but : Nat} (hL : z_L S) (hV : p_V ρ) (hκ : κ < 2) (hN : m_Nt ρ κ v) (hFo : m_Fo ρ κ v l) (hl : u_isL ρ F l) (ha : a ≤ n_B ρ) (hb : but < n_E ρ)
    (h : ∀ v1, (∀ u, u ≤ n_B ρ → v1 255 u = nI (u_i (u_rc ρ κ F but a u))) → (∀ b, b ≠ 255 → v1 b = v b) → Q none S v1) : z_J G d mX11_side (0, [.ref 223, .int (nI a), .int (nI but), .null, .null, .null], [], S, v) Q := by
  have hBn := n_B_le hV.1 hV.2.1
  have hE := n_E_le hV.1 hV.2.1
  obtain ⟨l1, l2, l3⟩ := hl
  have pass : ∀ m (g : Nat → Nat) v1, n_B ρ + 1 - m_sum g (n_B ρ + 1) = m → (∀ u, g u ≤ 1) → g a = 1 → (∀ u, g u = 1 → u_rc ρ κ F but a u) → (∀ u, u ≤ n_B ρ → v1 255 u = nI (g u)) → (∀ b, b ≠ 255 → v1 b = v b) → z_J G d mX11_side (34, [.ref 223, .int (nI a), .int (nI but), .int 1, .null, .null], [], S, v1) Q := by
    intro m
    induction m using Nat.strongRecOn with
    | ind m ihm =>
    intro g v1 hm g1 ga gr k1 k2
    have hcb : ∀ g : Nat → Nat, (∀ u, g u ≤ 1) → m_sum g (n_B ρ + 1) ≤ n_B ρ + 1 := fun g hg => by
      have := m_sum_le (f := g) (g := fun _ => 1) (n_B ρ + 1) (fun e _ => hg e)
      rw [m_sum_c, Nat.mul_one] at this
      exact this
    refine sg_X11_side_34 ⟨fun c => absurd c (by decide), fun _ => ?_⟩
    have inner : ∀ j i (s : Nat) (g2 : Nat → Nat) v2, i + j = l.length → s ≤ 1 → (∀ u, g2 u ≤ 1) → g2 a = 1 → (∀ u, g2 u = 1 → u_rc ρ κ F but a u) → (∀ u, u ≤ n_B ρ → v2 255 u = nI (g2 u)) → (∀ b, b ≠ 255 → v2 b = v b) → m_sum g (n_B ρ + 1) ≤ m_sum g2 (n_B ρ + 1) → (s = 0 → ∀ i', i' < i → l.getD i' 0 ≠ but → g2 (n_lo ρ κ (l.getD i' 0)) = g2 (n_hi ρ κ (l.getD i' 0))) → (s = 1 → m_sum g (n_B ρ + 1) < m_sum g2 (n_B ρ + 1)) →
        z_J G d mX11_side (43, [.ref 223, .int (nI a), .int (nI but), .int (nI s), .int (nI i), .null], [], S, v2) Q := by
      intro j
      induction j with
      | zero =>
        intro i s g2 v2 hi hs b1 b2 b3 b4 b5 b6 b7 b8
        have hi : i = l.length := by omega
        subst hi
        refine sg_X11_side_43 hL ⟨fun _ => ?_, fun c => absurd (by rw [b5 223 (by omega), hFo.1]; exact nI_le (Nat.le_refl _) (by omega)) c⟩
        rcases (show s = 0 ∨ s = 1 by omega) with z | z
        · rw [z]
          refine sg_X11_side_34 ⟨fun _ => h v2 (fun u hu => ?_) b5, fun c => absurd rfl c⟩
          rw [b4 u hu]
          congr 1
          by_cases c : g2 u = 1
          · rw [c, u_i_1 (b3 u c)]
          · rw [show g2 u = 0 by have := b1 u; omega, u_i_0]
            intro hr
            refine c (hr (fun u => g2 u = 1) b2 (fun e he hFe hne => ?_))
            obtain ⟨i', i1, i2⟩ := l3 e he hFe
            have := b7 z i' i1 (by rw [i2]; exact hne)
            rw [i2] at this
            rw [this]
        · rw [z]
          have := b8 z
          have := hcb g2 b1
          exact ihm (n_B ρ + 1 - m_sum g2 (n_B ρ + 1)) (by omega) g2 v2 rfl b1 b2 b3 b4 b5
      | succ j ih =>
        intro i s g2 v2 hi hs b1 b2 b3 b4 b5 b6 b7 b8
        have hi2 : i < l.length := by omega
        obtain ⟨e1, e2⟩ := l2 i hi2
        have e252 : v2 252 i = nI (l.getD i 0) := by rw [b5 252 (by omega)]; exact hFo.2 i hi2
        obtain ⟨q1, q2, q3⟩ := n_ends hV.1 hκ e1
        obtain ⟨r1, r2, r3⟩ := hN.2.1 _ e1
        have hin : vp_in (nI (l.getD i 0)) 321 := vp_in_nI (by omega) (by omega)
        have hlo : vp_in (nI (n_lo ρ κ (l.getD i 0))) 109 := vp_in_nI (by omega) (by omega)
        have hhi : vp_in (nI (n_hi ρ κ (l.getD i 0))) 109 := vp_in_nI (by omega) (by omega)
        refine sg_X11_side_43 hL ⟨fun c => absurd c (by rw [b5 223 (by omega), hFo.1]; exact nI_ge (by omega) (by omega)), fun _ => ⟨vp_in_nI (by omega) (by omega), ?_⟩⟩
        rw [nI_clamp (n := i) (by omega), e252, nI_clamp (n := l.getD i 0) (by omega), b5 238 (by omega), r1, b5 239 (by omega), r2, nI_clamp (n := n_lo ρ κ (l.getD i 0)) (by omega), nI_clamp (n := n_hi ρ κ (l.getD i 0)) (by omega), b4 _ (show n_lo ρ κ (l.getD i 0) ≤ n_B ρ by omega), b4 _ q3, nI_1]
        refine ⟨fun c => ?_, fun c => ⟨hin, hlo, hin, hhi, fun c2 => ⟨hin, hlo, fun v3 e3 => ⟨hin, ?_⟩⟩, fun c2 => ?_⟩⟩
        · have c := (nI_eq (by omega) (by omega)).mp c
          refine ih (i + 1) s g2 v2 (by omega) hs b1 b2 b3 b4 b5 b6 (fun z i' hi' hne => ?_) b8
          by_cases y : i' = i
          · rw [y] at hne; exact absurd c hne
          · exact b7 z i' (by omega) hne
        · rw [show v3 239 (l.getD i 0) = nI (n_hi ρ κ (l.getD i 0)) by rw [e3, z_u_ne (by omega), b5 239 (by omega)]; exact r2, nI_clamp (n := n_hi ρ κ (l.getD i 0)) (by omega)]
          refine ⟨hhi, fun v4 e4 => ?_⟩
          have c : l.getD i 0 ≠ but := fun z => c (by rw [z])
          have hne : g2 (n_lo ρ κ (l.getD i 0)) ≠ g2 (n_hi ρ κ (l.getD i 0)) := fun z => c2 (by rw [z])
          have hA := b1 (n_lo ρ κ (l.getD i 0))
          have hB := b1 (n_hi ρ κ (l.getD i 0))
          have both : u_rc ρ κ F but a (n_lo ρ κ (l.getD i 0)) ∧ u_rc ρ κ F but a (n_hi ρ κ (l.getD i 0)) := by
            rcases (show g2 (n_lo ρ κ (l.getD i 0)) = 1 ∨ g2 (n_hi ρ κ (l.getD i 0)) = 1 by omega) with z | z
            · have r := b3 _ z
              exact ⟨r, fun X hX hc => (hc _ e1 e2 c).mp (r X hX hc)⟩
            · have r := b3 _ z
              exact ⟨fun X hX hc => (hc _ e1 e2 c).mpr (r X hX hc), r⟩
          generalize hg3 : p_up (p_up g2 (n_lo ρ κ (l.getD i 0)) 1) (n_hi ρ κ (l.getD i 0)) 1 = g3
          have g3e : ∀ u, g3 u = if u = n_hi ρ κ (l.getD i 0) then 1 else if u = n_lo ρ κ (l.getD i 0) then 1 else g2 u := fun u => by rw [← hg3]; rfl
          have g3ge : ∀ u, g2 u ≤ g3 u := fun u => by
            rw [g3e]
            have := b1 u
            split
            · omega
            · split <;> omega
          have lt3 : m_sum g2 (n_B ρ + 1) < m_sum g3 (n_B ρ + 1) := by
            rcases (show g2 (n_lo ρ κ (l.getD i 0)) = 0 ∨ g2 (n_hi ρ κ (l.getD i 0)) = 0 by omega) with z | z
            · refine m_sum_lt (e := n_lo ρ κ (l.getD i 0)) _ (by omega) (fun u _ => g3ge u) ?_
              rw [g3e, if_neg (by omega), if_pos rfl, z]; omega
            · refine m_sum_lt (e := n_hi ρ κ (l.getD i 0)) _ (by omega) (fun u _ => g3ge u) ?_
              rw [g3e, if_pos rfl, z]; omega
          refine ih (i + 1) 1 g3 v4 (by omega) (by omega) (fun u => ?_) ?_ (fun u hu => ?_) (fun u hu => ?_) (fun b hb => by rw [e4, z_u_ne hb, e3, z_u_ne hb]; exact b5 b hb) (by omega) (fun z => (by cases z)) (fun _ => by omega)
          · rw [g3e]
            split
            · omega
            · split
              · omega
              · exact b1 u
          · have := g3ge a
            rw [b2] at this
            rw [g3e] at this ⊢
            split
            · rfl
            · rename_i c3
              rw [if_neg c3] at this
              split
              · rfl
              · exact b2
          · rw [g3e] at hu
            by_cases z1 : u = n_hi ρ κ (l.getD i 0)
            · rw [z1]; exact both.2
            · rw [if_neg z1] at hu
              by_cases z2 : u = n_lo ρ κ (l.getD i 0)
              · rw [z2]; exact both.1
              · rw [if_neg z2] at hu; exact b3 u hu
          · rw [g3e, e4]
            by_cases z1 : u = n_hi ρ κ (l.getD i 0)
            · rw [z_ue rfl z1, if_pos z1]; rfl
            · rw [z_un (Or.inr z1), if_neg z1, e3]
              by_cases z2 : u = n_lo ρ κ (l.getD i 0)
              · rw [z_ue rfl z2, if_pos z2]; rfl
              · rw [z_un (Or.inr z2), if_neg z2]; exact b4 u hu
        · have hA := b1 (n_lo ρ κ (l.getD i 0))
          have hB := b1 (n_hi ρ κ (l.getD i 0))
          have c2 := (nI_eq (by omega) (by omega)).mp c2
          refine ih (i + 1) s g2 v2 (by omega) hs b1 b2 b3 b4 b5 b6 (fun z i' hi' hne => ?_) b8
          by_cases y : i' = i
          · rw [y]; exact c2
          · exact b7 z i' (by omega) hne
    exact inner l.length 0 0 g v1 (Nat.zero_add _) (by omega) g1 ga gr k1 k2 (Nat.le_refl _) (fun _ i' hi' => by omega) (fun z => (by cases z))
  have first : ∀ j n v1, n + j = n_B ρ + 1 → (∀ u, u < n → v1 255 u = nI (if u = a then 1 else 0)) → (∀ b, b ≠ 255 → v1 b = v b) → z_J G d mX11_side (2, [.ref 223, .int (nI a), .int (nI but), .int (nI n), .null, .null], [], S, v1) Q := by
    intro j
    induction j with
    | zero =>
      intro n v1 hn k1 k2
      refine sg_X11_side_2 hL ⟨fun _ => pass _ (fun u => if u = a then 1 else 0) v1 rfl (fun u => ?_) (if_pos rfl) (fun u hu => ?_) (fun u hu => k1 u (by omega)) k2, fun c => absurd (by rw [k2 223 (by omega), hN.1.2.1]; exact nI_lt (by omega) (by omega)) c⟩
      · show (if u = a then 1 else 0) ≤ 1
        split <;> omega
      · have hu : (if u = a then 1 else 0) = 1 := hu
        by_cases z : u = a
        · rw [z]; exact fun X hX _ => hX
        · rw [if_neg z] at hu; cases hu
    | succ j ih =>
      intro n v1 hn k1 k2
      have hin : vp_in (nI n) 109 := vp_in_nI (by omega) (by omega)
      have fin : ∀ v2 : z_Dat, v2 = z_u v1 255 n (nI (if n = a then 1 else 0)) → z_J G d mX11_side (2, [.ref 223, .int (nI a), .int (nI but), .int (nI n + 1), .null, .null], [], S, v2) Q := fun v2 e2 => by
        rw [nI_1]
        refine ih (n + 1) v2 (by omega) (fun u hu => ?_) (fun b hb => by rw [e2, z_u_ne hb]; exact k2 b hb)
        by_cases z : u = n
        · rw [e2, z_ue rfl z, z]
        · rw [e2, z_un (Or.inr z)]; exact k1 u (by omega)
      refine sg_X11_side_2 hL ⟨fun c => absurd c (by rw [k2 223 (by omega), hN.1.2.1]; exact nI_nlt (by omega) (by omega)), fun _ => ⟨fun c => ⟨hin, fun v2 e2 => fin v2 ?_⟩, fun c => ⟨hin, fun v2 e2 => fin v2 ?_⟩⟩⟩
      · rw [nI_clamp (by omega)] at e2
        rw [e2, if_neg (fun z => c (by rw [z]))]; rfl
      · rw [nI_clamp (by omega)] at e2
        rw [e2, if_pos ((nI_eq (by omega) (by omega)).mp c)]; rfl
  exact sg_X11_side_0 (first _ 0 v (Nat.zero_add _) (fun u hu => by omega) (fun _ _ => rfl))
theorem sp_X11_peels (hd : 1 ≤ d) (hL : z_L S) (hV : p_V ρ) (hκ : κ < 2) (hN : m_Nt ρ κ v) (hFo : m_Fo ρ κ v l) (hl : u_isL ρ F l)
    (h : ∀ v1, v1 223 53 = nI (u_ps ρ κ F l l.length).length → (∀ i, i < (u_ps ρ κ F l l.length).length → v1 253 i = nI ((u_ps ρ κ F l l.length).getD i 0)) → m_g v v1 → (∀ j, j ≠ 53 → v1 223 j = v 223 j) → Q none S v1) : z_J G d mX11_peels (0, [.ref 223, .null, .null, .null, .null], [], S, v) Q := by
  obtain ⟨d, rfl⟩ : ∃ e, d = e + 1 := ⟨d - 1, by omega⟩
  have hBn := n_B_le hV.1 hV.2.1
  have hE := n_E_le hV.1 hV.2.1
  have hlen := n_evs_len (ρ := ρ) (κ := κ)
  have key : ∀ j i v1, i + j = l.length → v1 223 53 = nI (u_ps ρ κ F l i).length → (∀ k, k < (u_ps ρ κ F l i).length → v1 253 k = nI ((u_ps ρ κ F l i).getD k 0)) → (∀ b, b ≠ 223 → b ≠ 253 → b ≠ 255 → v1 b = v b) → (∀ j, j ≠ 53 → v1 223 j = v 223 j) → z_J G (d + 1) mX11_peels (7, [.ref 223, .int (nI i), .null, .null, .null], [], S, v1) Q := by
    intro j
    induction j with
    | zero =>
      intro i v1 hi k1 k2 k3 k4
      have hi : i = l.length := by omega
      subst hi
      refine sg_X11_peels_7 hL ⟨fun _ => h v1 k1 k2 ⟨fun b b1 b2 => k3 b b1 (by omega) (by omega), fun j hj => k4 j (by omega)⟩ k4, fun c => absurd (by rw [k4 52 (by omega), hFo.1]; exact nI_le (Nat.le_refl _) (by have := hl.1; omega)) c⟩
    | succ j ih =>
      intro i v1 hi k1 k2 k3 k4
      have hl1 := hl.1
      have hi2 : i < l.length := by omega
      obtain ⟨e1, e2⟩ := hl.2.1 i hi2
      obtain ⟨q1, q2, q3⟩ := n_ends hV.1 hκ e1
      have N1 : m_Nt ρ κ v1 := hN.fr (fun j h1 h2 => k4 j (by omega)) ⟨k3 238 (by omega) (by omega) (by omega), k3 239 (by omega) (by omega) (by omega), k3 240 (by omega) (by omega) (by omega), k3 242 (by omega) (by omega) (by omega)⟩
      have F1 : m_Fo ρ κ v1 l := hFo.fr (k4 52 (by omega)) (k3 252 (by omega) (by omega) (by omega))
      obtain ⟨r1, r2, r3⟩ := N1.2.1 _ e1
      have hin : vp_in (nI (l.getD i 0)) 321 := vp_in_nI (by omega) (by omega)
      have hpl := u_ps_len (ρ := ρ) (κ := κ) (F := F) (l := l) i
      -- how many events lie there
      have fin : ∀ v2, (∀ u, u ≤ n_B ρ → v2 255 u = nI (u_i (u_sd ρ κ F (l.getD i 0) u))) → (∀ b, b ≠ 255 → v2 b = v1 b) → z_J G (d + 1) mX11_peels (61, [.ref 223, .int (nI i), .int (nI (l.getD i 0)), .int 0, .int 0], [], S, v2) Q := by
        intro v2 s2 f2
        have N2 : m_Nt ρ κ v2 := N1.fr (fun j _ _ => by rw [f2 223 (by omega)]) ⟨f2 238 (by omega), f2 239 (by omega), f2 240 (by omega), f2 242 (by omega)⟩
        have ev : ∀ j2 k, k + j2 = (n_evs ρ κ).length → z_J G (d + 1) mX11_peels (61, [.ref 223, .int (nI i), .int (nI (l.getD i 0)), .int (nI (u_pl (n_evs ρ κ) (fun u => u_i (u_sd ρ κ F (l.getD i 0) u)) 1 k)), .int (nI k)], [], S, v2) Q := by
          intro j2
          induction j2 with
          | zero =>
            intro k hk
            have hk : k = (n_evs ρ κ).length := by omega
            subst hk
            have eP : u_pl (n_evs ρ κ) (fun u => u_i (u_sd ρ κ F (l.getD i 0) u)) 1 (n_evs ρ κ).length = u_PP ρ κ F (l.getD i 0) := u_pl_ev (n_B ρ)
            rw [eP]
            have hPP := u_PP_lt (ρ := ρ) (κ := κ) (F := F) (e := l.getD i 0)
            have nx := ih (i + 1)
            rw [u_ps] at nx
            have e53 : v2 223 53 = nI (u_ps ρ κ F l i).length := by rw [f2 223 (by omega)]; exact k1
            refine sg_X11_peels_61 hL ⟨fun _ => ?_, fun c => absurd (by rw [N2.1.2.2]; exact nI_le (Nat.le_refl _) (by omega)) c⟩
            rw [e53, nI_1 i]
            refine ⟨fun c => ⟨vp_in_nI (by omega) (by omega), fun v3 e3 v4 e4 => ?_⟩, fun c => ?_⟩
            · have c : u_PP ρ κ F (l.getD i 0) = 1 := by
                rcases (show u_PP ρ κ F (l.getD i 0) = 0 ∨ u_PP ρ κ F (l.getD i 0) = 1 by omega) with z | z
                · rw [z] at c; exact absurd rfl c
                · exact z
              rw [if_pos c] at nx
              rw [nI_clamp (by omega)] at e3
              refine nx v4 (by omega) ?_ (fun k hk => ?_) (fun b b1 b2 b3 => by rw [e4, z_u_ne b1, e3, z_u_ne b2, f2 b b3]; exact k3 b b1 b2 b3) (fun j hj => by rw [e4, z_un (Or.inr hj), e3, z_u_ne (by omega), f2 223 (by omega)]; exact k4 j hj)
              · rw [e4, z_ue rfl rfl, e3, z_u_ne (by omega), e53, nI_1, List.length_append, List.length_singleton]
              · rw [List.length_append, List.length_singleton] at hk
                rw [e4, z_u_ne (by omega), e3]
                by_cases z : k = (u_ps ρ κ F l i).length
                · rw [z_ue rfl z, z, l_ge]
                · rw [z_un (Or.inr z), l_gl (by omega), f2 253 (by omega)]; exact k2 k (by omega)
            · have c := (nI_eq (b := 0) (by omega) (by omega)).mp c
              rw [if_neg (by omega)] at nx
              exact nx v2 (by omega) e53 (fun k hk => by rw [f2 253 (by omega)]; exact k2 k hk) (fun b b1 b2 b3 => by rw [f2 b b3]; exact k3 b b1 b2 b3) (fun j hj => by rw [f2 223 (by omega)]; exact k4 j hj)
          | succ j2 ih2 =>
            intro k hk
            have hlt := n_evs_lt (ρ := ρ) (κ := κ) (i := k) (by omega)
            have nx := ih2 (k + 1) (by omega)
            rw [u_pl] at nx
            have hp := u_pl_lt (l := n_evs ρ κ) (f := fun u => u_i (u_sd ρ κ F (l.getD i 0) u)) (x := 1) k
            refine sg_X11_peels_61 hL ⟨fun c => absurd c (by rw [N2.1.2.2]; exact nI_ge (by omega) (by omega)), fun _ => ⟨vp_in_nI (by omega) (by omega), ?_⟩⟩
            rw [nI_clamp (n := k) (by omega), N2.2.2 k (by omega), nI_clamp (n := (n_evs ρ κ).getD k 0) (by omega), s2 _ (show (n_evs ρ κ).getD k 0 ≤ n_B ρ by omega), nI_1]
            generalize hpv : u_pl (n_evs ρ κ) (fun u => u_i (u_sd ρ κ F (l.getD i 0) u)) 1 k = p at *
            have hu := u_i_le (P := u_sd ρ κ F (l.getD i 0) ((n_evs ρ κ).getD k 0))
            refine ⟨vp_in_nI (by omega) (by omega), fun c => ?_, fun c => ?_⟩
            · have c := (nI_eq (b := 0) (by omega) (by omega)).mp c
              rw [if_neg (fun z => by rw [c] at z; cases z), show (p + 0) % 2 = p by omega] at nx
              rw [show (0 : Int32) = nI 0 from rfl, nx_xor, Nat.xor_zero]
              exact nx
            · have c : u_i (u_sd ρ κ F (l.getD i 0) ((n_evs ρ κ).getD k 0)) = 1 := by
                rcases (show u_i (u_sd ρ κ F (l.getD i 0) ((n_evs ρ κ).getD k 0)) = 0 ∨ u_i (u_sd ρ κ F (l.getD i 0) ((n_evs ρ κ).getD k 0)) = 1 by omega) with z | z
                · rw [z] at c; exact absurd rfl c
                · exact z
              rw [if_pos c, show (p + 1) % 2 = 1 - p by omega] at nx
              rw [x_fl (by omega)]
              exact nx
        exact ev _ 0 (Nat.zero_add _)
      refine sg_X11_peels_7 hL ⟨fun c => absurd c (by rw [k4 52 (by omega), hFo.1]; exact nI_ge (by omega) (by omega)), fun _ => ⟨vp_in_nI (by omega) (by omega), ?_⟩⟩
      rw [nI_clamp (n := i) (by omega), F1.2 i hi2, nI_clamp (n := l.getD i 0) (by omega), r1]
      refine ⟨hin, sp_X11_side (F := F) hL hV hκ N1 F1 hl (by omega) e1 (fun v2 s2 f2 => ⟨rfl, rfl, ?_⟩)⟩
      rw [show v2 223 32 = nI (n_B ρ) by rw [f2 223 (by omega)]; exact N1.1.2.1, nI_clamp (n := n_B ρ) (by omega), s2 _ (Nat.le_refl _), show v2 239 (l.getD i 0) = nI (n_hi ρ κ (l.getD i 0)) by rw [f2 239 (by omega)]; exact r2]
      refine ⟨vp_in_nI (by omega) (by omega), fun c => ?_, fun c => ⟨hin, ?_⟩⟩
      · have c : ¬ u_rc ρ κ F (l.getD i 0) (n_lo ρ κ (l.getD i 0)) (n_B ρ) := fun z => by rw [u_i_1 z] at c; exact absurd c (by decide)
        exact fin v2 (fun u hu => by rw [s2 u hu]; congr 1; exact u_i_c ⟨fun z => ⟨fun q => absurd q c, fun _ => z⟩, fun z => z.2 c⟩) f2
      · have c : u_rc ρ κ F (l.getD i 0) (n_lo ρ κ (l.getD i 0)) (n_B ρ) := Classical.byContradiction fun z => by rw [u_i_0 z] at c; exact absurd rfl c
        refine sp_X11_side (F := F) hL hV hκ (N1.fr (fun j _ _ => by rw [f2 223 (by omega)]) ⟨f2 238 (by omega), f2 239 (by omega), f2 240 (by omega), f2 242 (by omega)⟩) (F1.fr (by rw [f2 223 (by omega)]) (f2 252 (by omega))) hl q3 e1 (fun v3 s3 f3 => ⟨rfl, rfl, ?_⟩)
        exact fin v3 (fun u hu => by rw [s3 u hu]; congr 1; exact u_i_c ⟨fun z => ⟨fun _ => z, fun q => absurd c q⟩, fun z => z.1 c⟩) (fun b hb => (f3 b hb).trans (f2 b hb))
  refine sg_X11_peels_0 hL (fun v1 e1 => key _ 0 v1 (Nat.zero_add _) (by rw [e1, z_ue rfl rfl]; rfl) (fun k hk => absurd hk (Nat.not_lt_zero k)) (fun b b1 _ _ => by rw [e1, z_u_ne b1]) (fun j hj => by rw [e1, z_un (Or.inr hj)]))
end SI
