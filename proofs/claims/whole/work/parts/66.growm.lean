/-! THE REFERENCE'S CLUMPS: leaderOf, unites, counts, opens -/
theorem u_J_iff {lab : Nat → Nat} {a b u w : Nat} : u_J lab a b u = u_J lab a b w ↔ (lab u = lab w ∨ (lab u = lab a ∧ lab w = lab b) ∨ (lab u = lab b ∧ lab w = lab a)) := by
  unfold u_J
  by_cases c1 : lab u = lab a <;> by_cases c2 : lab w = lab a
  · rw [if_pos c1, if_pos c2]; exact ⟨fun _ => Or.inl (c1.trans c2.symm), fun _ => rfl⟩
  · rw [if_pos c1, if_neg c2]
    refine ⟨fun h => Or.inr (Or.inl ⟨c1, h.symm⟩), fun h => ?_⟩
    rcases h with h | h | h
    · exact absurd (h.symm.trans c1) c2
    · exact h.2.symm
    · exact absurd h.2 c2
  · rw [if_neg c1, if_pos c2]
    refine ⟨fun h => Or.inr (Or.inr ⟨h, c2⟩), fun h => ?_⟩
    rcases h with h | h | h
    · exact absurd (h.trans c2) c1
    · exact absurd h.1 c1
    · exact h.1
  · rw [if_neg c1, if_neg c2]
    refine ⟨Or.inl, fun h => ?_⟩
    rcases h with h | h | h
    · exact h
    · exact absurd h.1 c1
    · exact absurd h.2 c2
def u_MF (B : Nat) (ld lr lab : Nat → Nat) : Prop := (∀ u, u ≤ B → (u ≤ ld u ∧ ld u ≤ B ∧ lr u ≤ B ∧ lr (ld u) = lr u ∧ (ld u = u ↔ lr u = u) ∧ lr (lr u) = lr u)) ∧ ∀ u w, u ≤ B → w ≤ B → (lr u = lr w ↔ lab u = lab w)
theorem u_MF_0 {B : Nat} : u_MF B (fun v => v) (fun v => v) (fun v => v) := ⟨fun u hu => ⟨Nat.le_refl _, hu, hu, rfl, Iff.rfl, rfl⟩, fun _ _ _ _ => Iff.rfl⟩
/-- the lesser leader gets the greater -/
theorem u_MF_J {B : Nat} {ld lr lab : Nat → Nat} {a b x y : Nat} (h : u_MF B ld lr lab) (ha : a ≤ B) (hb : b ≤ B) (hxy : x ≤ y) (hc : (x = lr a ∧ y = lr b) ∨ (x = lr b ∧ y = lr a)) : ∃ lr', u_MF B (p_up ld x y) lr' (u_J lab a b) := by
  have hx : x ≤ B ∧ lr x = x := by
    rcases hc with ⟨e, -⟩ | ⟨e, -⟩ <;> rw [e]
    · exact ⟨(h.1 a ha).2.2.1, (h.1 a ha).2.2.2.2.2⟩
    · exact ⟨(h.1 b hb).2.2.1, (h.1 b hb).2.2.2.2.2⟩
  have hy : y ≤ B ∧ lr y = y := by
    rcases hc with ⟨-, e⟩ | ⟨-, e⟩ <;> rw [e]
    · exact ⟨(h.1 b hb).2.2.1, (h.1 b hb).2.2.2.2.2⟩
    · exact ⟨(h.1 a ha).2.2.1, (h.1 a ha).2.2.2.2.2⟩
  have ej : ∀ u w, u_J lr x y u = u_J lr x y w ↔ (lr u = lr w ∨ (lr u = x ∧ lr w = y) ∨ (lr u = y ∧ lr w = x)) := fun u w => by
    rw [u_J_iff, hx.2, hy.2]
  have eJ : ∀ u, u_J lr x y u = if lr u = x then y else lr u := fun u => by unfold u_J; rw [hx.2, hy.2]
  refine ⟨u_J lr x y, fun u hu => ?_, fun u w hu hw => ?_⟩
  · obtain ⟨h1, h2, h3, h4, h5, h6⟩ := h.1 u hu
    have l1 : u_J lr x y u ≤ B := by rw [eJ]; split <;> omega
    have l2 : u_J lr x y (u_J lr x y u) = u_J lr x y u := by
      rw [eJ u]
      by_cases c : lr u = x
      · rw [if_pos c, eJ, hy.2]
        by_cases z : y = x
        · rw [if_pos z]
        · rw [if_neg z]
      · rw [if_neg c, eJ, h6, if_neg c]
    by_cases e : u = x
    · subst e
      rw [p_ue rfl]
      refine ⟨hxy, hy.1, l1, ?_, ?_, l2⟩
      · rw [eJ, eJ, hy.2, hx.2, if_pos rfl]
        by_cases z : y = u
        · rw [if_pos z]
        · rw [if_neg z]
      · rw [eJ, hx.2, if_pos rfl]
    · rw [p_un e]
      refine ⟨h1, h2, l1, by rw [eJ, eJ, h4], ?_, l2⟩
      rw [eJ, h5]
      by_cases c : lr u = x
      · rw [if_pos c]
        refine ⟨fun z => absurd (z.symm.trans c) e, fun z => ?_⟩
        have hz := hy.2
        rw [z] at hz; exact hz
      · rw [if_neg c]
  · rw [ej, u_J_iff, h.2 u w hu hw]
    rcases hc with ⟨e1, e2⟩ | ⟨e1, e2⟩
    · rw [e1, e2, h.2 u a hu ha, h.2 w b hw hb, h.2 u b hu hb, h.2 w a hw ha]
    · rw [e1, e2, h.2 u a hu ha, h.2 w b hw hb, h.2 u b hu hb, h.2 w a hw ha]
      exact ⟨fun z => z.elim Or.inl (fun z => z.elim (fun q => Or.inr (Or.inr q)) (fun q => Or.inr (Or.inl q))), fun z => z.elim Or.inl (fun z => z.elim (fun q => Or.inr (Or.inr q)) (fun q => Or.inr (Or.inl q)))⟩
/-- the parity of a value over the first of a list -/
def u_pl (l : List Nat) (f : Nat → Nat) (x : Nat) : Nat → Nat
  | 0 => 0
  | i + 1 => (u_pl l f x i + (if f (l.getD i 0) = x then 1 else 0)) % 2
theorem u_pl_lt {l : List Nat} {f : Nat → Nat} {x : Nat} : ∀ i, u_pl l f x i < 2
  | 0 => by show 0 < 2; omega
  | i + 1 => Nat.mod_lt _ (by omega)
theorem u_pl_ap {l m : List Nat} {f : Nat → Nat} {x : Nat} : ∀ i, i ≤ l.length → u_pl (l ++ m) f x i = u_pl l f x i
  | 0, _ => rfl
  | i + 1, h => by rw [u_pl, u_pl, u_pl_ap i (by omega), l_gl (by omega)]
theorem u_pl_ev {ρ : Nat → Nat} {κ : Nat} {f : Nat → Nat} {x : Nat} : ∀ n, u_pl (n_ev ρ κ n) f x (n_ev ρ κ n).length = u_pr (n_is ρ κ) f x n
  | 0 => rfl
  | n + 1 => by
    have ih := u_pl_ev (ρ := ρ) (κ := κ) (f := f) (x := x) n
    have e : n_ev ρ κ (n + 1) = n_ev ρ κ n ++ (if n_is ρ κ n = 1 then [n] else []) := rfl
    have hlt := n_is_lt (ρ := ρ) (κ := κ) n
    have hp := u_pr_lt (w := n_is ρ κ) (lab := f) (x := x) n
    rw [e, u_pr]
    by_cases c : n_is ρ κ n = 1
    · rw [if_pos c, List.length_append, List.length_singleton, u_pl, u_pl_ap _ (Nat.le_refl _), l_ge, ih, c]
    · rw [if_neg c, List.append_nil, ih, show n_is ρ κ n = 0 by omega]
      have : (if f n = x then 0 else 0) = 0 := by split <;> rfl
      rw [this]
      omega
/-- the reference's net, as it is read -/
def m_Nt (ρ : Nat → Nat) (κ : Nat) (v : z_Dat) : Prop := (v 223 31 = nI (n_E ρ) ∧ v 223 32 = nI (n_B ρ) ∧ v 223 33 = nI (n_evs ρ κ).length) ∧ (∀ e, e < n_E ρ → (v 238 e = nI (n_lo ρ κ e) ∧ v 239 e = nI (n_hi ρ κ e) ∧ v 240 e = nI (n_w ρ κ e))) ∧ ∀ i, i < (n_evs ρ κ).length → v 242 i = nI ((n_evs ρ κ).getD i 0)
theorem m_Nt.fr {ρ : Nat → Nat} {κ : Nat} {v v1 : z_Dat} (h : m_Nt ρ κ v) (h1 : ∀ j, 31 ≤ j → j ≤ 33 → v1 223 j = v 223 j) (h2 : v1 238 = v 238 ∧ v1 239 = v 239 ∧ v1 240 = v 240 ∧ v1 242 = v 242) : m_Nt ρ κ v1 := by
  unfold m_Nt
  rw [h1 31 (by omega) (by omega), h1 32 (by omega) (by omega), h1 33 (by omega) (by omega), h2.1, h2.2.1, h2.2.2.1, h2.2.2.2]
  exact h
section GM
variable {G : z_G} {d : Nat} {S : z_Shp} {v v0 : z_Dat} {Q : Option Value → z_Shp → z_Dat → Prop} {ρ : Nat → Nat} {κ B : Nat} {ld lr lab : Nat → Nat}
theorem sp_X11_leaderOf {u : Nat} (hL : z_L S) (hB : B ≤ 108) (hU : u_MF B ld lr lab) (hl : ∀ u, u ≤ B → v 250 u = nI (ld u)) (hu : u ≤ B) (h : Q (some (.int (nI (lr u)))) S v) : z_J G d mX11_leaderOf (0, [.ref 223, .int (nI u), .null], [], S, v) Q := by
  have key : ∀ m x, B - x = m → x ≤ B → lr x = lr u → z_J G d mX11_leaderOf (2, [.ref 223, .int (nI u), .int (nI x)], [], S, v) Q := by
    intro m
    induction m using Nat.strongRecOn with
    | ind m ih =>
    intro x hm hx hx2
    obtain ⟨h1, h2, h3, h4, h5, h6⟩ := hU.1 x hx
    have hin : vp_in (nI x) 109 := vp_in_nI (by omega) (by omega)
    refine sg_X11_leaderOf_2 hL ?_
    rw [nI_clamp (by omega), hl x hx]
    refine ⟨hin, fun c => ?_, fun c => ⟨hin, ?_⟩⟩
    · have c := (nI_eq (by omega) (by omega)).mp c
      rw [← hx2, h5.mp c] at h
      exact h
    · have c : ld x ≠ x := fun z => c (by rw [z])
      exact ih (B - ld x) (by omega) (ld x) rfl h2 (h4.trans hx2)
  exact sg_X11_leaderOf_0 (key _ u rfl hu rfl)
theorem sp_X11_unites {a b : Nat} (hd : 1 ≤ d) (hL : z_L S) (hB : B ≤ 108) (hU : u_MF B ld lr lab) (hl : ∀ u, u ≤ B → v 250 u = nI (ld u)) (ha : a ≤ B) (hb : b ≤ B) (h : ∀ v1 ld1 lr1, u_MF B ld1 lr1 (u_J lab a b) → (∀ u, u ≤ B → v1 250 u = nI (ld1 u)) → (∀ b, b ≠ 250 → v1 b = v b) → Q none S v1) : z_J G d mX11_unites (0, [.ref 223, .int (nI a), .int (nI b), .null, .null], [], S, v) Q := by
  obtain ⟨d, rfl⟩ : ∃ e, d = e + 1 := ⟨d - 1, by omega⟩
  have hxB := (hU.1 a ha).2.2.1
  have hyB := (hU.1 b hb).2.2.1
  have fin : ∀ x y, x ≤ y → (x = lr a ∧ y = lr b) ∨ (x = lr b ∧ y = lr a) → ∀ v3 : z_Dat, v3 = z_u v 250 x (nI y) → Q none S v3 := fun x y hxy hc v3 e3 => by
    obtain ⟨lr', hM⟩ := u_MF_J hU ha hb hxy hc
    refine h v3 _ lr' hM (fun u hu => ?_) (fun b hb => by rw [e3, z_u_ne hb])
    by_cases z : u = x
    · rw [e3, z_ue rfl z, p_ue z]
    · rw [e3, z_un (Or.inr z), p_un z]; exact hl u hu
  refine sg_X11_unites_0 hL (sp_X11_leaderOf hL hB hU hl ha ⟨_, rfl, rfl, sp_X11_leaderOf hL hB hU hl hb ⟨_, rfl, rfl, fun c => ⟨fun _ => ⟨vp_in_nI (by omega) (by omega), fun v3 e3 => ?_⟩, fun c2 => absurd c c2⟩, fun c => ⟨fun c2 => absurd c2 c, fun _ => ⟨vp_in_nI (by omega) (by omega), fun v3 e3 => ?_⟩⟩⟩⟩)
  · have c := (nI_leI (by omega) (by omega)).mp c
    rw [nI_clamp (by omega)] at e3
    exact fin _ _ c (Or.inl ⟨rfl, rfl⟩) v3 e3
  · have c : lr b ≤ lr a := by
      rcases Nat.le_total (lr a) (lr b) with q | q
      · exact absurd (nI_le q (by omega)) c
      · exact q
    rw [nI_clamp (by omega)] at e3
    exact fin _ _ c (Or.inr ⟨rfl, rfl⟩) v3 e3
/-- what counts leaves -/
def m_od (ρ : Nat → Nat) (κ : Nat) (lr : Nat → Nat) (v : z_Dat) : Prop := ∀ x, x ≤ n_B ρ → v 251 x = nI (if x = lr (n_B ρ) then 0 else u_pr (n_is ρ κ) lr x (n_B ρ))
theorem m_od_o {w : Nat} (hU : u_MF (n_B ρ) ld lr lab) (hw : w ≤ n_B ρ) : (if lr w = lr (n_B ρ) then 0 else u_pr (n_is ρ κ) lr (lr w) (n_B ρ)) = u_o ρ κ lab w := by
  unfold u_o
  by_cases c : lr w = lr (n_B ρ)
  · rw [if_pos c, if_pos ((hU.2 w _ hw (Nat.le_refl _)).mp c)]
  · rw [if_neg c, if_neg (fun z => c ((hU.2 w _ hw (Nat.le_refl _)).mpr z))]
    exact u_pr_c _ (fun u hu => hU.2 u w (by omega) hw)
theorem sp_X11_opens {w : Nat} (hd : 1 ≤ d) (hL : z_L S) (hV : p_V ρ) (hN : m_Nt ρ κ v) (hU : u_MF (n_B ρ) ld lr lab) (hl : ∀ u, u ≤ n_B ρ → v 250 u = nI (ld u)) (ho : m_od ρ κ lr v) (hw : w ≤ n_B ρ) (h : Q (some (.int (nI (u_o ρ κ lab w)))) S v) : z_J G d mX11_opens (0, [.ref 223, .int (nI w)], [], S, v) Q := by
  obtain ⟨d, rfl⟩ : ∃ e, d = e + 1 := ⟨d - 1, by omega⟩
  have hBn := n_B_le hV.1 hV.2.1
  have hlw := (hU.1 w hw).2.2.1
  refine sg_X11_opens_0 hL ⟨fun c => sp_X11_leaderOf hL hBn hU hl hw ⟨_, rfl, rfl, vp_in_nI (by omega) (by omega), ?_⟩, fun c => ?_⟩
  · rw [nI_clamp (by omega), ho _ hlw, m_od_o hU hw]; exact h
  · rw [hN.1.2.1] at c
    have c := (nI_eq (by omega) (by omega)).mp c
    have e : u_o ρ κ lab w = 0 := by unfold u_o; rw [c, if_pos rfl]
    rw [e] at h; exact h
theorem sp_X11_counts (hd : 1 ≤ d) (hL : z_L S) (hV : p_V ρ) (hN : m_Nt ρ κ v) (hU : u_MF (n_B ρ) ld lr lab) (hl : ∀ u, u ≤ n_B ρ → v 250 u = nI (ld u))
    (h : ∀ v1 y, m_od ρ κ lr v1 → (∀ b, b ≠ 251 → v1 b = v b) → (u_any ρ κ lab → y = 1) → (¬ u_any ρ κ lab → y = 0) → Q (some (.int y)) S v1) : z_J G d mX11_counts (0, [.ref 223, .null, .null], [], S, v) Q := by
  obtain ⟨d, rfl⟩ : ∃ e, d = e + 1 := ⟨d - 1, by omega⟩
  have hBn := n_B_le hV.1 hV.2.1
  have hlen := n_evs_len (ρ := ρ) (κ := κ)
  have hlB := (hU.1 _ (Nat.le_refl (n_B ρ))).2.2.1
  -- the last loop
  have last : ∀ v1, m_od ρ κ lr v1 → (∀ b, b ≠ 251 → v1 b = v b) → z_J G (d + 1) mX11_counts (76, [.ref 223, .int 0, .int 0], [], S, v1) Q := by
    intro v1 o1 k1
    have e32 : v1 223 32 = nI (n_B ρ) := by rw [k1 223 (by omega)]; exact hN.1.2.1
    have key : ∀ j n (s : Nat), n + j = n_B ρ + 1 → s ≤ 1 → (s = 1 ↔ ∃ x, x < n ∧ (if x = lr (n_B ρ) then 0 else u_pr (n_is ρ κ) lr x (n_B ρ)) = 1) → z_J G (d + 1) mX11_counts (76, [.ref 223, .int (nI s), .int (nI n)], [], S, v1) Q := by
      intro j
      induction j with
      | zero =>
        intro n s hn hs hs1
        refine sg_X11_counts_76 hL ⟨fun _ => ⟨?_, h v1 _ o1 k1 (fun q => ?_) (fun q => ?_)⟩, fun c => absurd (by rw [e32]; exact nI_lt (by omega) (by omega)) c⟩
        · rcases (show s = 0 ∨ s = 1 by omega) with rfl | rfl <;> rfl
        · obtain ⟨w, w1, w2⟩ := q
          have := hs1.mpr ⟨lr w, by have := (hU.1 w (by omega)).2.2.1; omega, by rw [m_od_o hU (by omega)]; exact w2⟩
          rw [this]; rfl
        · have : s = 0 := by
            rcases (show s = 0 ∨ s = 1 by omega) with z | z
            · exact z
            · obtain ⟨x, x1, x2⟩ := hs1.mp z
              by_cases c : x = lr (n_B ρ)
              · rw [if_pos c] at x2; cases x2
              · rw [if_neg c] at x2
                obtain ⟨u, u1, u2, -⟩ := u_pr_1 _ x2
                refine absurd ⟨u, u1, ?_⟩ q
                rw [← m_od_o hU (by omega), u2, if_neg c]; exact x2
          rw [this]; rfl
      | succ j ih =>
        intro n s hn hs hs1
        have hin : vp_in (nI n) 109 := vp_in_nI (by omega) (by omega)
        have hle : (if n = lr (n_B ρ) then 0 else u_pr (n_is ρ κ) lr n (n_B ρ)) ≤ 1 := by
          split
          · omega
          · have := u_pr_lt (w := n_is ρ κ) (lab := lr) (x := n) (n_B ρ); omega
        refine sg_X11_counts_76 hL ⟨fun c => absurd c (by rw [e32]; exact nI_nlt (by omega) (by omega)), fun _ => ?_⟩
        rw [nI_clamp (by omega), o1 n (by omega), nI_1]
        refine ⟨fun c => ?_, fun c => ⟨hin, fun c2 => ?_, fun c2 => ?_⟩⟩
        · have hs2 : s = 1 := by
            rcases (show s = 0 ∨ s = 1 by omega) with z | z
            · rw [z] at c; exact absurd rfl c
            · exact z
          refine ih (n + 1) 1 (by omega) (by omega) ⟨fun _ => ?_, fun _ => rfl⟩
          obtain ⟨x, x1, x2⟩ := hs1.mp hs2
          exact ⟨x, by omega, x2⟩
        · have c := (nI_eq (b := 0) (by omega) (by omega)).mp c
          refine ih (n + 1) 0 (by omega) (by omega) ⟨fun z => (by cases z), fun ⟨x, x1, x2⟩ => ?_⟩
          by_cases z : x = n
          · rw [z] at x2; rw [x2] at c2; exact absurd rfl c2
          · have := hs1.mpr ⟨x, by omega, x2⟩
            omega
        · exact ih (n + 1) 1 (by omega) (by omega) ⟨fun _ => ⟨n, by omega, (nI_eq (b := 1) (by omega) (by omega)).mp c2⟩, fun _ => rfl⟩
    exact key _ 0 0 (Nat.zero_add _) (by omega) ⟨fun z => (by cases z), fun ⟨x, x1, _⟩ => (by omega)⟩
  -- events
  have mid : ∀ j i v1, i + j = (n_evs ρ κ).length → (∀ x, x ≤ n_B ρ → v1 251 x = nI (u_pl (n_evs ρ κ) lr x i)) → (∀ b, b ≠ 251 → v1 b = v b) → z_J G (d + 1) mX11_counts (25, [.ref 223, .int (nI i), .null], [], S, v1) Q := by
    intro j
    induction j with
    | zero =>
      intro i v1 hi k1 k2
      have hi : i = (n_evs ρ κ).length := by omega
      subst hi
      have e32 : v1 223 32 = nI (n_B ρ) := by rw [k2 223 (by omega)]; exact hN.1.2.1
      have e33 : v1 223 33 = nI (n_evs ρ κ).length := by rw [k2 223 (by omega)]; exact hN.1.2.2
      refine sg_X11_counts_25 hL ⟨fun _ => ?_, fun c => absurd (by rw [e33]; exact nI_le (Nat.le_refl _) (by omega)) c⟩
      rw [e32]
      refine sp_X11_leaderOf hL hBn hU (fun u hu => by rw [k2 250 (by omega)]; exact hl u hu) (Nat.le_refl _) ⟨_, rfl, rfl, vp_in_nI (by omega) (by omega), fun v2 e2 => ?_⟩
      rw [nI_clamp (by omega)] at e2
      refine last v2 (fun x hx => ?_) (fun b hb => by rw [e2, z_u_ne hb]; exact k2 b hb)
      by_cases z : x = lr (n_B ρ)
      · rw [e2, z_ue rfl z, if_pos z]; rfl
      · rw [e2, z_un (Or.inr z), if_neg z, k1 x hx]
        have e := u_pl_ev (ρ := ρ) (κ := κ) (f := lr) (x := x) (n_B ρ)
        have e : u_pl (n_evs ρ κ) lr x (n_evs ρ κ).length = u_pr (n_is ρ κ) lr x (n_B ρ) := e
        rw [e]
    | succ j ih =>
      intro i v1 hi k1 k2
      have hlt := n_evs_lt (ρ := ρ) (κ := κ) (i := i) (by omega)
      have e33 : v1 223 33 = nI (n_evs ρ κ).length := by rw [k2 223 (by omega)]; exact hN.1.2.2
      have hlw := (hU.1 ((n_evs ρ κ).getD i 0) (by omega)).2.2.1
      refine sg_X11_counts_25 hL ⟨fun c => absurd c (by rw [e33]; exact nI_ge (by omega) (by omega)), fun _ => ⟨vp_in_nI (by omega) (by omega), ?_⟩⟩
      rw [nI_clamp (by omega), k2 242 (by omega), hN.2.2 i (by omega), nI_1]
      refine sp_X11_leaderOf hL hBn hU (fun u hu => by rw [k2 250 (by omega)]; exact hl u hu) (by omega) ⟨_, rfl, rfl, vp_in_nI (by omega) (by omega), vp_in_nI (by omega) (by omega), fun v4 e4 => ?_⟩
      have hpl := u_pl_lt (l := n_evs ρ κ) (f := lr) (x := lr ((n_evs ρ κ).getD i 0)) i
      rw [nI_clamp (by omega), k1 _ hlw, x_fl (by omega)] at e4
      refine ih (i + 1) v4 (by omega) (fun x hx => ?_) (fun b hb => by rw [e4, z_u_ne hb]; exact k2 b hb)
      rw [u_pl]
      by_cases z : x = lr ((n_evs ρ κ).getD i 0)
      · rw [e4, z_ue rfl z, if_pos z.symm, z]
        congr 1
        omega
      · rw [e4, z_un (Or.inr z), if_neg (fun q => z q.symm), k1 x hx]
        have := u_pl_lt (l := n_evs ρ κ) (f := lr) (x := x) i
        congr 1
        omega
  -- nothing yet
  have first : ∀ j n v1, n + j = n_B ρ + 1 → (∀ x, x < n → v1 251 x = 0) → (∀ b, b ≠ 251 → v1 b = v b) → z_J G (d + 1) mX11_counts (2, [.ref 223, .int (nI n), .null], [], S, v1) Q := by
    intro j
    induction j with
    | zero =>
      intro n v1 hn k1 k2
      refine sg_X11_counts_2 hL ⟨fun _ => mid _ 0 v1 (Nat.zero_add _) (fun x hx => k1 x (by omega)) k2, fun c => absurd (by rw [k2 223 (by omega), hN.1.2.1]; exact nI_lt (by omega) (by omega)) c⟩
    | succ j ih =>
      intro n v1 hn k1 k2
      refine sg_X11_counts_2 hL ⟨fun c => absurd c (by rw [k2 223 (by omega), hN.1.2.1]; exact nI_nlt (by omega) (by omega)), fun _ => ⟨vp_in_nI (by omega) (by omega), fun v2 e2 => ?_⟩⟩
      rw [nI_clamp (by omega)] at e2
      rw [nI_1]
      refine ih (n + 1) v2 (by omega) (fun x hx => ?_) (fun b hb => by rw [e2, z_u_ne hb]; exact k2 b hb)
      by_cases z : x = n
      · rw [e2, z_ue rfl z]
      · rw [e2, z_un (Or.inr z)]; exact k1 x (by omega)
  exact sg_X11_counts_0 (first _ 0 v (Nat.zero_add _) (fun x hx => by omega) (fun _ _ => rfl))
end GM
