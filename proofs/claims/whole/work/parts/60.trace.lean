/-! WAYS OF A PAIRING: edges on which they go an odd number of times; trace, flipAlong, goesWay -/
def u_f (l : List Nat) (g : Nat → Nat) : Nat → Nat → Nat
  | 0 => g
  | n + 1 => p_up (u_f l g n) (l.getD n 0) (1 - u_f l g n (l.getD n 0))
theorem u_f_le {l : List Nat} {g : Nat → Nat} (h : ∀ e, g e ≤ 1) : ∀ n e, u_f l g n e ≤ 1
  | 0, e => h e
  | n + 1, e => by
    have ih := u_f_le (l := l) h n
    rw [u_f]
    by_cases z : e = l.getD n 0
    · rw [p_ue z]; omega
    · rw [p_un z]; exact ih e
theorem x_fl {a : Nat} (h : a ≤ 1) : nI a ^^^ 1 = nI (1 - a) := by
  rcases (show a = 0 ∨ a = 1 by omega) with rfl | rfl <;> decide
noncomputable def n_tr (ρ : Nat → Nat) (κ : Nat) : Nat → Nat → Nat
  | 0 => fun _ => 0
  | i + 1 => if n_mt ρ κ i = -2 then u_f (n_wy ρ κ (n_B ρ) 120 ((n_evs ρ κ).getD i 0)) (n_tr ρ κ i) (n_wy ρ κ (n_B ρ) 120 ((n_evs ρ κ).getD i 0)).length
      else if (n_mt ρ κ i).toNatClampNeg ≤ i then n_tr ρ κ i else u_f (n_wy ρ κ ((n_evs ρ κ).getD (n_mt ρ κ i).toNatClampNeg 0) 120 ((n_evs ρ κ).getD i 0)) (n_tr ρ κ i) (n_wy ρ κ ((n_evs ρ κ).getD (n_mt ρ κ i).toNatClampNeg 0) 120 ((n_evs ρ κ).getD i 0)).length
theorem n_tr_le {ρ : Nat → Nat} {κ : Nat} : ∀ i e, n_tr ρ κ i e ≤ 1
  | 0, e => Nat.zero_le _
  | i + 1, e => by
    rw [n_tr]
    split
    · exact u_f_le (n_tr_le i) _ e
    · split
      · exact n_tr_le i e
      · exact u_f_le (n_tr_le i) _ e
theorem n_wy_lt {ρ : Nat → Nat} {κ T : Nat} (hV : p_V ρ) (hκ : κ < 2) (hD : n_isD ρ κ T (n_ds ρ κ T)) : ∀ k s, s < n_B ρ ∨ s = T → ∀ i, i < (n_wy ρ κ T k s).length → (n_wy ρ κ T k s).getD i 0 < n_E ρ
  | 0, s, _, i, hi => by rw [n_wy] at hi; exact absurd hi (Nat.not_lt_zero i)
  | k + 1, s, hs, i, hi => by
    rw [n_wy] at hi ⊢
    by_cases e : s = T
    · rw [if_pos e] at hi; exact absurd hi (Nat.not_lt_zero i)
    · rw [if_neg e] at hi ⊢
      have hs : s < n_B ρ := hs.resolve_right e
      have hg := (n_fe_ok hV hκ hD hs e).1
      cases i with
      | zero => exact hg.1
      | succ i => exact n_wy_lt hV hκ hD k _ (n_gd_to hV hκ hs hg).1 i (by simpa using hi)
section TR
variable {G : z_G} {d : Nat} {S : z_Shp} {v v0 : z_Dat} {Q : Option Value → z_Shp → z_Dat → Prop} {ρ : Nat → Nat} {κ : Nat} {B : Nat × Nat × Nat}
theorem sp_X5_flipAlong {l : List Nat} {g : Nat → Nat} {E : Nat} (hL : z_L S) (h1 : v 158 1 = nI l.length) (h2 : ∀ i, i < l.length → v 159 i = nI (l.getD i 0)) (hl : l.length ≤ 120) (hlt : ∀ i, i < l.length → l.getD i 0 < E) (hE : E ≤ 321) (hg : ∀ e, g e ≤ 1) (h3 : ∀ e, e < E → v 166 e = nI (g e))
    (h : ∀ v1, (∀ e, e < E → v1 166 e = nI (u_f l g l.length e)) → (∀ b, b ≠ 166 → v1 b = v b) → Q none S v1) : z_J G d mX5_flipAlong (0, [.ref 164, .ref 158, .null], [], S, v) Q := by
  have key : ∀ j n v1, n + j = l.length → (∀ e, e < E → v1 166 e = nI (u_f l g n e)) → (∀ b, b ≠ 166 → v1 b = v b) → z_J G d mX5_flipAlong (2, [.ref 164, .ref 158, .int (nI n)], [], S, v1) Q := by
    intro j
    induction j with
    | zero =>
      intro n v1 hn k1 k2
      have hn : n = l.length := by omega
      subst hn
      refine sg_X5_flipAlong_2 hL ⟨fun _ => h v1 k1 k2, fun c => absurd ?_ c⟩
      rw [k2 158 (by omega), h1]; exact nI_le (Nat.le_refl _) (by omega)
    | succ j ih =>
      intro n v1 hn k1 k2
      have e159 : v1 159 n = nI (l.getD n 0) := by rw [k2 159 (by omega)]; exact h2 n (by omega)
      have hlt2 := hlt n (by omega)
      refine sg_X5_flipAlong_2 hL ⟨fun c => ?_, fun _ => ?_⟩
      · rw [k2 158 (by omega), h1] at c; exact absurd c (nI_ge (by omega) (by omega))
      · rw [nI_clamp (n := n) (by omega), e159, nI_clamp (n := l.getD n 0) (by omega), k1 _ hlt2, x_fl (u_f_le hg n _), nI_1]
        refine ⟨vp_in_nI (by omega) (by omega), vp_in_nI (by omega) (by omega), vp_in_nI (by omega) (by omega), fun v2 e2 => ?_⟩
        refine ih (n + 1) v2 (by omega) (fun e he => ?_) (fun b hb => by rw [e2, z_u_ne hb]; exact k2 b hb)
        rw [u_f]
        by_cases z : e = l.getD n 0
        · rw [p_ue z, e2, z_ue rfl z]
        · rw [p_un z, e2, z_un (Or.inr z)]; exact k1 e he
  exact sg_X5_flipAlong_0 (key l.length 0 v (Nat.zero_add _) h3 (fun _ _ => rfl))
theorem sp_X11_goesWay {l : List Nat} {g : Nat → Nat} {E : Nat} (hL : z_L S) (h1 : v 223 36 = nI l.length) (h2 : ∀ i, i < l.length → v 243 i = nI (l.getD i 0)) (hl : l.length ≤ 120) (hlt : ∀ i, i < l.length → l.getD i 0 < E) (hE : E ≤ 321) (hg : ∀ e, g e ≤ 1) (h3 : ∀ e, e < E → v 258 e = nI (g e))
    (h : ∀ v1, (∀ e, e < E → v1 258 e = nI (u_f l g l.length e)) → (∀ b, b ≠ 258 → v1 b = v b) → Q none S v1) : z_J G d mX11_goesWay (0, [.ref 223, .null], [], S, v) Q := by
  have key : ∀ j n v1, n + j = l.length → (∀ e, e < E → v1 258 e = nI (u_f l g n e)) → (∀ b, b ≠ 258 → v1 b = v b) → z_J G d mX11_goesWay (2, [.ref 223, .int (nI n)], [], S, v1) Q := by
    intro j
    induction j with
    | zero =>
      intro n v1 hn k1 k2
      have hn : n = l.length := by omega
      subst hn
      refine sg_X11_goesWay_2 hL ⟨fun _ => h v1 k1 k2, fun c => absurd ?_ c⟩
      rw [k2 223 (by omega), h1]; exact nI_le (Nat.le_refl _) (by omega)
    | succ j ih =>
      intro n v1 hn k1 k2
      have e159 : v1 243 n = nI (l.getD n 0) := by rw [k2 243 (by omega)]; exact h2 n (by omega)
      have hlt2 := hlt n (by omega)
      have hle := u_f_le (l := l) hg n (l.getD n 0)
      refine sg_X11_goesWay_2 hL ⟨fun c => ?_, fun _ => ?_⟩
      · rw [k2 223 (by omega), h1] at c; exact absurd c (nI_ge (by omega) (by omega))
      · rw [nI_clamp (n := n) (by omega), e159, nI_clamp (n := l.getD n 0) (by omega), k1 _ hlt2, nI_1]
        have fin : ∀ v2, v2 = z_u v1 258 (l.getD n 0) (nI (1 - u_f l g n (l.getD n 0))) → z_J G d mX11_goesWay (2, [.ref 223, .int (nI (n + 1))], [], S, v2) Q := fun v2 e2 => by
          refine ih (n + 1) v2 (by omega) (fun e he => ?_) (fun b hb => by rw [e2, z_u_ne hb]; exact k2 b hb)
          rw [u_f]
          by_cases z : e = l.getD n 0
          · rw [p_ue z, e2, z_ue rfl z]
          · rw [p_un z, e2, z_un (Or.inr z)]; exact k1 e he
        have hin : vp_in (nI (l.getD n 0)) 321 := vp_in_nI (by omega) (by omega)
        refine ⟨vp_in_nI (by omega) (by omega), vp_in_nI (by omega) (by omega), hin, fun c => ⟨hin, fun v2 e2 => fin v2 ?_⟩, fun c => ⟨hin, fun v2 e2 => fin v2 ?_⟩⟩
        · have z : u_f l g n (l.getD n 0) = 1 := by
            rcases (show u_f l g n (l.getD n 0) = 0 ∨ u_f l g n (l.getD n 0) = 1 by omega) with q | q
            · rw [q] at c; exact absurd rfl c
            · exact q
          rw [e2, z]; rfl
        · have z : u_f l g n (l.getD n 0) = 0 := (nI_eq (b := 0) (by omega) (by omega)).mp c
          rw [e2, z]; rfl
  exact sg_X11_goesWay_0 (key l.length 0 v (Nat.zero_add _) h3 (fun _ _ => rfl))
theorem sp_X5_trace (hd : 4 ≤ d) (hL : z_L S) (hV : p_V ρ) (hκ : κ < 2) (h14 : (n_evs ρ κ).length ≤ 14) (hR : c_R ρ κ v) (hS : e_So ρ κ v) (hm : ∀ i, i < (n_evs ρ κ).length → v 165 i = n_mt ρ κ i)
    (h : ∀ v1, (∀ e, e < n_E ρ → v1 166 e = nI (n_tr ρ κ (n_evs ρ κ).length e)) → (∀ b, b ≠ 158 → b ≠ 159 → b ≠ 166 → v1 b = v b) → Q none S v1) : z_J G d mX5_trace (0, [.ref 164, .ref 149, .ref 158, .null], [], S, v) Q := by
  obtain ⟨d, rfl⟩ : ∃ e, d = e + 1 := ⟨d - 1, by omega⟩
  have hBn := n_B_le hV.1 hV.2.1
  have hE := n_E_le hV.1 hV.2.1
  have hlt : ∀ i, i < (n_evs ρ κ).length → (n_evs ρ κ).getD i 0 < n_B ρ := fun i hi => n_evs_lt hi
  have key : ∀ j i v1, i + j = (n_evs ρ κ).length → (∀ e, e < n_E ρ → v1 166 e = nI (n_tr ρ κ i e)) → (∀ b, b ≠ 158 → b ≠ 159 → b ≠ 166 → v1 b = v b) → z_J G (d + 1) mX5_trace (10, [.ref 164, .ref 149, .ref 158, .int (nI i)], [], S, v1) Q := by
    intro j
    induction j with
    | zero =>
      intro i v1 hi k1 k2
      have hi : i = (n_evs ρ κ).length := by omega
      subst hi
      refine sg_X5_trace_10 hL ⟨fun _ => h v1 k1 k2, fun c => absurd ?_ c⟩
      rw [k2 164 (by omega) (by omega) (by omega), hS.1]; exact nI_le (Nat.le_refl _) (by omega)
    | succ j ih =>
      intro i v1 hi k1 k2
      have hi2 : i < (n_evs ρ κ).length := by omega
      have m1 : v1 165 i = n_mt ρ κ i := by rw [k2 165 (by omega) (by omega) (by omega)]; exact hm i hi2
      have s1 : v1 167 i = nI ((n_evs ρ κ).getD i 0) := by rw [k2 167 (by omega) (by omega) (by omega)]; exact (hS.2.2.2.1 i hi2).1
      have R1 : c_R ρ κ v1 := hR.fr (fun a a1 a2 => k2 a (by omega) (by omega) (by omega))
      have hin : vp_in (nI i) 14 := vp_in_nI (by omega) (by omega)
      have hs2 := hlt i hi2
      refine sg_X5_trace_10 hL ⟨fun c => ?_, fun _ => ?_⟩
      · rw [k2 164 (by omega) (by omega) (by omega), hS.1] at c; exact absurd c (nI_ge (by omega) (by omega))
      · rw [nI_clamp (n := i) (by omega), m1, s1, R1.1.2.1, nI_1]
        refine ⟨hin, fun c => ⟨hin, fun c2 => ?_, fun c2 => ?_⟩, fun c => ⟨hin, ?_⟩⟩
        · obtain ⟨j', j1, j2, j3⟩ := (n_mt_rg h14 hi2).resolve_left c
          rw [j3] at c2
          have c2 := (nI_leI (by omega) (by omega)).mp c2
          refine ih (i + 1) v1 (by omega) (fun e he => ?_) k2
          rw [n_tr, if_neg c, if_pos (by rw [j3, nI_clamp (by omega)]; exact c2)]
          exact k1 e he
        · obtain ⟨j', j1, j2, j3⟩ := (n_mt_rg h14 hi2).resolve_left c
          have c3 : i < j' := by
            rcases Nat.lt_or_ge i j' with q | q
            · exact q
            · rw [j3] at c2; exact absurd (nI_le q (by omega)) c2
          rw [j3, nI_clamp (n := j') (by omega)]
          have ro := hS.2.2.2.1 j' j1
          have s2 : v1 167 j' = nI ((n_evs ρ κ).getD j' 0) := by rw [k2 167 (by omega) (by omega) (by omega)]; exact ro.1
          have hs3 := hlt j' j1
          rw [s2]
          refine ⟨hin, hin, vp_in_nI (by omega) (by omega), hin, vp_in_nI (by omega) (by omega), ?_⟩
          refine sp_X8_walk (by omega) hL hV hκ (Or.inr (by omega)) (zR_k hL (by omega)) (zR_l hL (by omega)) R1 (by omega) ro.2.2 (ro.2.1.fr (k2 _ (by omega) (by omega) (by omega))) (Or.inl hs2) (fun v2 p1 p2 p3 p4 p5 => ⟨rfl, rfl, ?_⟩)
          refine sp_X5_flipAlong (E := n_E ρ) (g := n_tr ρ κ i) hL p1 p2 p5 (n_wy_lt hV hκ ro.2.2 120 _ (Or.inl hs2)) hE (n_tr_le i) (fun e he => by rw [p3 166 (by omega) (by omega)]; exact k1 e he) (fun v3 q1 q2 => ⟨rfl, rfl, ?_⟩)
          refine ih (i + 1) v3 (by omega) (fun e he => ?_) (fun b b1 b2 b3 => by rw [q2 b b3, p3 b b1 b2]; exact k2 b b1 b2 b3)
          rw [n_tr, if_neg c, if_neg (by rw [j3, nI_clamp (by omega)]; omega), j3, nI_clamp (by omega)]
          exact q1 e he
        · refine sp_X8_walk (by omega) hL hV hκ (Or.inr (by omega)) (zk_183 hL) (zl_183 hL) R1 (Nat.le_refl _) hS.2.2.2.2.2 (hS.2.2.2.2.1.fr (k2 _ (by omega) (by omega) (by omega))) (Or.inl hs2) (fun v2 p1 p2 p3 p4 p5 => ⟨rfl, rfl, ?_⟩)
          refine sp_X5_flipAlong (E := n_E ρ) (g := n_tr ρ κ i) hL p1 p2 p5 (n_wy_lt hV hκ hS.2.2.2.2.2 120 _ (Or.inl hs2)) hE (n_tr_le i) (fun e he => by rw [p3 166 (by omega) (by omega)]; exact k1 e he) (fun v3 q1 q2 => ⟨rfl, rfl, ?_⟩)
          refine ih (i + 1) v3 (by omega) (fun e he => ?_) (fun b b1 b2 b3 => by rw [q2 b b3, p3 b b1 b2]; exact k2 b b1 b2 b3)
          rw [n_tr, if_pos c]
          exact q1 e he
  refine sg_X5_trace_0 hL (sp_J7_fill (zk_166 hL) (by rw [zl_166 hL]; omega) (fun g hg => ⟨rfl, rfl, ?_⟩))
  refine key _ 0 _ (Nat.zero_add _) (fun e he => ?_) (fun b b1 b2 b3 => by rw [z_ua_ne b3])
  rw [z_uae rfl, hg e (by rw [zl_166 hL]; omega)]
  rfl
end TR
