/-! grow, grown, peeledAt: both sides; the reference's grows whole, its lays by what is peeled -/
noncomputable def n_pl (ρ : Nat → Nat) (κ : Nat) : List Nat := u_pp ρ κ (n_fo ρ κ) (n_E ρ)
theorem u_pp_len {ρ : Nat → Nat} {κ : Nat} {F : Nat → Nat} : ∀ e, (u_pp ρ κ F e).length = m_sum (u_Pf ρ κ F) e
  | 0 => rfl
  | e + 1 => by
    have ih := u_pp_len (ρ := ρ) (κ := κ) (F := F) e
    have hl := u_Pf_le (ρ := ρ) (κ := κ) (F := F) (e := e)
    show _ = m_sum (u_Pf ρ κ F) e + u_Pf ρ κ F e
    rw [u_pp]
    by_cases c : u_Pf ρ κ F e = 1
    · rw [if_pos c, List.length_append, List.length_singleton, ih, c]
    · rw [if_neg c, ih]; omega
theorem u_pp_mem {ρ : Nat → Nat} {κ : Nat} {F : Nat → Nat} {e' : Nat} : ∀ e, e' ∈ u_pp ρ κ F e ↔ (e' < e ∧ u_Pf ρ κ F e' = 1)
  | 0 => by
    refine ⟨fun h => ?_, fun h => by omega⟩
    have h : e' ∈ ([] : List Nat) := h
    cases h
  | e + 1 => by
    have ih := u_pp_mem (ρ := ρ) (κ := κ) (F := F) (e' := e') e
    rw [u_pp]
    by_cases c : u_Pf ρ κ F e = 1
    · rw [if_pos c, List.mem_append, List.mem_singleton, ih]
      refine ⟨fun q => ?_, fun q => ?_⟩
      · rcases q with q | q
        · exact ⟨by omega, q.2⟩
        · rw [q]; exact ⟨by omega, c⟩
      · by_cases z : e' = e
        · exact Or.inr z
        · exact Or.inl ⟨by omega, q.2⟩
    · rw [if_neg c, ih]
      refine ⟨fun q => ⟨by omega, q.2⟩, fun q => ⟨?_, q.2⟩⟩
      rcases Nat.lt_or_ge e' e with w | w
      · exact w
      · have : e' = e := by omega
        rw [this] at q; exact absurd q.2 c
def u_sw (ρ : Nat → Nat) (κ : Nat) (l : List Nat) : Nat → Nat
  | 0 => 0
  | k + 1 => u_sw ρ κ l k + n_w ρ κ (l.getD k 0)
theorem u_sw_ap {ρ : Nat → Nat} {κ : Nat} {l m : List Nat} : ∀ i, i ≤ l.length → u_sw ρ κ (l ++ m) i = u_sw ρ κ l i
  | 0, _ => rfl
  | i + 1, h => by rw [u_sw, u_sw, u_sw_ap i (by omega), l_gl (by omega)]
theorem u_sw_pp {ρ : Nat → Nat} {κ : Nat} {F : Nat → Nat} : ∀ e, u_sw ρ κ (u_pp ρ κ F e) (u_pp ρ κ F e).length = m_sum (fun e => u_Pf ρ κ F e * n_w ρ κ e) e
  | 0 => rfl
  | e + 1 => by
    have ih := u_sw_pp (ρ := ρ) (κ := κ) (F := F) e
    have hl := u_Pf_le (ρ := ρ) (κ := κ) (F := F) (e := e)
    show _ = m_sum (fun e => u_Pf ρ κ F e * n_w ρ κ e) e + u_Pf ρ κ F e * n_w ρ κ e
    rw [u_pp]
    by_cases c : u_Pf ρ κ F e = 1
    · rw [if_pos c, List.length_append, List.length_singleton, u_sw, u_sw_ap _ (Nat.le_refl _), l_ge, ih, c, Nat.one_mul]
    · rw [if_neg c, ih, show u_Pf ρ κ F e = 0 by omega, Nat.zero_mul, Nat.add_zero]
theorem n_fl_isL {ρ : Nat → Nat} {κ : Nat} (hV : p_V ρ) (hκ : κ < 2) : u_isL ρ (n_fo ρ κ) (n_fl ρ κ) := by
  have hBn := n_B_le hV.1 hV.2.1
  refine ⟨Nat.le_trans (u_fl_le hV hκ) hBn, fun i hi => (u_fl_mem (n_E ρ)).mp (l_mem hi), fun e he hF => l_idx ((u_fl_mem (n_E ρ)).mpr ⟨he, hF⟩)⟩
theorem n_pl_ps {ρ : Nat → Nat} {κ : Nat} : u_ps ρ κ (n_fo ρ κ) (n_fl ρ κ) (n_fl ρ κ).length = n_pl ρ κ := u_ps_pp (n_E ρ) (Nat.le_refl _)
theorem n_pl_len {ρ : Nat → Nat} {κ : Nat} (hV : p_V ρ) (hκ : κ < 2) : (n_pl ρ κ).length ≤ 108 := by
  rw [← n_pl_ps]
  exact Nat.le_trans (u_ps_len _) (n_fl_isL hV hκ).1
theorem n_pl_lt {ρ : Nat → Nat} {κ i : Nat} (hi : i < (n_pl ρ κ).length) : (n_pl ρ κ).getD i 0 < n_E ρ := ((u_pp_mem (n_E ρ)).mp (l_mem hi)).1
noncomputable def n_gt (ρ : Nat → Nat) (κ : Nat) : Nat → Int32
  | 0 => nI (u_N ρ κ)
  | 1 => nI (m_sum (n_wh ρ κ) (n_E ρ))
  | 2 => nI (n_fl ρ κ).length
  | _ => nI (n_pl ρ κ).length
def m_Gr (ρ : Nat → Nat) (κ : Nat) (v : z_Dat) : Prop := v 223 50 = nI (u_N ρ κ) ∧ v 223 51 = nI (m_sum (n_wh ρ κ) (n_E ρ)) ∧ v 223 52 = nI (n_fl ρ κ).length ∧ v 223 53 = nI (n_pl ρ κ).length ∧ ∀ i, i < (n_pl ρ κ).length → v 253 i = nI ((n_pl ρ κ).getD i 0)
/-- what was told of growing: whether, four numbers, what was peeled -/
def c_Tg (v : z_Dat) (g : Nat) (t : Nat → Int32) (l : List Nat) : Prop := v 198 2 = nI g ∧ g ≤ 1 ∧ (g = 1 → ∀ i, i < 4 → v 200 i = t i) ∧ v 198 4 = nI l.length ∧ l.length ≤ 108 ∧ ∀ i, i < l.length → v 201 i = nI (l.getD i 0)
def m_Tg (v : z_Dat) (g : Nat) (t : Nat → Int32) (l : List Nat) : Prop := v 223 56 = nI g ∧ g ≤ 1 ∧ (g = 1 → (∀ i, i < 4 → v 256 i = t i) ∧ t 3 = nI l.length) ∧ (g = 0 → l = []) ∧ l.length ≤ 108 ∧ ∀ i, i < l.length → v 257 i = nI (l.getD i 0)
def a_grow (ρ : Nat → Nat) (x1 y : Int32) (g : Nat) (t : Nat → Int32) (l : List Nat) (g' : Nat) (t' : Nat → Int32) (l' : List Nat) : Prop := (∃ κ, κ < 2 ∧ x1 = nI κ ∧ y = nI (m_sum (fun e => n_pf ρ κ e * n_w ρ κ e) (n_E ρ)) ∧ g' = 1 ∧ t' = n_gt ρ κ ∧ l' = n_pl ρ κ) ∨ (¬ (x1 = 0 ∨ x1 = 1) ∧ y = -1 ∧ g' = g ∧ t' = t ∧ l' = l)
theorem a_grow_u {ρ : Nat → Nat} {x1 y y2 : Int32} {g g' g'' : Nat} {t t' t'' : Nat → Int32} {l l' l'' : List Nat} (h : a_grow ρ x1 y g t l g' t' l') (h' : a_grow ρ x1 y2 g t l g'' t'' l'') : y = y2 ∧ g' = g'' ∧ t' = t'' ∧ l' = l'' := by
  rcases h with ⟨κ, h0, h1, h2, h3, h4, h5⟩ | ⟨h1, h2, h3, h4, h5⟩ <;> rcases h' with ⟨κ', k0, k1, k2, k3, k4, k5⟩ | ⟨k1, k2, k3, k4, k5⟩
  · have e : κ = κ' := (nI_eq (by omega) (by omega)).mp (h1.symm.trans k1)
    subst e
    rw [h2, k2, h3, k3, h4, k4, h5, k5]; exact ⟨rfl, rfl, rfl, rfl⟩
  · exact absurd (k_to h0 h1) k1
  · exact absurd (k_to k0 k1) h1
  · rw [h2, k2, h3, k3, h4, k4, h5, k5]; exact ⟨rfl, rfl, rfl, rfl⟩
def a_grn (g : Nat) (t : Nat → Int32) (x y : Int32) : Prop := (g = 1 ∧ a_ix 4 t x y) ∨ (g ≠ 1 ∧ y = -1)
theorem a_grn_u {g : Nat} {t : Nat → Int32} {x y y' : Int32} (h : a_grn g t x y) (h' : a_grn g t x y') : y = y' := by
  rcases h with ⟨h1, h2⟩ | ⟨h1, h2⟩ <;> rcases h' with ⟨k1, k2⟩ | ⟨k1, k2⟩
  · exact a_ix_u (by omega) h2 k2
  · exact absurd h1 k1
  · exact absurd k1 h1
  · rw [h2, k2]
section GA
variable {G : z_G} {d : Nat} {S : z_Shp} {v v0 : z_Dat} {Q : Option Value → z_Shp → z_Dat → Prop} {ρ : Nat → Nat} {κ : Nat} {x1 : Int32} {g : Nat} {t : Nat → Int32} {l : List Nat}
theorem sp_X11_grows (hd : 5 ≤ d) (hL : z_L S) (hV : p_V ρ) (hM : p_M v ρ) (hT : p_MT v (ρ 0)) (hκ : κ < 2)
    (h : ∀ v1, m_Gr ρ κ v1 → m_Nt ρ κ v1 → (∀ b, b < 223 ∨ (224 ≤ b ∧ b < 238) ∨ (243 ≤ b ∧ b < 249) ∨ 255 < b → v1 b = v b) → (∀ j, j < 31 ∨ (34 < j ∧ j < 50) ∨ 53 < j → v1 223 j = v 223 j) → Q none S v1) : z_J G d mX11_grows (0, [.ref 223, .int (nI κ), .null], [], S, v) Q := by
  obtain ⟨d, rfl⟩ : ∃ e, d = e + 1 := ⟨d - 1, by omega⟩
  have hBn := n_B_le hV.1 hV.2.1
  have hE := n_E_le hV.1 hV.2.1
  refine sg_X11_grows_0 hL (sp_X11_laysNet (by omega) hL hV hM hT hκ (fun w hN hEv => ⟨rfl, rfl, ?_⟩))
  have Nt : m_Nt ρ κ w := ⟨⟨hN.1.1, hN.1.2, hEv.1⟩, hN.2.1, hEv.2⟩
  have p30 : ∀ j e v1, e + j = n_E ρ → (∀ u, u ≤ n_B ρ → v1 250 u = nI u) → (∀ e', e' < e → v1 249 e' = 0 ∧ v1 254 e' = 0) → m_g w v1 → z_J G (d + 1) mX11_grows (30, [.ref 223, .int (nI κ), .int (nI e)], [], S, v1) Q := by
    intro j
    induction j with
    | zero =>
      intro e v1 he a1 k1 k2
      have he : e = n_E ρ := by omega
      subst he
      refine sg_X11_grows_30 hL ⟨fun _ v2 e2 => ?_, fun c => absurd (by rw [(k2.Nt Nt).1.1]; exact nI_le (Nat.le_refl _) (by omega)) c⟩
      have w2 : ∀ b, b ≠ 223 → v2 b = v1 b := fun b hb => by rw [e2, z_u_ne hb]
      have g2 : m_g w v2 := k2.tr (by rw [e2]; exact m_g.f (by omega))
      refine sp_X11_grows_63 (by omega) hL hV hκ (g2.Nt Nt) ⟨⟨_, _, u_MF_0, fun u hu => by rw [w2 250 (by omega)]; exact a1 u hu⟩, fun e he => by rw [w2 249 (by omega)]; exact (k1 e he).1, fun e he => by rw [w2 254 (by omega)]; exact (k1 e he).2⟩ (by rw [e2, z_ue rfl rfl]) (fun v3 C3 g3 s50 s51 s52 => ?_)
      obtain ⟨-, -, c4⟩ := C3
      refine sp_X11_grows_218 (wh := n_wh ρ κ) (by omega) hL hV hκ (g3.Nt (g2.Nt Nt)) (u_Iv_n hV hκ (u_N ρ κ)).1.2.1 c4 s51 s52 (fun v4 F4 t51 g4 t50 => ?_)
      have Nt4 := g4.Nt (g3.Nt (g2.Nt Nt))
      refine sp_X11_peels (F := n_fo ρ κ) (by omega) hL hV hκ Nt4 F4 (n_fl_isL hV hκ) (fun v5 p1 p2 g5 f5 => ⟨rfl, rfl, ?_⟩)
      have p1 : v5 223 53 = nI (u_ps ρ κ (n_fo ρ κ) (n_fl ρ κ) (n_fl ρ κ).length).length := p1
      have p2 : ∀ i, i < (u_ps ρ κ (n_fo ρ κ) (n_fl ρ κ) (n_fl ρ κ).length).length → v5 253 i = nI ((u_ps ρ κ (n_fo ρ κ) (n_fl ρ κ) (n_fl ρ κ).length).getD i 0) := p2
      rw [n_pl_ps] at p1 p2
      have gg := g2.tr (g3.tr (g4.tr g5))
      refine h v5 ⟨?_, ?_, ?_, p1, p2⟩ (gg.Nt Nt) (fun b hb => ?_) (fun j hj => ?_)
      · rw [f5 50 (by omega), t50]; exact s50
      · rw [f5 51 (by omega)]; exact t51
      · rw [f5 52 (by omega)]; exact F4.1
      · rw [gg.1 b (by omega) (by omega)]
        exact hN.2.2.1 b (by omega) (by omega) (by omega) (by omega) (by omega)
      · rw [gg.2 j (by omega)]
        exact hN.2.2.2 j (by omega)
    | succ j ih =>
      intro e v1 he a1 k1 k2
      have hin : vp_in (nI e) 321 := vp_in_nI (by omega) (by omega)
      refine sg_X11_grows_30 hL ⟨fun c => absurd c (by rw [(k2.Nt Nt).1.1]; exact nI_ge (by omega) (by omega)), fun _ => ⟨hin, fun v2 e2 => ⟨hin, fun v3 e3 => ?_⟩⟩⟩
      rw [nI_clamp (by omega)] at e2 e3
      rw [nI_1]
      refine ih (e + 1) v3 (by omega) (fun u hu => by rw [e3, z_u_ne (by omega), e2, z_u_ne (by omega)]; exact a1 u hu) (fun e' he' => ?_) (k2.tr (by rw [e3, e2]; exact (m_g.u (by omega)).tr (m_g.u (by omega))))
      by_cases z : e' = e
      · exact ⟨by rw [e3, z_u_ne (by omega), e2, z_ue rfl z], by rw [e3, z_ue rfl z]; rfl⟩
      · rw [e3, z_u_ne (by omega), z_un (Or.inr z), e2, z_un (Or.inr z), z_u_ne (by omega)]; exact k1 e' (by omega)
  have p7 : ∀ j n v1, n + j = n_B ρ + 1 → (∀ u, u < n → v1 250 u = nI u) → (∀ b, b ≠ 250 → v1 b = w b) → z_J G (d + 1) mX11_grows (7, [.ref 223, .int (nI κ), .int (nI n)], [], S, v1) Q := by
    intro j
    induction j with
    | zero =>
      intro n v1 hn k1 k2
      exact sg_X11_grows_7 hL ⟨fun _ => p30 (n_E ρ) 0 v1 (Nat.zero_add _) (fun u hu => k1 u (by omega)) (fun e' he' => by omega) (m_g.of k2 (by omega)), fun c => absurd (by rw [k2 223 (by omega), Nt.1.2.1]; exact nI_lt (by omega) (by omega)) c⟩
    | succ j ih =>
      intro n v1 hn k1 k2
      refine sg_X11_grows_7 hL ⟨fun c => absurd c (by rw [k2 223 (by omega), Nt.1.2.1]; exact nI_nlt (by omega) (by omega)), fun _ => ⟨vp_in_nI (by omega) (by omega), fun v2 e2 => ?_⟩⟩
      rw [nI_clamp (by omega)] at e2
      rw [nI_1]
      refine ih (n + 1) v2 (by omega) (fun u hu => ?_) (fun b hb => by rw [e2, z_u_ne hb]; exact k2 b hb)
      by_cases z : u = n
      · rw [e2, z_ue rfl z, z]
      · rw [e2, z_un (Or.inr z)]; exact k1 u (by omega)
  exact p7 _ 0 w (Nat.zero_add _) (fun u hu => by omega) (fun _ _ => rfl)
theorem sp_X11_lays1 (hd : 6 ≤ d) (hL : z_L S) (hV : p_V ρ) (hM : p_M v ρ) (hT : p_MT v (ρ 0)) (hκ : κ < 2)
    (h1 : ∀ v1, (∀ e, e < n_E ρ → v1 258 e = nI (n_pf ρ κ e)) → v1 223 31 = nI (n_E ρ) → m_pk v v1 → Q (some (.int 1)) S v1) : z_J G d mX11_lays_ (0, [.ref 223, .int (nI κ), .int 1, .null], [], S, v) Q := by
  obtain ⟨d, rfl⟩ : ∃ e, d = e + 1 := ⟨d - 1, by omega⟩
  have hE := n_E_le hV.1 hV.2.1
  refine sg_X11_lays__0 hL ⟨fun _ => ⟨fun c => absurd rfl c, fun _ => sp_X11_grows (by omega) hL hV hM hT hκ (fun v1 G1 N1 f1 g1 => ⟨rfl, rfl, ?_⟩)⟩, fun c => absurd c (by decide)⟩
  have hpl := n_pl_len hV hκ
  refine sp_X11_lays_26 hL hE N1.1.1 (fun v2 z2 k2 => ?_)
  have e53 : v2 223 53 = nI (n_pl ρ κ).length := by rw [k2 223 (by omega)]; exact G1.2.2.2.1
  have key : ∀ j k v3, k + j = (n_pl ρ κ).length → (∀ e, e < n_E ρ → ((∃ i, i < k ∧ (n_pl ρ κ).getD i 0 = e) → v3 258 e = 1) ∧ ((¬ ∃ i, i < k ∧ (n_pl ρ κ).getD i 0 = e) → v3 258 e = 0)) → (∀ b, b ≠ 258 → v3 b = v1 b) → z_J G (d + 1) mX11_lays_ (49, [.ref 223, .int (nI κ), .int 1, .int (nI k)], [], S, v3) Q := by
    intro j
    induction j with
    | zero =>
      intro k v3 hk k1 k3
      have hk : k = (n_pl ρ κ).length := by omega
      subst hk
      refine sg_X11_lays__49 hL ⟨fun _ => ⟨fun c => absurd rfl c, fun _ => h1 v3 (fun e he => ?_) (by rw [k3 223 (by omega)]; exact N1.1.1) ⟨fun b hb => ?_, fun j hj => ?_⟩⟩, fun c => absurd (by rw [k3 223 (by omega), G1.2.2.2.1]; exact nI_le (Nat.le_refl _) (by omega)) c⟩
      · have hP := u_Pf_le (ρ := ρ) (κ := κ) (F := n_fo ρ κ) (e := e)
        show v3 258 e = nI (u_Pf ρ κ (n_fo ρ κ) e)
        by_cases c : u_Pf ρ κ (n_fo ρ κ) e = 1
        · rw [c]; exact (k1 e he).1 (l_idx ((u_pp_mem (n_E ρ)).mpr ⟨he, c⟩))
        · rw [show u_Pf ρ κ (n_fo ρ κ) e = 0 by omega]
          refine (k1 e he).2 (fun ⟨i, i1, i2⟩ => c ?_)
          have := ((u_pp_mem (ρ := ρ) (κ := κ) (F := n_fo ρ κ) (n_E ρ)).mp (l_mem i1)).2
          have i2 : (u_pp ρ κ (n_fo ρ κ) (n_E ρ)).getD i 0 = e := i2
          rw [i2] at this; exact this
      · rw [k3 b (by omega)]; exact f1 b (by omega)
      · unfold m_pf at hj
        rw [k3 223 (by omega)]; exact g1 j (by omega)
    | succ j ih =>
      intro k v3 hk k1 k3
      have hlt := n_pl_lt (ρ := ρ) (κ := κ) (i := k) (by omega)
      refine sg_X11_lays__49 hL ⟨fun c => absurd c (by rw [k3 223 (by omega), G1.2.2.2.1]; exact nI_ge (by omega) (by omega)), fun _ => ⟨fun c => absurd rfl c, fun _ => ⟨vp_in_nI (by omega) (by omega), ?_⟩⟩⟩
      rw [nI_clamp (n := k) (by omega), k3 253 (by omega), G1.2.2.2.2 k (by omega), nI_clamp (n := (n_pl ρ κ).getD k 0) (by omega), nI_1]
      refine ⟨vp_in_nI (by omega) (by omega), fun v4 e4 => ?_⟩
      refine ih (k + 1) v4 (by omega) (fun e he => ?_) (fun b hb => by rw [e4, z_u_ne hb]; exact k3 b hb)
      by_cases z : e = (n_pl ρ κ).getD k 0
      · exact ⟨fun _ => by rw [e4, z_ue rfl z]; rfl, fun q => absurd ⟨k, by omega, z.symm⟩ q⟩
      · rw [e4, z_un (Or.inr z)]
        refine ⟨fun ⟨i, i1, i2⟩ => (k1 e he).1 ⟨i, ?_, i2⟩, fun q => (k1 e he).2 (fun ⟨i, i1, i2⟩ => q ⟨i, by omega, i2⟩)⟩
        rcases Nat.lt_or_ge i k with w | w
        · exact w
        · have : i = k := by omega
          rw [this] at i2; exact absurd i2.symm z
  exact key _ 0 v2 (Nat.zero_add _) (fun e he => ⟨fun ⟨i, i1, _⟩ => by omega, fun _ => z2 e he⟩) k2
theorem sp_X11_grow (hd : 6 ≤ d) (hL : z_L S) (hV : p_V ρ) (hM : p_M v ρ) (hT : p_MT v (ρ 0)) (hTg : m_Tg v g t l)
    (h : ∀ v1 y g' t' l', a_grow ρ x1 y g t l g' t' l' → m_Tg v1 g' t' l' → (∀ b, b < 223 ∨ (224 ≤ b ∧ b < 238) ∨ (243 ≤ b ∧ b < 249) ∨ 257 < b → v1 b = v b) → (∀ j, m_pf j → j ≠ 56 → v1 223 j = v 223 j) → Q (some (.int y)) S v1) : z_J G d mX11_grow (0, [.ref 223, .int x1, .null, .null], [], S, v) Q := by
  obtain ⟨d, rfl⟩ : ∃ e, d = e + 1 := ⟨d - 1, by omega⟩
  have hE := n_E_le hV.1 hV.2.1
  refine sg_X11_grow_0 hL (fun v1 e1 => ?_)
  have f1 : m_f6 v v1 := by rw [e1]; exact m_f6.u0
  have w1 : ∀ b, b ≠ 223 → v1 b = v b := fun b hb => by rw [e1, z_u_ne hb]
  refine ⟨fun c => ?_, fun c => h v1 _ g t l (Or.inr ⟨c, rfl, rfl, rfl, rfl⟩) ?_ (fun b hb => w1 b (by omega)) (fun j hj _ => f1.pk.2 j hj)⟩
  · obtain ⟨κ, hκ, rfl⟩ := k_of c
    refine sp_X11_grows (by omega) hL hV (f1.M hM) (f1.T hT) hκ (fun v2 G2 N2 f2 g2 => ⟨rfl, rfl, fun v3 e3 v4 e4 v5 e5 v6 e6 v7 e7 => ?_⟩)
    have hpl := n_pl_len hV hκ
    have w3 : ∀ j, j ≠ 56 → v3 223 j = v2 223 j := fun j hj => by rw [e3, z_un (Or.inr hj)]
    have w7 : ∀ b, b ≠ 223 → b ≠ 256 → v7 b = v2 b := fun b b1 b2 => by rw [e7, z_u_ne b2, e6, z_u_ne b2, e5, z_u_ne b2, e4, z_u_ne b2, e3, z_u_ne b1]
    have w7f : v7 223 = v3 223 := by rw [e7, z_u_ne (by omega), e6, z_u_ne (by omega), e5, z_u_ne (by omega), e4, z_u_ne (by omega)]
    have q0 : v7 256 0 = nI (u_N ρ κ) := by rw [e7, z_un (by omega), e6, z_un (by omega), e5, z_un (by omega), e4, z_ue rfl rfl, w3 50 (by omega)]; exact G2.1
    have q1 : v7 256 1 = nI (m_sum (n_wh ρ κ) (n_E ρ)) := by rw [e7, z_un (by omega), e6, z_un (by omega), e5, z_ue rfl rfl, e4, z_u_ne (by omega), w3 51 (by omega)]; exact G2.2.1
    have q2 : v7 256 2 = nI (n_fl ρ κ).length := by rw [e7, z_un (by omega), e6, z_ue rfl rfl, e5, z_u_ne (by omega), e4, z_u_ne (by omega), w3 52 (by omega)]; exact G2.2.2.1
    have q3 : v7 256 3 = nI (n_pl ρ κ).length := by rw [e7, z_ue rfl rfl, e6, z_u_ne (by omega), e5, z_u_ne (by omega), e4, z_u_ne (by omega), w3 53 (by omega)]; exact G2.2.2.2.1
    have key : ∀ j k v8, k + j = (n_pl ρ κ).length → (∀ i, i < k → v8 257 i = nI ((n_pl ρ κ).getD i 0)) → (∀ b, b ≠ 257 → v8 b = v7 b) → z_J G (d + 1) mX11_grow (68, [.ref 223, .int (nI κ), .int (nI (u_sw ρ κ (n_pl ρ κ) k)), .int (nI k)], [], S, v8) Q := by
      intro j
      induction j with
      | zero =>
        intro k v8 hk k1 k2
        have hk : k = (n_pl ρ κ).length := by omega
        subst hk
        have e53 : v8 223 53 = nI (n_pl ρ κ).length := by rw [k2 223 (by omega), w7f, w3 53 (by omega)]; exact G2.2.2.2.1
        refine sg_X11_grow_68 hL ⟨fun _ => ?_, fun c => absurd (by rw [e53]; exact nI_le (Nat.le_refl _) (by omega)) c⟩
        have es : u_sw ρ κ (n_pl ρ κ) (n_pl ρ κ).length = m_sum (fun e => n_pf ρ κ e * n_w ρ κ e) (n_E ρ) := u_sw_pp (n_E ρ)
        rw [es]
        refine h v8 _ 1 (n_gt ρ κ) (n_pl ρ κ) (Or.inl ⟨κ, hκ, rfl, rfl, rfl, rfl, rfl⟩) ⟨?_, by omega, fun _ => ⟨fun i hi => ?_, rfl⟩, fun z => (by cases z), hpl, k1⟩ (fun b hb => ?_) (fun j hj hj2 => ?_)
        · rw [k2 223 (by omega), w7f, e3, z_ue rfl rfl]; rfl
        · rw [k2 256 (by omega)]
          rcases (show i = 0 ∨ i = 1 ∨ i = 2 ∨ i = 3 by omega) with rfl | rfl | rfl | rfl
          · exact q0
          · exact q1
          · exact q2
          · exact q3
        · rw [k2 b (by omega), w7 b (by omega) (by omega), f2 b (by omega)]; exact w1 b (by omega)
        · have hj3 := hj
          unfold m_pf at hj3
          rw [k2 223 (by omega), w7f, w3 j hj2, g2 j (by omega)]; exact f1.pk.2 j hj
      | succ j ih =>
        intro k v8 hk k1 k2
        have hlt := n_pl_lt (ρ := ρ) (κ := κ) (i := k) (by omega)
        have e53 : v8 223 53 = nI (n_pl ρ κ).length := by rw [k2 223 (by omega), w7f, w3 53 (by omega)]; exact G2.2.2.2.1
        have e253 : v8 253 k = nI ((n_pl ρ κ).getD k 0) := by rw [k2 253 (by omega), w7 253 (by omega) (by omega)]; exact G2.2.2.2.2 k (by omega)
        have hin : vp_in (nI k) 109 := vp_in_nI (by omega) (by omega)
        refine sg_X11_grow_68 hL ⟨fun c => absurd c (by rw [e53]; exact nI_ge (by omega) (by omega)), fun _ => ⟨hin, hin, fun v9 e9 => ⟨hin, ?_⟩⟩⟩
        rw [nI_clamp (by omega), e253] at e9
        have e253' : v9 253 k = nI ((n_pl ρ κ).getD k 0) := by rw [e9, z_u_ne (by omega)]; exact e253
        have e240 : v9 240 ((n_pl ρ κ).getD k 0) = nI (n_w ρ κ ((n_pl ρ κ).getD k 0)) := by rw [e9, z_u_ne (by omega), k2 240 (by omega), w7 240 (by omega) (by omega)]; exact (N2.2.1 _ hlt).2.2
        rw [nI_clamp (by omega), e253', nI_clamp (by omega), e240, nI_add, nI_1]
        refine ⟨vp_in_nI (by omega) (by omega), ih (k + 1) v9 (by omega) (fun i hi => ?_) (fun b hb => by rw [e9, z_u_ne hb]; exact k2 b hb)⟩
        by_cases z : i = k
        · rw [e9, z_ue rfl z, z]
        · rw [e9, z_un (Or.inr z)]; exact k1 i (by omega)
    exact key _ 0 v7 (Nat.zero_add _) (fun i hi => by omega) (fun _ _ => rfl)
  · unfold m_Tg
    rw [f1.pk.2 56 (by unfold m_pf; omega), w1 256 (by omega), w1 257 (by omega)]; exact hTg
theorem sp_X10_grow (hd : 5 ≤ d) (hL : z_L S) (hV : p_V ρ) (hW : p_Ws v) (hF : p_F S v 37 ρ) (hTg : c_Tg v g t l)
    (h : ∀ v1 y g' t' l', a_grow ρ x1 y g t l g' t' l' → c_Tg v1 g' t' l' → (∀ b, b < 149 ∨ (158 ≤ b ∧ b < 186) ∨ (194 < b ∧ b < 198) ∨ b = 199 ∨ 201 < b → v1 b = v b) → (∀ j, j ≠ 2 → j ≠ 4 → v1 198 j = v 198 j) → Q (some (.int y)) S v1) : z_J G d mX10_grow (0, [.ref 0, .int x1], [], S, v) Q := by
  obtain ⟨d, rfl⟩ : ∃ e, d = e + 1 := ⟨d - 1, by omega⟩
  have hE := n_E_le hV.1 hV.2.1
  refine sg_X10_grow_0 hL ⟨fun c => ?_, fun c => h v _ g t l (Or.inr ⟨c, rfl, rfl, rfl, rfl⟩) hTg (fun _ _ => rfl) (fun _ _ _ => rfl)⟩
  obtain ⟨κ, hκ, rfl⟩ := k_of c
  have hpl := n_pl_len hV hκ
  refine sp_X10_growAndPeel (by omega) hL hV hW zF_37 hF hκ (fun v1 R1 G1 f1 => ⟨rfl, rfl, ?_⟩)
  refine sg_X7_keepGrowth_0 hL (fun v2 e2 v3 e3 v4 e4 v5 e5 v6 e6 v7 e7 => ?_)
  have w7 : ∀ b, b ≠ 198 → b ≠ 200 → v7 b = v1 b := fun b b1 b2 => by rw [e7, z_u_ne b1, e6, z_u_ne b2, e5, z_u_ne b2, e4, z_u_ne b2, e3, z_u_ne b2, e2, z_u_ne b1]
  have w6 : v6 186 = v1 186 ∧ v5 186 = v1 186 ∧ v4 186 = v1 186 ∧ v3 186 = v1 186 ∧ v2 186 = v1 186 := by
    have a2 : v2 186 = v1 186 := by rw [e2, z_u_ne (by omega)]
    have a3 : v3 186 = v1 186 := by rw [e3, z_u_ne (by omega), a2]
    have a4 : v4 186 = v1 186 := by rw [e4, z_u_ne (by omega), a3]
    have a5 : v5 186 = v1 186 := by rw [e5, z_u_ne (by omega), a4]
    exact ⟨by rw [e6, z_u_ne (by omega), a5], a5, a4, a3, a2⟩
  have q0 : v7 200 0 = nI (u_N ρ κ) := by rw [e7, z_un (by omega), e6, z_un (by omega), e5, z_un (by omega), e4, z_un (by omega), e3, z_ue rfl rfl, w6.2.2.2.2]; exact G1.1
  have q1 : v7 200 1 = nI (m_sum (n_wh ρ κ) (n_E ρ)) := by rw [e7, z_un (by omega), e6, z_un (by omega), e5, z_un (by omega), e4, z_ue rfl rfl, w6.2.2.2.1]; exact G1.2.1
  have q2 : v7 200 2 = nI (n_fl ρ κ).length := by rw [e7, z_un (by omega), e6, z_un (by omega), e5, z_ue rfl rfl, w6.2.2.1]; exact G1.2.2.1
  have q3 : v7 200 3 = nI (n_pl ρ κ).length := by
    rw [e7, z_un (by omega), e6, z_ue rfl rfl, w6.2.1, G1.2.2.2.1]
    show _ = nI (u_pp ρ κ (n_fo ρ κ) (n_E ρ)).length
    rw [u_pp_len]; rfl
  have key : ∀ j e v8, e + j = n_E ρ → v8 198 4 = nI (u_pp ρ κ (n_fo ρ κ) e).length → (u_pp ρ κ (n_fo ρ κ) e).length ≤ e → (∀ i, i < (u_pp ρ κ (n_fo ρ κ) e).length → v8 201 i = nI ((u_pp ρ κ (n_fo ρ κ) e).getD i 0)) → (∀ b, b ≠ 198 → b ≠ 201 → v8 b = v7 b) → (∀ j, j ≠ 4 → v8 198 j = v7 198 j) → z_J G d mX7_keepGrowth (52, [.ref 198, .ref 186, .ref 149, .int (nI e)], [], S, v8) (fun r S1 v2 => r = none ∧ S1 = S ∧ Q (some (.int (v2 186 4))) S v2) := by
    intro j
    induction j with
    | zero =>
      intro e v8 he k1 k5 k2 k3 k4
      have he : e = n_E ρ := by omega
      subst he
      have R8 : c_R ρ κ v8 := R1.fr (fun a a1 a2 => by rw [k3 a (by omega) (by omega), w7 a (by omega) (by omega)])
      refine sg_X7_keepGrowth_52 hL ⟨fun _ => ?_, fun c => absurd (by rw [R8.1.2.2.1]; exact nI_le (Nat.le_refl _) (by omega)) c⟩
      refine ⟨rfl, rfl, ?_⟩
      rw [k3 186 (by omega) (by omega), w7 186 (by omega) (by omega), G1.2.2.2.2.1]
      refine h v8 _ 1 (n_gt ρ κ) (n_pl ρ κ) (Or.inl ⟨κ, hκ, rfl, rfl, rfl, rfl, rfl⟩) ⟨?_, by omega, fun _ i hi => ?_, k1, hpl, k2⟩ (fun b hb => ?_) (fun j j1 j2 => ?_)
      · rw [k4 2 (by omega), e7, z_un (by omega), e6, z_u_ne (by omega), e5, z_u_ne (by omega), e4, z_u_ne (by omega), e3, z_u_ne (by omega), e2, z_ue rfl rfl]; rfl
      · rw [k3 200 (by omega) (by omega)]
        rcases (show i = 0 ∨ i = 1 ∨ i = 2 ∨ i = 3 by omega) with rfl | rfl | rfl | rfl
        · exact q0
        · exact q1
        · exact q2
        · exact q3
      · rw [k3 b (by omega) (by omega), w7 b (by omega) (by omega)]; exact f1 b (by omega)
      · rw [k4 j j2, e7, z_un (Or.inr j2), e6, z_u_ne (by omega), e5, z_u_ne (by omega), e4, z_u_ne (by omega), e3, z_u_ne (by omega), e2, z_un (Or.inr j1), f1 198 (by omega)]
    | succ j ih =>
      intro e v8 he k1 k5 k2 k3 k4
      have R8 : c_R ρ κ v8 := R1.fr (fun a a1 a2 => by rw [k3 a (by omega) (by omega), w7 a (by omega) (by omega)])
      have e187 : v8 187 e = nI (u_Pf ρ κ (n_fo ρ κ) e) := by rw [k3 187 (by omega) (by omega), w7 187 (by omega) (by omega)]; exact G1.2.2.2.2.2 e (by omega)
      have hP := u_Pf_le (ρ := ρ) (κ := κ) (F := n_fo ρ κ) (e := e)
      have nx := ih (e + 1)
      rw [u_pp] at nx
      refine sg_X7_keepGrowth_52 hL ⟨fun c => absurd c (by rw [R8.1.2.2.1]; exact nI_ge (by omega) (by omega)), fun _ => ⟨vp_in_nI (by omega) (by omega), ?_⟩⟩
      rw [nI_clamp (by omega), e187, nI_1, k1]
      refine ⟨fun c => ?_, fun c => ⟨vp_in_nI (by omega) (by omega), fun v9 e9 v10 e10 => ?_⟩⟩
      · rw [if_neg (fun z => c (by rw [z]; rfl))] at nx
        exact nx v8 (by omega) k1 (by omega) k2 k3 k4
      · have c := (nI_eq (b := 1) (by omega) (by omega)).mp c
        rw [if_pos c] at nx
        rw [nI_clamp (by omega)] at e9
        refine nx v10 (by omega) ?_ ?_ (fun i hi => ?_) (fun b b1 b2 => by rw [e10, z_u_ne b1, e9, z_u_ne b2]; exact k3 b b1 b2) (fun j hj => by rw [e10, z_un (Or.inr hj), e9, z_u_ne (by omega)]; exact k4 j hj)
        · rw [e10, z_ue rfl rfl, e9, z_u_ne (by omega), k1, nI_1, List.length_append, List.length_singleton]
        · rw [List.length_append, List.length_singleton]; omega
        · rw [List.length_append, List.length_singleton] at hi
          rw [e10, z_u_ne (by omega), e9]
          by_cases z : i = (u_pp ρ κ (n_fo ρ κ) e).length
          · rw [z_ue rfl z, z, l_ge]
          · rw [z_un (Or.inr z), l_gl (by omega)]; exact k2 i (by omega)
  exact key _ 0 v7 (Nat.zero_add _) (by rw [e7, z_ue rfl rfl]; rfl) (Nat.le_refl _) (fun i hi => absurd hi (Nat.not_lt_zero i)) (fun _ _ _ => rfl) (fun _ _ => rfl)
theorem sp_X10_grown (hL : z_L S) (hTg : c_Tg v g t l) (h : ∀ y, a_grn g t x1 y → Q (some (.int y)) S v) : z_J G d mX10_grown (0, [.ref 0, .int x1], [], S, v) Q := by
  obtain ⟨t1, t2, t3, -⟩ := hTg
  refine sg_X10_grown_0 hL ?_
  rw [t1]
  refine ⟨fun c => h _ (Or.inr ⟨fun z => by rw [z] at c; exact absurd c (by decide), rfl⟩), fun c => ?_⟩
  have hg : g = 1 := by
    rcases (show g = 0 ∨ g = 1 by omega) with z | z
    · rw [z] at c; exact absurd rfl c
    · exact z
  refine ⟨fun c2 => h _ (Or.inl ⟨hg, Or.inr ⟨fun ⟨i, hi, e⟩ => nI_pos (n := i) (by omega) (by rw [← e]; exact c2), rfl⟩⟩), fun c2 => ?_⟩
  obtain ⟨i, hi, rfl⟩ := nI_of c2
  refine ⟨fun c3 => ?_, fun c3 => h _ (Or.inl ⟨hg, Or.inr ⟨fun ⟨j, hj, e⟩ => c3 ?_, rfl⟩⟩)⟩
  · have c3 : nI i < nI 4 := c3
    have c3 := (nI_ltI hi (by omega)).mp c3
    refine ⟨vp_in_nI (by omega) (by omega), ?_⟩
    rw [nI_clamp hi]
    exact h _ (Or.inl ⟨hg, Or.inl ⟨i, c3, rfl, t3 hg i c3⟩⟩)
  · rw [e]; exact nI_lt (b := 4) hj (by omega)
theorem sp_X11_grown (hd : 1 ≤ d) (hL : z_L S) (hTg : m_Tg v g t l) (h : ∀ v1 y, a_grn g t x1 y → v1 = z_u v 223 0 0 → Q (some (.int y)) S v1) : z_J G d mX11_grown (0, [.ref 223, .int x1], [], S, v) Q := by
  obtain ⟨d, rfl⟩ : ∃ e, d = e + 1 := ⟨d - 1, by omega⟩
  obtain ⟨t1, t2, t3, -⟩ := hTg
  refine sg_X11_grown_0 hL (fun v1 e1 => ?_)
  rw [show v1 223 56 = nI g by rw [e1, z_un (by omega)]; exact t1]
  refine ⟨fun c => h v1 _ (Or.inr ⟨fun z => by rw [z] at c; exact absurd c (by decide), rfl⟩) e1, fun c => ?_⟩
  have hg : g = 1 := by
    rcases (show g = 0 ∨ g = 1 by omega) with z | z
    · rw [z] at c; exact absurd rfl c
    · exact z
  rw [show (3 : Int32) = nI 4 - 1 by decide, ix_le (by omega)]
  refine ⟨fun ⟨i, hi, e⟩ => ⟨by rw [e]; exact vp_in_nI (by omega) (by omega), ?_⟩, fun c2 => h v1 _ (Or.inl ⟨hg, Or.inr ⟨c2, rfl⟩⟩) e1⟩
  refine h v1 _ (Or.inl ⟨hg, Or.inl ⟨i, hi, e, ?_⟩⟩) e1
  rw [e, nI_clamp (by omega), e1, z_un (by omega)]
  exact (t3 hg).1 i hi
theorem sp_X10_peeledAt (hL : z_L S) (hTg : c_Tg v g t l) (h : ∀ y, a_at l x1 y → Q (some (.int y)) S v) : z_J G d mX10_peeledAt (0, [.ref 0, .int x1], [], S, v) Q := by
  obtain ⟨-, -, -, t4, t5, t6⟩ := hTg
  refine sg_X10_peeledAt_0 hL ⟨fun c => h _ (Or.inr ⟨fun ⟨i, hi, e⟩ => nI_pos (n := i) (by omega) (by rw [← e]; exact c), rfl⟩), fun c => ?_⟩
  obtain ⟨i, hi, rfl⟩ := nI_of c
  rw [t4]
  refine ⟨fun c2 => ?_, fun c2 => h _ (Or.inr ⟨fun ⟨j, hj, e⟩ => c2 (by rw [e]; exact nI_lt hj (by omega)), rfl⟩)⟩
  have c2 := (nI_ltI hi (by omega)).mp c2
  refine ⟨vp_in_nI (by omega) (by omega), ?_⟩
  rw [nI_clamp hi]
  exact h _ (Or.inl ⟨i, c2, rfl, t6 i c2⟩)
theorem sp_X11_peeledAt (hd : 1 ≤ d) (hL : z_L S) (hTg : m_Tg v g t l) (h : ∀ v1 y, a_at l x1 y → v1 = z_u v 223 0 0 → Q (some (.int y)) S v1) : z_J G d mX11_peeledAt (0, [.ref 223, .int x1], [], S, v) Q := by
  obtain ⟨d, rfl⟩ : ∃ e, d = e + 1 := ⟨d - 1, by omega⟩
  obtain ⟨t1, t2, t3, t0, t5, t6⟩ := hTg
  refine sg_X11_peeledAt_0 hL (fun v1 e1 => ?_)
  rw [show v1 223 56 = nI g by rw [e1, z_un (by omega)]; exact t1]
  refine ⟨fun c => ⟨fun c2 => absurd (Int32.le_trans c2.1 c2.2) (by decide), fun _ => h v1 _ (Or.inr ⟨fun ⟨i, hi, _⟩ => ?_, rfl⟩) e1⟩, fun c => ?_⟩
  · have hg : g = 0 := by
      rcases (show g = 0 ∨ g = 1 by omega) with z | z
      · exact z
      · rw [z] at c; exact absurd c (by decide)
    rw [t0 hg] at hi
    exact absurd hi (Nat.not_lt_zero i)
  · have hg : g = 1 := by
      rcases (show g = 0 ∨ g = 1 by omega) with z | z
      · rw [z] at c; exact absurd rfl c
      · exact z
    rw [show v1 256 3 = nI l.length by rw [e1, z_u_ne (by omega), (t3 hg).1 3 (by omega)]; exact (t3 hg).2, ix_le (by omega)]
    refine ⟨fun ⟨i, hi, e⟩ => ⟨by rw [e]; exact vp_in_nI (by omega) (by omega), ?_⟩, fun c2 => h v1 _ (Or.inr ⟨c2, rfl⟩) e1⟩
    refine h v1 _ (Or.inl ⟨i, hi, e, ?_⟩) e1
    rw [e, nI_clamp (by omega), e1, z_un (by omega)]
    exact t6 i hi
end GA
