/-! THE FOREST; the reference grows, and lays its forest -/
def u_fs (ρ : Nat → Nat) (κ : Nat) (wh : Nat → Nat) : Nat → (Nat → Nat) × (Nat → Nat)
  | 0 => (fun v => v, fun _ => 0)
  | e + 1 => if wh e = 1 ∧ (u_fs ρ κ wh e).1 (n_lo ρ κ e) ≠ (u_fs ρ κ wh e).1 (n_hi ρ κ e) then (u_J (u_fs ρ κ wh e).1 (n_lo ρ κ e) (n_hi ρ κ e), p_up (u_fs ρ κ wh e).2 e 1) else u_fs ρ κ wh e
def u_fl (ρ : Nat → Nat) (κ : Nat) (wh : Nat → Nat) : Nat → List Nat
  | 0 => []
  | e + 1 => if wh e = 1 ∧ (u_fs ρ κ wh e).1 (n_lo ρ κ e) ≠ (u_fs ρ κ wh e).1 (n_hi ρ κ e) then u_fl ρ κ wh e ++ [e] else u_fl ρ κ wh e
section FO
variable {ρ : Nat → Nat} {κ : Nat} {wh : Nat → Nat}
theorem u_fs_o {e' : Nat} : ∀ e, e ≤ e' → (u_fs ρ κ wh e).2 e' = 0
  | 0, _ => rfl
  | e + 1, h => by
    rw [u_fs]
    split
    · show p_up (u_fs ρ κ wh e).2 e 1 e' = _
      rw [p_un (by omega)]
      exact u_fs_o e (by omega)
    · exact u_fs_o e (by omega)
theorem u_fs_ok (hV : p_V ρ) (hκ : κ < 2) : ∀ e, e ≤ n_E ρ → u_ok ρ κ (u_fs ρ κ wh e).1 (u_fs ρ κ wh e).2
  | 0, _ => u_ok_0
  | e + 1, h => by
    rw [u_fs]
    split
    · exact u_ok_J hV hκ (u_fs_ok hV hκ e (by omega)) (by omega)
    · exact u_fs_ok hV hκ e (by omega)
theorem u_fs_s {e' : Nat} : ∀ k, (u_fs ρ κ wh (e' + 1 + k)).2 e' = (u_fs ρ κ wh (e' + 1)).2 e'
  | 0 => rfl
  | k + 1 => by
    rw [← Nat.add_assoc, u_fs]
    split
    · show p_up (u_fs ρ κ wh (e' + 1 + k)).2 (e' + 1 + k) 1 e' = _
      rw [p_un (by omega)]
      exact u_fs_s k
    · exact u_fs_s k
theorem u_fs_e {e' e : Nat} (h : e' < e) : (u_fs ρ κ wh e).2 e' = if wh e' = 1 ∧ (u_fs ρ κ wh e').1 (n_lo ρ κ e') ≠ (u_fs ρ κ wh e').1 (n_hi ρ κ e') then 1 else 0 := by
  obtain ⟨k, rfl⟩ : ∃ k, e = e' + 1 + k := ⟨e - (e' + 1), by omega⟩
  rw [u_fs_s, u_fs]
  split
  · exact p_ue rfl
  · exact u_fs_o e' (Nat.le_refl _)
/-- what is joined stays joined -/
theorem u_fs_m {u w e : Nat} (h : (u_fs ρ κ wh e).1 u = (u_fs ρ κ wh e).1 w) : ∀ k, (u_fs ρ κ wh (e + k)).1 u = (u_fs ρ κ wh (e + k)).1 w
  | 0 => h
  | k + 1 => by
    have ih := u_fs_m h k
    rw [← Nat.add_assoc, u_fs]
    split
    · exact u_J_eq ih
    · exact ih
theorem u_fs_w {e' e : Nat} (h : e' < e) (hw : wh e' = 1) : (u_fs ρ κ wh e).1 (n_lo ρ κ e') = (u_fs ρ κ wh e).1 (n_hi ρ κ e') := by
  obtain ⟨k, rfl⟩ : ∃ k, e = e' + 1 + k := ⟨e - (e' + 1), by omega⟩
  refine u_fs_m ?_ k
  rw [u_fs]
  by_cases c : wh e' = 1 ∧ (u_fs ρ κ wh e').1 (n_lo ρ κ e') ≠ (u_fs ρ κ wh e').1 (n_hi ρ κ e')
  · rw [if_pos c]; exact u_J_ab
  · rw [if_neg c]
    exact Classical.byContradiction fun z => c ⟨hw, z⟩
theorem u_fl_mem {e' : Nat} : ∀ e, e' ∈ u_fl ρ κ wh e ↔ (e' < e ∧ (u_fs ρ κ wh e).2 e' = 1)
  | 0 => by
    refine ⟨fun h => ?_, fun h => by omega⟩
    have h : e' ∈ ([] : List Nat) := h
    cases h
  | e + 1 => by
    have ih := u_fl_mem (e' := e') e
    rw [u_fl, u_fs]
    by_cases c : wh e = 1 ∧ (u_fs ρ κ wh e).1 (n_lo ρ κ e) ≠ (u_fs ρ κ wh e).1 (n_hi ρ κ e)
    · rw [if_pos c, if_pos c, List.mem_append, List.mem_singleton, ih]
      show _ ↔ (e' < e + 1 ∧ p_up (u_fs ρ κ wh e).2 e 1 e' = 1)
      by_cases z : e' = e
      · rw [p_ue z]; exact ⟨fun _ => ⟨by omega, rfl⟩, fun _ => Or.inr z⟩
      · rw [p_un z]
        refine ⟨fun q => ?_, fun q => Or.inl ⟨by omega, q.2⟩⟩
        rcases q with q | q
        · exact ⟨by omega, q.2⟩
        · exact absurd q z
    · rw [if_neg c, if_neg c, ih]
      refine ⟨fun q => ⟨by omega, q.2⟩, fun q => ⟨?_, q.2⟩⟩
      rcases Nat.lt_or_ge e' e with w | w
      · exact w
      · rw [u_fs_o e w] at q; cases q.2
theorem u_fl_len (hV : p_V ρ) (hκ : κ < 2) : ∀ e, e ≤ n_E ρ → (u_fl ρ κ wh e).length + u_ct (u_fs ρ κ wh e).1 (n_B ρ + 1) = n_B ρ + 1
  | 0, _ => by
    have : ∀ n, u_ct (fun v => v) n = n := by
      intro n
      induction n with
      | zero => rfl
      | succ n ih => rw [u_ct, if_pos rfl, ih]
    show 0 + u_ct (fun v => v) (n_B ρ + 1) = _
    rw [this]; omega
  | e + 1, h => by
    have ih := u_fl_len hV hκ e (by omega)
    have ok := u_fs_ok (wh := wh) hV hκ e (by omega)
    obtain ⟨q1, q2, q3⟩ := n_ends hV.1 hκ (show e < n_E ρ by omega)
    rw [u_fl, u_fs]
    by_cases c : wh e = 1 ∧ (u_fs ρ κ wh e).1 (n_lo ρ κ e) ≠ (u_fs ρ κ wh e).1 (n_hi ρ κ e)
    · rw [if_pos c, if_pos c, List.length_append, List.length_singleton]
      obtain ⟨xB, xx⟩ := ok.1 _ (show n_lo ρ κ e ≤ n_B ρ by omega)
      obtain ⟨yB, yy⟩ := ok.1 _ q3
      generalize (u_fs ρ κ wh e).1 = lab at *
      have hr : ∀ u, u < n_B ρ + 1 → (u_J lab (n_lo ρ κ e) (n_hi ρ κ e) u = u ↔ lab u = u ∧ u ≠ lab (n_lo ρ κ e)) := fun u hu => by
        unfold u_J
        by_cases c2 : lab u = lab (n_lo ρ κ e)
        · rw [if_pos c2]
          refine ⟨fun z => ?_, fun z => absurd (z.1.symm.trans c2) z.2⟩
          rw [← z, yy] at c2; exact absurd c2.symm c.2
        · rw [if_neg c2]
          exact ⟨fun z => ⟨z, fun q => c2 (z.trans q)⟩, fun z => z.1⟩
      have hct := u_ct_J xx (n_B ρ + 1) hr
      rw [if_pos (by omega)] at hct
      show _ + 1 + u_ct (u_J lab (n_lo ρ κ e) (n_hi ρ κ e)) (n_B ρ + 1) = _
      omega
    · rw [if_neg c, if_neg c]; exact ih
/-- there is room for one more edge of the forest -/
theorem u_fl_lt (hV : p_V ρ) (hκ : κ < 2) {e : Nat} (he : e < n_E ρ) (c : wh e = 1 ∧ (u_fs ρ κ wh e).1 (n_lo ρ κ e) ≠ (u_fs ρ κ wh e).1 (n_hi ρ κ e)) : (u_fl ρ κ wh e).length < n_B ρ := by
  have h1 := u_fl_len (wh := wh) hV hκ e (by omega)
  have ok := u_fs_ok (wh := wh) hV hκ e (by omega)
  obtain ⟨q1, q2, q3⟩ := n_ends hV.1 hκ he
  obtain ⟨xB, xx⟩ := ok.1 _ (show n_lo ρ κ e ≤ n_B ρ by omega)
  obtain ⟨yB, yy⟩ := ok.1 _ q3
  have := u_ct_2 xx yy c.2 (n_B ρ + 1) (by omega) (by omega)
  omega
theorem u_fl_le (hV : p_V ρ) (hκ : κ < 2) : (u_fl ρ κ wh (n_E ρ)).length ≤ n_B ρ := by
  have h1 := u_fl_len (wh := wh) hV hκ (n_E ρ) (Nat.le_refl _)
  have ok := u_fs_ok (wh := wh) hV hκ (n_E ρ) (Nat.le_refl _)
  obtain ⟨xB, xx⟩ := ok.1 _ (Nat.le_refl (n_B ρ))
  have := u_ct_1 xx (n_B ρ + 1) (by omega)
  omega
end FO
def g_M (ρ : Nat → Nat) (κ : Nat) (v : z_Dat) (st : u_S) : Prop := (∃ ld lr, u_MF (n_B ρ) ld lr st.1 ∧ ∀ u, u ≤ n_B ρ → v 250 u = nI (ld u)) ∧ (∀ e, e < n_E ρ → v 249 e = nI (st.2.1 e)) ∧ ∀ e, e < n_E ρ → v 254 e = nI (st.2.2 e)
def m_g (v v1 : z_Dat) : Prop := (∀ b, b ≠ 223 → (b < 249 ∨ 255 < b) → v1 b = v b) ∧ ∀ j, j < 50 ∨ 53 < j → v1 223 j = v 223 j
theorem m_g.rf {v : z_Dat} : m_g v v := ⟨fun _ _ _ => rfl, fun _ _ => rfl⟩
theorem m_g.tr {v v1 v2 : z_Dat} (h1 : m_g v v1) (h2 : m_g v1 v2) : m_g v v2 := ⟨fun b a1 a2 => (h2.1 b a1 a2).trans (h1.1 b a1 a2), fun j a1 => (h2.2 j a1).trans (h1.2 j a1)⟩
theorem m_g.of {v v1 : z_Dat} {a : Nat} (h : ∀ b, b ≠ a → v1 b = v b) (ha : 249 ≤ a ∧ a ≤ 255) : m_g v v1 := ⟨fun b h1 h2 => h b (by omega), fun j _ => by rw [h 223 (by omega)]⟩
theorem m_g.u {v : z_Dat} {a i : Nat} {x : Int32} (ha : 249 ≤ a ∧ a ≤ 255) : m_g v (z_u v a i x) := m_g.of (fun b hb => z_u_ne hb) ha
theorem m_g.f {v : z_Dat} {i : Nat} {x : Int32} (ha : 50 ≤ i ∧ i ≤ 53) : m_g v (z_u v 223 i x) := ⟨fun b h1 _ => by rw [z_u_ne h1], fun j h => by rw [z_un (by omega)]⟩
theorem m_g.Nt {ρ : Nat → Nat} {κ : Nat} {v v1 : z_Dat} (h : m_g v v1) (hN : m_Nt ρ κ v) : m_Nt ρ κ v1 := hN.fr (fun j h1 h2 => h.2 j (by omega)) ⟨h.1 238 (by omega) (by omega), h.1 239 (by omega) (by omega), h.1 240 (by omega) (by omega), h.1 242 (by omega) (by omega)⟩
section GR
variable {G : z_G} {d : Nat} {S : z_Shp} {v v0 : z_Dat} {Q : Option Value → z_Shp → z_Dat → Prop} {ρ : Nat → Nat} {κ : Nat} {x1 : Int32}
theorem sp_X11_grows_72 {st : u_S} {ld lr : Nat → Nat} (hd : 2 ≤ d) (hL : z_L S) (hV : p_V ρ) (hκ : κ < 2) (hN : m_Nt ρ κ v) (hI : u_Iv ρ κ st) (hU : u_MF (n_B ρ) ld lr st.1) (hl : ∀ u, u ≤ n_B ρ → v 250 u = nI (ld u)) (ho : m_od ρ κ lr v) (h9 : ∀ e, e < n_E ρ → v 249 e = nI (st.2.1 e)) (h4 : ∀ e, e < n_E ρ → v 254 e = nI (st.2.2 e))
    (h : ∀ v1, (∀ e, e < n_E ρ → v1 249 e = nI (u_gb ρ κ st e)) → (∀ b, b ≠ 249 → v1 b = v b) → z_J G d mX11_grows (127, [.ref 223, .int x1, .int 0], [], S, v1) Q) : z_J G d mX11_grows (72, [.ref 223, .int x1, .int 0], [], S, v) Q := by
  obtain ⟨d, rfl⟩ : ∃ e, d = e + 1 := ⟨d - 1, by omega⟩
  have hBn := n_B_le hV.1 hV.2.1
  have hE := n_E_le hV.1 hV.2.1
  have key : ∀ j e v1, e + j = n_E ρ → (∀ e', e' < n_E ρ → v1 249 e' = nI (if e' < e then u_gb ρ κ st e' else st.2.1 e')) → (∀ b, b ≠ 249 → v1 b = v b) → z_J G (d + 1) mX11_grows (72, [.ref 223, .int x1, .int (nI e)], [], S, v1) Q := by
    intro j
    induction j with
    | zero =>
      intro e v1 he k1 k2
      have he : e = n_E ρ := by omega
      subst he
      exact sg_X11_grows_72 hL ⟨fun _ => h v1 (fun e' he' => by rw [k1 e' he', if_pos he']) k2, fun c => absurd (by rw [k2 223 (by omega), hN.1.1]; exact nI_le (Nat.le_refl _) (by omega)) c⟩
    | succ j ih =>
      intro e v1 he k1 k2
      have he2 : e < n_E ρ := by omega
      obtain ⟨q1, q2, q3⟩ := n_ends hV.1 hκ he2
      have N1 : m_Nt ρ κ v1 := (m_g.of k2 (by omega)).Nt hN
      obtain ⟨r1, r2, r3⟩ := N1.2.1 e he2
      have hin : vp_in (nI e) 321 := vp_in_nI (by omega) (by omega)
      have hw := hI.1.2.1 e
      have k1e := k1 e he2
      rw [if_neg (Nat.lt_irrefl e)] at k1e
      have hl1 : ∀ u, u ≤ n_B ρ → v1 250 u = nI (ld u) := fun u hu => by rw [k2 250 (by omega)]; exact hl u hu
      have ho1 : m_od ρ κ lr v1 := fun x hx => by rw [k2 251 (by omega)]; exact ho x hx
      have hg : u_gb ρ κ st e = if st.2.2 e = 0 then st.2.1 e + (u_o ρ κ st.1 (n_lo ρ κ e) + u_o ρ κ st.1 (n_hi ρ κ e)) else st.2.1 e := rfl
      refine sg_X11_grows_72 hL ⟨fun c => absurd c (by rw [N1.1.1]; exact nI_ge (by omega) (by omega)), fun _ => ?_⟩
      rw [nI_clamp (n := e) (by omega), k2 254 (by omega), h4 e he2, r1, nI_1, k1e]
      refine ⟨hin, fun c => ?_, fun c => ⟨hin, hin, ?_⟩⟩
      · refine ih (e + 1) v1 (by omega) (fun e' he' => ?_) k2
        by_cases z : e' = e
        · subst z
          rw [if_pos (by omega), hg, if_neg (fun q => c (by rw [q]; rfl))]
          exact k1e
        · rw [k1 e' he']
          by_cases y : e' < e
          · rw [if_pos y, if_pos (by omega)]
          · rw [if_neg y, if_neg (by omega)]
      · have c := (nI_eq (b := 0) (by omega) (by omega)).mp c
        refine sp_X11_opens (by omega) hL hV N1 hU hl1 ho1 (by omega) ⟨_, rfl, rfl, hin, ?_⟩
        rw [r2]
        refine sp_X11_opens (by omega) hL hV N1 hU hl1 ho1 q3 ⟨_, rfl, rfl, hin, fun v3 e3 => ?_⟩
        rw [nI_add, nI_add] at e3
        refine ih (e + 1) v3 (by omega) (fun e' he' => ?_) (fun b hb => by rw [e3, z_u_ne hb]; exact k2 b hb)
        by_cases z : e' = e
        · rw [e3, z_ue rfl z, if_pos (by omega), z, hg, if_pos c]
        · rw [e3, z_un (Or.inr z), k1 e' he']
          by_cases y : e' < e
          · rw [if_pos y, if_pos (by omega)]
          · rw [if_neg y, if_neg (by omega)]
  refine key (n_E ρ) 0 v (Nat.zero_add _) (fun e' he' => ?_) (fun _ _ => rfl)
  rw [if_neg (by omega)]; exact h9 e' he'
theorem sp_X11_grows_127 {st : u_S} (hd : 2 ≤ d) (hL : z_L S) (hV : p_V ρ) (hκ : κ < 2) (hN : m_Nt ρ κ v) (hI : u_Iv ρ κ st) (hC : g_M ρ κ v (st.1, u_gb ρ κ st, st.2.2))
    (h : ∀ v1 x2, g_M ρ κ v1 (u_s1 ρ κ st) → m_g v v1 → v1 223 50 = v 223 50 + 1 → z_J G d mX11_grows (63, [.ref 223, .int x1, .int x2], [], S, v1) Q) : z_J G d mX11_grows (127, [.ref 223, .int x1, .int 0], [], S, v) Q := by
  obtain ⟨d, rfl⟩ : ∃ e, d = e + 1 := ⟨d - 1, by omega⟩
  have hBn := n_B_le hV.1 hV.2.1
  have hE := n_E_le hV.1 hV.2.1
  have hg19 : ∀ e, e < n_E ρ → u_gb ρ κ st e ≤ 19 := fun e he => ((u_Iv_s hV hκ hI).2 e he).2
  generalize hgb : u_gb ρ κ st = gb at *
  have key : ∀ j e v1, e + j = n_E ρ → g_M ρ κ v1 ((u_jw ρ κ gb st.1 st.2.2 e).1, gb, (u_jw ρ κ gb st.1 st.2.2 e).2) → m_g v v1 → v1 223 50 = v 223 50 → z_J G (d + 1) mX11_grows (127, [.ref 223, .int x1, .int (nI e)], [], S, v1) Q := by
    intro j
    induction j with
    | zero =>
      intro e v1 he C1 k2 k3
      have he : e = n_E ρ := by omega
      subst he
      have N1 := k2.Nt hN
      refine sg_X11_grows_127 hL ⟨fun _ v2 e2 => h v2 _ ?_ (k2.tr (by rw [e2]; exact m_g.f (by omega))) (by rw [e2, z_ue rfl rfl, k3]), fun c => absurd (by rw [N1.1.1]; exact nI_le (Nat.le_refl _) (by omega)) c⟩
      have e1 : u_s1 ρ κ st = ((u_jw ρ κ gb st.1 st.2.2 (n_E ρ)).1, gb, (u_jw ρ κ gb st.1 st.2.2 (n_E ρ)).2) := by unfold u_s1; rw [hgb]
      rw [e1]
      obtain ⟨⟨ld, lr, U1, a1⟩, c9, c4⟩ := C1
      exact ⟨⟨ld, lr, U1, fun u hu => by rw [e2, z_u_ne (by omega)]; exact a1 u hu⟩, fun e he => by rw [e2, z_u_ne (by omega)]; exact c9 e he, fun e he => by rw [e2, z_u_ne (by omega)]; exact c4 e he⟩
    | succ j ih =>
      intro e v1 he C1 k2 k3
      have he2 : e < n_E ρ := by omega
      obtain ⟨q1, q2, q3⟩ := n_ends hV.1 hκ he2
      have N1 := k2.Nt hN
      obtain ⟨r1, r2, r3⟩ := N1.2.1 e he2
      have hin : vp_in (nI e) 321 := vp_in_nI (by omega) (by omega)
      have ok := u_jw_ok (gb := gb) hV hκ hI.1 e (by omega)
      have hw := n_wt (e := e) hV hκ
      have hg := hg19 e he2
      obtain ⟨⟨ld, lr, U0, a1⟩, c90, c40⟩ := C1
      have U1 : u_MF (n_B ρ) ld lr (u_jw ρ κ gb st.1 st.2.2 e).1 := U0
      have c9 : ∀ e', e' < n_E ρ → v1 249 e' = nI (gb e') := c90
      have c4 : ∀ e', e' < n_E ρ → v1 254 e' = nI ((u_jw ρ κ gb st.1 st.2.2 e).2 e') := c40
      clear U0 c90 c40
      have nx := ih (e + 1)
      rw [u_jw] at nx
      generalize hjw : u_jw ρ κ gb st.1 st.2.2 e = W at *
      refine sg_X11_grows_127 hL ⟨fun c => absurd c (by rw [N1.1.1]; exact nI_ge (by omega) (by omega)), fun _ => ?_⟩
      rw [nI_clamp (n := e) (by omega), c4 e he2, c9 e he2, r3, show (2 : Int32) = nI 2 from rfl, pk_mul, nI_1]
      have hw1 := ok.2.1 e
      refine ⟨hin, fun c => ?_, fun c => ⟨hin, hin, fun c2 => ⟨hin, fun v2 e2 => ⟨hin, hin, ?_⟩⟩, fun c2 => ?_⟩⟩
      · rw [if_neg (fun z => c (by rw [z.1]; rfl))] at nx
        exact nx v1 (by omega) ⟨⟨ld, lr, U1, a1⟩, c9, c4⟩ k2 k3
      · have c := (nI_eq (b := 0) (by omega) (by omega)).mp c
        have c2 := (nI_leI (by omega) (by omega)).mp c2
        rw [if_pos ⟨c, c2⟩] at nx
        have w2 : ∀ b, b ≠ 254 → v2 b = v1 b := fun b hb => by rw [e2, z_u_ne hb]
        rw [w2 238 (by omega), w2 239 (by omega), r1, r2]
        refine sp_X11_unites (by omega) hL hBn U1 (fun u hu => by rw [w2 250 (by omega)]; exact a1 u hu) (by omega) q3 (fun v3 ld3 lr3 U3 f1 f2 => ⟨rfl, rfl, ?_⟩)
        have g3 : m_g v1 v3 := (m_g.of w2 (by omega)).tr (m_g.of f2 (by omega))
        refine nx v3 (by omega) ⟨⟨ld3, lr3, U3, f1⟩, fun e' he' => ?_, fun e' he' => ?_⟩ (k2.tr g3) ?_
        · rw [f2 249 (by omega), w2 249 (by omega)]; exact c9 e' he'
        · rw [f2 254 (by omega), e2]
          by_cases z : e' = e
          · rw [z_ue rfl z]; show vp_nar .boolean 1 = nI (p_up W.2 e 1 e'); rw [p_ue z]; rfl
          · rw [z_un (Or.inr z)]; show _ = nI (p_up W.2 e 1 e'); rw [p_un z]; exact c4 e' he'
        · rw [f2 223 (by omega), w2 223 (by omega)]; exact k3
      · have c2 : gb e < 2 * n_w ρ κ e := by
          rcases Nat.lt_or_ge (gb e) (2 * n_w ρ κ e) with q | q
          · exact q
          · exact absurd (nI_le q (by omega)) c2
        rw [if_neg (fun z => by have := z.2; omega)] at nx
        exact nx v1 (by omega) ⟨⟨ld, lr, U1, a1⟩, c9, c4⟩ k2 k3
  exact key (n_E ρ) 0 v (Nat.zero_add _) hC m_g.rf rfl
theorem sp_X11_grows_63 {x2 : Int32} (hd : 2 ≤ d) (hL : z_L S) (hV : p_V ρ) (hκ : κ < 2) (hN : m_Nt ρ κ v) (hC : g_M ρ κ v (u_st ρ κ 0)) (h50 : v 223 50 = 0)
    (h : ∀ v1, g_M ρ κ v1 (u_st ρ κ (u_N ρ κ)) → m_g v v1 → v1 223 50 = nI (u_N ρ κ) → v1 223 51 = 0 → v1 223 52 = 0 → z_J G d mX11_grows (218, [.ref 223, .int x1, .int 0], [], S, v1) Q) : z_J G d mX11_grows (63, [.ref 223, .int x1, .int x2], [], S, v) Q := by
  obtain ⟨d, rfl⟩ : ∃ e, d = e + 1 := ⟨d - 1, by omega⟩
  obtain ⟨N1, N2, N3⟩ := u_N_ok hV hκ
  have key : ∀ j n x2 v1, n + j = u_N ρ κ → g_M ρ κ v1 (u_st ρ κ n) → m_g v v1 → v1 223 50 = nI n → z_J G (d + 1) mX11_grows (63, [.ref 223, .int x1, .int x2], [], S, v1) Q := by
    intro j
    induction j with
    | zero =>
      intro n x2 v1 hn C1 k2 k3
      have hn : n = u_N ρ κ := by omega
      subst hn
      obtain ⟨⟨ld, lr, U1, a1⟩, c9, c4⟩ := id C1
      refine sg_X11_grows_63 hL (sp_X11_counts (by omega) hL hV (k2.Nt hN) U1 a1 (fun v2 y o2 f2 y1 y2 => ⟨_, rfl, rfl, fun _ v3 e3 v4 e4 => ?_, fun c => absurd (y2 N2) c⟩))
      have w4 : ∀ b, b ≠ 223 → b ≠ 251 → v4 b = v1 b := fun b b1 b2 => by rw [e4, z_u_ne b1, e3, z_u_ne b1, f2 b b2]
      refine h v4 ⟨⟨ld, lr, U1, fun u hu => ?_⟩, fun e he => ?_, fun e he => ?_⟩ (k2.tr ((m_g.of f2 (by omega)).tr ?_)) ?_ ?_ ?_
      · rw [w4 250 (by omega) (by omega)]; exact a1 u hu
      · rw [w4 249 (by omega) (by omega)]; exact c9 e he
      · rw [w4 254 (by omega) (by omega)]; exact c4 e he
      · rw [e4, e3]; exact (m_g.f (by omega)).tr (m_g.f (by omega))
      · rw [e4, z_un (by omega), e3, z_un (by omega), f2 223 (by omega)]; exact k3
      · rw [e4, z_un (by omega), e3, z_ue rfl rfl]
      · rw [e4, z_ue rfl rfl]
    | succ j ih =>
      intro n x2 v1 hn C1 k2 k3
      have hI := u_Iv_n hV hκ n
      have hN1 := k2.Nt hN
      obtain ⟨⟨ld, lr, U1, a1⟩, c9, c4⟩ := id C1
      refine sg_X11_grows_63 hL (sp_X11_counts (by omega) hL hV hN1 U1 a1 (fun v2 y o2 f2 y1 y2 => ⟨_, rfl, rfl, fun c => absurd ((y1 (N3 n (by omega))).symm.trans c) (by decide), fun _ => ?_⟩))
      have g2 := m_g.of f2 (by omega)
      refine sp_X11_grows_72 (by omega) hL hV hκ (g2.Nt hN1) hI U1 (fun u hu => by rw [f2 250 (by omega)]; exact a1 u hu) o2 (fun e he => by rw [f2 249 (by omega)]; exact c9 e he) (fun e he => by rw [f2 254 (by omega)]; exact c4 e he) (fun v3 g1 g3 => ?_)
      have g4 := g2.tr (m_g.of g3 (by omega))
      refine sp_X11_grows_127 (by omega) hL hV hκ (g4.Nt hN1) hI ⟨⟨ld, lr, U1, fun u hu => by rw [g3 250 (by omega), f2 250 (by omega)]; exact a1 u hu⟩, g1, fun e he => by rw [g3 254 (by omega), f2 254 (by omega)]; exact c4 e he⟩ (fun v4 x4 C4 f4 e50 => ?_)
      refine ih (n + 1) x4 v4 (by omega) C4 (k2.tr (g4.tr f4)) ?_
      rw [e50, g3 223 (by omega), f2 223 (by omega), k3, nI_1]
  exact key _ 0 x2 v (Nat.zero_add _) hC m_g.rf h50
/-- the forest as the reference keeps it -/
def m_Fo (ρ : Nat → Nat) (κ : Nat) (v : z_Dat) (l : List Nat) : Prop := v 223 52 = nI l.length ∧ ∀ i, i < l.length → v 252 i = nI (l.getD i 0)
theorem sp_X11_grows_218 {wh : Nat → Nat} (hd : 2 ≤ d) (hL : z_L S) (hV : p_V ρ) (hκ : κ < 2) (hN : m_Nt ρ κ v) (hw1 : ∀ e, wh e ≤ 1) (hw : ∀ e, e < n_E ρ → v 254 e = nI (wh e)) (h51 : v 223 51 = 0) (h52 : v 223 52 = 0)
    (h : ∀ v1, m_Fo ρ κ v1 (u_fl ρ κ wh (n_E ρ)) → v1 223 51 = nI (m_sum wh (n_E ρ)) → m_g v v1 → v1 223 50 = v 223 50 → z_J G (d - 1) mX11_peels (0, [.ref 223, .null, .null, .null, .null], [], S, v1) (fun r S1 v2 => r = none ∧ S1 = S ∧ Q none S v2)) : z_J G d mX11_grows (218, [.ref 223, .int x1, .int 0], [], S, v) Q := by
  obtain ⟨d, rfl⟩ : ∃ e, d = e + 1 := ⟨d - 1, by omega⟩
  rw [Nat.add_sub_cancel] at h
  have hBn := n_B_le hV.1 hV.2.1
  have hE := n_E_le hV.1 hV.2.1
  have fo : ∀ j e v1 ld lr, e + j = n_E ρ → u_MF (n_B ρ) ld lr (u_fs ρ κ wh e).1 → (∀ u, u ≤ n_B ρ → v1 250 u = nI (ld u)) → m_Fo ρ κ v1 (u_fl ρ κ wh e) → v1 223 51 = nI (m_sum wh e) → m_g v v1 → v1 223 50 = v 223 50 → v1 254 = v 254 → z_J G (d + 1) mX11_grows (241, [.ref 223, .int x1, .int (nI e)], [], S, v1) Q := by
    intro j
    induction j with
    | zero =>
      intro e v1 ld lr he U1 a1 F1 k1 k2 k3 k4
      have he : e = n_E ρ := by omega
      subst he
      exact sg_X11_grows_241 hL ⟨fun _ => h v1 F1 k1 k2 k3, fun c => absurd (by rw [(k2.Nt hN).1.1]; exact nI_le (Nat.le_refl _) (by omega)) c⟩
    | succ j ih =>
      intro e v1 ld lr he U1 a1 F1 k1 k2 k3 k4
      have he2 : e < n_E ρ := by omega
      obtain ⟨q1, q2, q3⟩ := n_ends hV.1 hκ he2
      have N1 := k2.Nt hN
      obtain ⟨r1, r2, r3⟩ := N1.2.1 e he2
      have hin : vp_in (nI e) 321 := vp_in_nI (by omega) (by omega)
      have hwe := hw1 e
      have lx := (U1.1 _ (show n_lo ρ κ e ≤ n_B ρ by omega)).2.2.1
      have ly := (U1.1 _ q3).2.2.1
      have nx := ih (e + 1)
      rw [u_fs, u_fl] at nx
      have hlt := u_fl_lt (wh := wh) hV hκ he2
      generalize hfs : u_fs ρ κ wh e = W at *
      generalize hfl : u_fl ρ κ wh e = l at *
      have em : m_sum wh (e + 1) = m_sum wh e + wh e := rfl
      rw [em] at nx
      refine sg_X11_grows_241 hL ⟨fun c => absurd c (by rw [N1.1.1]; exact nI_ge (by omega) (by omega)), fun _ => ?_⟩
      rw [nI_clamp (n := e) (by omega), k4, hw e he2, nI_1]
      refine ⟨hin, fun c v2 e2 => ⟨hin, ?_⟩, fun c => ?_⟩
      · have c1 : wh e = 1 := by
          rcases (show wh e = 0 ∨ wh e = 1 by omega) with z | z
          · rw [z] at c; exact absurd rfl c
          · exact z
        have w2 : ∀ b, b ≠ 223 → v2 b = v1 b := fun b hb => by rw [e2, z_u_ne hb]
        have g2 : m_g v1 v2 := by rw [e2]; exact m_g.f (by omega)
        have a2 : ∀ u, u ≤ n_B ρ → v2 250 u = nI (ld u) := fun u hu => by rw [w2 250 (by omega)]; exact a1 u hu
        have e51 : v2 223 51 = nI (m_sum wh e + 1) := by rw [e2, z_ue rfl rfl, k1, nI_1]
        have e50 : v2 223 50 = v 223 50 := by rw [e2, z_un (by omega)]; exact k3
        rw [w2 238 (by omega), r1]
        refine sp_X11_leaderOf hL hBn U1 a2 (by omega) ⟨_, rfl, rfl, hin, ?_⟩
        rw [w2 239 (by omega), r2]
        refine sp_X11_leaderOf hL hBn U1 a2 q3 ⟨_, rfl, rfl, fun c2 => ⟨hin, hin, ?_⟩, fun c2 => ?_⟩
        · have hne : W.1 (n_lo ρ κ e) ≠ W.1 (n_hi ρ κ e) := fun z => c2 (by rw [(U1.2 _ _ (by omega) q3).mpr z])
          rw [if_pos ⟨c1, hne⟩, if_pos ⟨c1, hne⟩, c1] at nx
          have hlt := hlt ⟨c1, hne⟩
          rw [w2 238 (by omega), r1, w2 239 (by omega), r2]
          refine sp_X11_unites (by omega) hL hBn U1 a2 (by omega) q3 (fun v3 ld3 lr3 U3 f1 f2 => ⟨rfl, rfl, ?_⟩)
          have e52 : v3 223 52 = nI l.length := by rw [f2 223 (by omega), e2, z_un (by omega)]; exact F1.1
          rw [e52]
          refine ⟨vp_in_nI (by omega) (by omega), fun v4 e4 v5 e5 => ?_⟩
          rw [nI_clamp (by omega)] at e4
          have w5 : ∀ b, b ≠ 223 → b ≠ 252 → v5 b = v3 b := fun b b1 b2 => by rw [e5, z_u_ne b1, e4, z_u_ne b2]
          have g5 : m_g v3 v5 := by rw [e5, e4]; exact (m_g.u (by omega)).tr (m_g.f (by omega))
          refine nx v5 ld3 lr3 (by omega) U3 (fun u hu => by rw [w5 250 (by omega) (by omega)]; exact f1 u hu) ⟨?_, fun i hi => ?_⟩ ?_ (k2.tr (g2.tr ((m_g.of f2 (by omega)).tr g5))) ?_ ?_
          · rw [e5, z_ue rfl rfl, e4, z_un (by omega), e52, nI_1, List.length_append, List.length_singleton]
          · rw [e5, z_u_ne (by omega), e4]
            rw [List.length_append, List.length_singleton] at hi
            by_cases z : i = l.length
            · rw [z_ue rfl z, z, l_ge]
            · rw [z_un (Or.inr z), l_gl (by omega), f2 252 (by omega), w2 252 (by omega)]; exact F1.2 i (by omega)
          · rw [e5, z_un (by omega), e4, z_un (by omega), f2 223 (by omega)]; exact e51
          · rw [e5, z_un (by omega), e4, z_un (by omega), f2 223 (by omega)]; exact e50
          · rw [w5 254 (by omega) (by omega), f2 254 (by omega), w2 254 (by omega)]; exact k4
        · have c2 := (nI_eq (by omega) (by omega)).mp c2
          have heq := (U1.2 _ _ (show n_lo ρ κ e ≤ n_B ρ by omega) q3).mp c2
          rw [if_neg (fun z => z.2 heq), if_neg (fun z => z.2 heq), c1] at nx
          exact nx v2 ld lr (by omega) U1 a2 ⟨by rw [e2, z_un (by omega)]; exact F1.1, fun i hi => by rw [w2 252 (by omega)]; exact F1.2 i hi⟩ e51 (k2.tr g2) e50 (by rw [w2 254 (by omega)]; exact k4)
      · have c := (nI_eq (b := 0) (by omega) (by omega)).mp c
        rw [if_neg (fun z => by have := z.1; omega), if_neg (fun z => by have := z.1; omega), c, Nat.add_zero] at nx
        exact nx v1 ld lr (by omega) U1 a1 F1 k1 k2 k3 k4
  have part : ∀ j n v1, n + j = n_B ρ + 1 → (∀ u, u < n → v1 250 u = nI u) → (∀ b, b ≠ 250 → v1 b = v b) → z_J G (d + 1) mX11_grows (218, [.ref 223, .int x1, .int (nI n)], [], S, v1) Q := by
    intro j
    induction j with
    | zero =>
      intro n v1 hn k1 k2
      refine sg_X11_grows_218 hL ⟨fun _ => fo (n_E ρ) 0 v1 _ _ (Nat.zero_add _) u_MF_0 (fun u hu => k1 u (by omega)) ⟨?_, fun i hi => absurd hi (Nat.not_lt_zero i)⟩ ?_ (m_g.of k2 (by omega)) (by rw [k2 223 (by omega)]) (k2 254 (by omega)), fun c => absurd (by rw [k2 223 (by omega), hN.1.2.1]; exact nI_lt (by omega) (by omega)) c⟩
      · rw [k2 223 (by omega), h52]; rfl
      · rw [k2 223 (by omega), h51]; rfl
    | succ j ih =>
      intro n v1 hn k1 k2
      refine sg_X11_grows_218 hL ⟨fun c => absurd c (by rw [k2 223 (by omega), hN.1.2.1]; exact nI_nlt (by omega) (by omega)), fun _ => ⟨vp_in_nI (by omega) (by omega), fun v2 e2 => ?_⟩⟩
      rw [nI_clamp (by omega)] at e2
      rw [nI_1]
      refine ih (n + 1) v2 (by omega) (fun u hu => ?_) (fun b hb => by rw [e2, z_u_ne hb]; exact k2 b hb)
      by_cases z : u = n
      · rw [e2, z_ue rfl z, z]
      · rw [e2, z_un (Or.inr z)]; exact k1 u (by omega)
  exact part _ 0 v (Nat.zero_add _) (fun u hu => by omega) (fun _ _ => rfl)
end GR
