/-! Ways.seek; the reference's leads and laysWay -/
def m_R (ρ : Nat → Nat) (κ : Nat) (v : z_Dat) : Prop := ∀ e, e < n_E ρ → (v 238 e = nI (n_lo ρ κ e) ∧ v 239 e = nI (n_hi ρ κ e) ∧ v 240 e = nI (n_w ρ κ e))
/-- the reference's row of distances -/
def m_D (ρ : Nat → Nat) (κ T : Nat) (v : z_Dat) : Prop := (∀ s, s < n_B ρ → v 241 s = nI (n_ds ρ κ T s)) ∧ v 241 (n_B ρ) = (if T = n_B ρ then 0 else 1000000)
section SK
variable {G : z_G} {d : Nat} {S : z_Shp} {v v0 : z_Dat} {Q : Option Value → z_Shp → z_Dat → Prop} {κ T : Nat} {ρ : Nat → Nat}
theorem sp_X8_seek {s : Nat} (hd : 4 ≤ d) (hL : z_L S) (hV : p_V ρ) (hκ : κ < 2) (hR : c_R ρ κ v) (hT : T ≤ n_B ρ) (hs : s < n_B ρ)
    (h : ∀ v1, n_isD ρ κ T (n_ds ρ κ T) → v1 158 0 = nI (n_ds ρ κ T s) → v1 158 1 = nI (n_wy ρ κ T 120 s).length → (∀ i, i < (n_wy ρ κ T 120 s).length → v1 159 i = nI ((n_wy ρ κ T 120 s).getD i 0)) → (∀ b, b < 158 ∨ 163 < b → v1 b = v b) → (∀ j, j ≠ 0 → j ≠ 1 → j ≠ 7 → v1 158 j = v 158 j) → (n_wy ρ κ T 120 s).length ≤ 120 → c_D ρ κ T 160 v1 → Q none S v1) :
    z_J G d mX8_seek (0, [.ref 158, .ref 149, .int (nI s), .int (nI T)], [], S, v) Q := by
  obtain ⟨d, rfl⟩ : ∃ e, d = e + 1 := ⟨d - 1, by omega⟩
  have hB := n_B_le hV.1 hV.2.1
  refine sg_X8_seek_0 hL (sp_X8_measure (by omega) hL hV hκ (Or.inl rfl) (zk_160 hL) (zl_160 hL) hR hT (fun v1 a1 a2 a3 hD => ⟨rfl, rfl, vp_in_nI (by omega) (by omega), fun v2 e2 => ?_⟩))
  rw [nI_clamp (by omega), a1 s hs] at e2
  have hR2 : c_R ρ κ v2 := (a3.R (Or.inl rfl) hR).fr (fun b b1 b2 => by rw [e2, z_u_ne (by omega)])
  have hA2 : c_D ρ κ T 160 v2 := by unfold c_D; rw [e2, z_u_ne (by omega)]; exact ⟨a1, a2⟩
  refine sp_X8_walk (by omega) hL hV hκ (Or.inl rfl) (zk_160 hL) (zl_160 hL) hR2 hT hD hA2 (Or.inl hs) (fun v3 b1 b2 b3 b4 b5 => ⟨rfl, rfl, h v3 hD ?_ b1 b2 (fun b hb => ?_) (fun j j0 j1 j7 => ?_) b5 ?_⟩)
  · rw [b4 0 (by omega), e2, z_ue rfl rfl]
  · rw [b3 b (by omega) (by omega), e2, z_u_ne (by omega)]
    exact a3.1 b (by omega) (by omega) (by omega) (by omega) (by omega)
  · rw [b4 j j1, e2, z_un (by omega)]
    exact a3.2 j j7
  · unfold c_D; rw [b3 160 (by omega) (by omega)]; exact hA2
theorem sp_X11_leads {s e : Nat} (hL : z_L S) (hV : p_V ρ) (hκ : κ < 2) (hR : m_R ρ κ v) (hT : T ≤ n_B ρ) (hD : n_isD ρ κ T (n_ds ρ κ T)) (hA : m_D ρ κ T v) (hs : s < n_B ρ) (hee : e < n_E ρ)
    (h1 : n_gd ρ κ T s e → Q (some (.int 1)) S v) (h0 : ¬ n_gd ρ κ T s e → Q (some (.int 0)) S v) : z_J G d mX11_leads (0, [.ref 223, .int (nI e), .int (nI s), .null], [], S, v) Q := by
  have hB := n_B_le hV.1 hV.2.1
  have hE := n_E_le hV.1 hV.2.1
  have cs : (nI s).toNatClampNeg = s := nI_clamp (by omega)
  have ce : (nI e).toNatClampNeg = e := nI_clamp (by omega)
  have hbd := n_bd hV hκ hT hD.1 hD.2.1
  obtain ⟨g1, g2, g3⟩ := hR e hee
  obtain ⟨q1, q2, q3⟩ := n_ends hV.1 hκ hee
  have hw := n_wt (e := e) hV hκ
  let x : Nat → Nat := fun u => if u < n_B ρ then n_ds ρ κ T u else (if T = n_B ρ then 0 else 1000000)
  have hx : ∀ u, u < n_B ρ → x u = n_ds ρ κ T u := fun u hu => if_pos hu
  have hxB : x (n_B ρ) = if T = n_B ρ then 0 else 1000000 := if_neg (by omega)
  have hxv : ∀ u, u ≤ n_B ρ → v 241 u = nI (x u) ∧ x u ≤ 1000000 := fun u hu => by
    by_cases z : u = n_B ρ
    · rw [z, hxB, hA.2]
      split
      · exact ⟨rfl, by omega⟩
      · exact ⟨rfl, by omega⟩
    · have z : u < n_B ρ := by omega
      rw [hx u z]
      exact ⟨hA.1 u z, by have := hbd u z; omega⟩
  have b0 := (hxv s (by omega)).2
  have b1 := (hxv (n_lo ρ κ e) (by omega)).2
  have b2 := (hxv (n_hi ρ κ e) (by omega)).2
  refine sg_X11_leads_0 hL ?_
  rw [ce, cs, g1, g2, g3, nI_clamp (n := n_lo ρ κ e) (by omega), nI_clamp (n := n_hi ρ κ e) (by omega), (hxv s (by omega)).1, (hxv (n_lo ρ κ e) (by omega)).1, (hxv (n_hi ρ κ e) (by omega)).1, nI_add, nI_add]
  have i1 : vp_in (nI e) 321 := vp_in_nI (by omega) (by omega)
  have i2 : vp_in (nI s) 109 := vp_in_nI (by omega) (by omega)
  have i3 : vp_in (nI (n_lo ρ κ e)) 109 := vp_in_nI (by omega) (by omega)
  have i4 : vp_in (nI (n_hi ρ κ e)) 109 := vp_in_nI (by omega) (by omega)
  by_cases y1 : n_lo ρ κ e = s
  · have hck := n_ck hV hκ hT hD hs hee (Or.inl y1) (by omega) hx hxB
    unfold n_oth at hck
    rw [if_pos y1] at hck
    refine ⟨i1, fun _ => ⟨i1, fun c => absurd (by rw [y1]) c, fun _ => ⟨i1, i4, i1, i2, fun c => h0 (fun g => c (by rw [hck.mpr g])), fun c => h1 (hck.mp ((nI_eq (by omega) (by omega)).mp c))⟩⟩, fun c => absurd (by rw [y1]) c⟩
  · have ny1 : ¬ nI (n_lo ρ κ e) = nI s := fun w => y1 ((nI_eq (by omega) (by omega)).mp w)
    refine ⟨i1, fun c => absurd c ny1, fun _ => ⟨i1, fun c => ⟨i1, fun _ => ⟨i1, i3, i1, i2, ?_, ?_⟩, fun c => absurd c ny1⟩, fun c => h0 (fun g => ?_)⟩⟩
    · intro c2
      have y2 := (nI_eq (by omega) (by omega)).mp c
      have hck := n_ck hV hκ hT hD hs hee (Or.inr y2) (by omega) hx hxB
      unfold n_oth at hck
      rw [if_neg y1] at hck
      exact h0 (fun g => c2 (by rw [hck.mpr g]))
    · intro c2
      have y2 := (nI_eq (by omega) (by omega)).mp c
      have hck := n_ck hV hκ hT hD hs hee (Or.inr y2) (by omega) hx hxB
      unfold n_oth at hck
      rw [if_neg y1] at hck
      exact h1 (hck.mp ((nI_eq (by omega) (by omega)).mp c2))
    · rcases g.2.1 with z | z
      · exact y1 z
      · exact c (by rw [z])
theorem sp_X11_laysWay {s : Nat} (hd : 1 ≤ d) (hL : z_L S) (hV : p_V ρ) (hκ : κ < 2) (hR : m_R ρ κ v) (hT : T ≤ n_B ρ) (hD : n_isD ρ κ T (n_ds ρ κ T)) (hA : m_D ρ κ T v) (hs : s < n_B ρ ∨ s = T)
    (h : ∀ v1, v1 223 36 = nI (n_wy ρ κ T 120 s).length → (∀ i, i < (n_wy ρ κ T 120 s).length → v1 243 i = nI ((n_wy ρ κ T 120 s).getD i 0)) → (∀ b, b ≠ 223 → b ≠ 243 → v1 b = v b) → (∀ j, j ≠ 36 → v1 223 j = v 223 j) → (n_wy ρ κ T 120 s).length ≤ 120 → Q none S v1) :
    z_J G d mX11_laysWay (0, [.ref 223, .int (nI s), .null, .null], [], S, v) Q := by
  obtain ⟨d, rfl⟩ : ∃ e, d = e + 1 := ⟨d - 1, by omega⟩
  have hB := n_B_le hV.1 hV.2.1
  have hE := n_E_le hV.1 hV.2.1
  have hbd := n_bd hV hκ hT hD.1 hD.2.1
  have key : ∀ k u l v1, l.length + k = 120 → (u < n_B ρ ∨ u = T) → n_ds ρ κ T u ≤ k → v1 223 36 = nI l.length → (∀ i, i < l.length → v1 243 i = nI (l.getD i 0)) → (∀ b, b ≠ 223 → b ≠ 243 → v1 b = v b) → (∀ j, j ≠ 36 → v1 223 j = v 223 j) → l ++ n_wy ρ κ T k u = n_wy ρ κ T 120 s →
      z_J G (d + 1) mX11_laysWay (7, [.ref 223, .int (nI s), .int (nI u), .null], [], S, v1) Q := by
    intro k
    have done : ∀ k l v1, l.length + k ≤ 120 → v1 223 36 = nI l.length → (∀ i, i < l.length → v1 243 i = nI (l.getD i 0)) → (∀ b, b ≠ 223 → b ≠ 243 → v1 b = v b) → (∀ j, j ≠ 36 → v1 223 j = v 223 j) → l ++ n_wy ρ κ T k T = n_wy ρ κ T 120 s → z_J G (d + 1) mX11_laysWay (7, [.ref 223, .int (nI s), .int (nI T), .null], [], S, v1) Q := by
      intro k l v1 hlk hc hp hfr hfj hw
      have hn : n_wy ρ κ T k T = [] := by
        cases k with
        | zero => rfl
        | succ k => rw [n_wy, if_pos rfl]
      rw [hn, List.append_nil] at hw
      have e0 : v1 241 T = 0 := by
        rw [hfr 241 (by omega) (by omega)]
        by_cases z : T = n_B ρ
        · rw [z, hA.2, if_pos z]
        · rw [hA.1 T (by omega), hD.1]; rfl
      refine sg_X11_laysWay_7 hL ⟨vp_in_nI (by omega) (by omega), fun _ => ?_, fun c => absurd ?_ c⟩
      · rw [hw] at hc hp hlk
        exact h v1 hc hp hfr hfj (by omega)
      · rw [nI_clamp (by omega), e0]; exact Int32.le_refl _
    induction k with
    | zero =>
      intro u l v1 hlk hu hk0 hc hp hfr hfj hw
      have huT : u = T := by
        by_cases z : u = T
        · exact z
        · have hu := hu.resolve_right z
          have g := n_gd_to hV hκ hu (n_fe_ok hV hκ hD hu z).1
          omega
      subst huT
      exact done 0 l v1 (by omega) hc hp hfr hfj hw
    | succ k ih =>
      intro u l v1 hlk hu hk0 hc hp hfr hfj hw
      by_cases c : u = T
      · subst c
        exact done (k + 1) l v1 (by omega) hc hp hfr hfj hw
      · have hu := hu.resolve_right c
        have hR1 : m_R ρ κ v1 := fun e he => by rw [hfr 238 (by omega) (by omega), hfr 239 (by omega) (by omega), hfr 240 (by omega) (by omega)]; exact hR e he
        have hA1 : m_D ρ κ T v1 := by unfold m_D; rw [hfr 241 (by omega) (by omega)]; exact hA
        have hfe := n_fe_ok hV hκ hD hu c
        have hto := n_gd_to hV hκ hu hfe.1
        have hE1 := hfe.1.1
        have hdu := hbd u hu
        rw [n_wy, if_neg c] at hw
        refine sg_X11_laysWay_7 hL ⟨vp_in_nI (by omega) (by omega), fun z => ?_, fun _ => ?_⟩
        · rw [nI_clamp (by omega), hA1.1 u hu] at z
          exact absurd z (nI_ge (a := 0) (by omega) (by omega))
        · have scan : ∀ j x, x + j = n_fe ρ κ T u → z_J G (d + 1) mX11_laysWay (18, [.ref 223, .int (nI s), .int (nI u), .int (nI x)], [], S, v1) Q := by
            intro j
            induction j with
            | zero =>
              intro x hx
              have hx : x = n_fe ρ κ T u := by omega
              rw [← hx] at hto hE1 hfe hw
              refine sg_X11_laysWay_18 hL (sp_X11_leads hL hV hκ hR1 hT hD hA1 hu hE1 (fun _ => ⟨1, rfl, rfl, fun _ => ?_, fun z => absurd z (by decide)⟩) (fun z => absurd hfe.1 z))
              obtain ⟨g1, g2, g3⟩ := hR1 x hE1
              obtain ⟨q1, q2, q3⟩ := n_ends hV.1 hκ hE1
              have ce : (nI x).toNatClampNeg = x := nI_clamp (by omega)
              refine ⟨by rw [hc]; exact vp_in_nI (by omega) (by omega), fun v2 e2 v3 e3 => ⟨vp_in_nI (by omega) (by omega), ?_⟩⟩
              rw [hc, nI_clamp (by omega)] at e2
              have w1 : v2 223 36 = nI l.length := by rw [e2, z_un (by omega)]; exact hc
              rw [w1, nI_1, e2] at e3
              have hll : (l ++ [x]).length = l.length + 1 := by rw [List.length_append]; rfl
              have hgo : z_J G (d + 1) mX11_laysWay (7, [.ref 223, .int (nI s), .int (nI (n_oth ρ κ x u)), .null], [], S, v3) Q := by
                refine ih (n_oth ρ κ x u) (l ++ [x]) v3 (by omega) hto.1 (by omega) ?_ (fun i hi => ?_) (fun b b1 b2 => ?_) (fun j hj => ?_) (by rw [List.append_assoc]; exact hw)
                · rw [e3, hll]; simp (disch := omega) only [z_ue, z_un]
                · by_cases z : i = l.length
                  · subst z
                    rw [e3, l_ge]; simp (disch := omega) only [z_ue, z_un]
                  · rw [e3, l_gl (by omega)]; simp (disch := omega) only [z_ue, z_un]; exact hp i (by omega)
                · rw [e3, z_u_ne b1, z_u_ne b2]; exact hfr b b1 b2
                · rw [e3, z_un (by omega), z_un (by omega)]; exact hfj j hj
              have k1 : v3 238 x = nI (n_lo ρ κ x) := by rw [e3]; simp (disch := omega) only [z_ue, z_un]; exact g1
              have k2 : v3 239 x = nI (n_hi ρ κ x) := by rw [e3]; simp (disch := omega) only [z_ue, z_un]; exact g2
              rw [ce, k1, k2]
              unfold n_oth at hgo
              refine ⟨fun z => ⟨vp_in_nI (by omega) (by omega), ?_⟩, fun z => ⟨vp_in_nI (by omega) (by omega), ?_⟩⟩
              · rw [if_neg (fun w => z (by rw [w]))] at hgo; exact hgo
              · rw [if_pos ((nI_eq (by omega) (by omega)).mp z)] at hgo; exact hgo
            | succ j ihj =>
              intro x hx
              refine sg_X11_laysWay_18 hL (sp_X11_leads hL hV hκ hR1 hT hD hA1 hu (by omega) (fun g => absurd g (hfe.2 x (by omega))) (fun _ => ⟨0, rfl, rfl, fun z => absurd rfl z, fun _ => ?_⟩))
              rw [nI_1]
              exact ihj (x + 1) (by omega)
          exact scan (n_fe ρ κ T u) 0 (by omega)
  refine sg_X11_laysWay_0 hL (fun v1 e1 => ?_)
  have h0 : n_ds ρ κ T s ≤ 120 := by
    rcases hs with z | z
    · exact hbd s z
    · rw [z, hD.1]; omega
  exact key 120 s [] v1 (by rw [List.length_nil]) hs h0 (by rw [e1, z_ue rfl rfl]; rfl) (fun i hi => by cases hi) (fun b b1 b2 => by rw [e1, z_u_ne b1]) (fun j hj => by rw [e1, z_un (by omega)]) (List.nil_append _)
end SK
