/-! THE CLASS GROWS: growEdges, joinWhole, growClumps -/
theorem m_sum_p {f : Nat → Nat} {e x : Nat} : ∀ n, e < n → m_sum (p_up f e x) n + f e = m_sum f n + x
  | 0, h => by omega
  | n + 1, h => by
    show m_sum (p_up f e x) n + p_up f e x n + f e = m_sum f n + f n + x
    by_cases z : e = n
    · subst z
      have hc : ∀ k, k ≤ e → m_sum (p_up f e x) k = m_sum f k := by
        intro k
        induction k with
        | zero => intro _; rfl
        | succ k ih =>
          intro hk
          show m_sum (p_up f e x) k + p_up f e x k = m_sum f k + f k
          rw [ih (by omega), p_un (by omega)]
      rw [hc e (Nat.le_refl _), p_ue rfl]
      omega
    · have := m_sum_p (f := f) (e := e) (x := x) n (by omega)
      rw [p_un (fun q => z q.symm)]
      omega
def g_C (ρ : Nat → Nat) (κ : Nat) (v : z_Dat) (st : u_S) : Prop := (∃ ab t, u_UF (n_B ρ) ab st.1 t ∧ ∀ u, u ≤ n_B ρ → v 190 u = nI (ab u)) ∧ u_od ρ κ st.1 v ∧ (∀ e, e < n_E ρ → v 188 e = nI (st.2.1 e)) ∧ (∀ e, e < n_E ρ → v 189 e = nI (st.2.2 e)) ∧ v 186 1 = nI (m_sum st.2.2 (n_E ρ))
theorem u_od.fr {ρ : Nat → Nat} {κ : Nat} {lab : Nat → Nat} {v v1 : z_Dat} (h : u_od ρ κ lab v) (e : v1 191 = v 191) : u_od ρ κ lab v1 := fun y h1 h2 => by rw [e]; exact h y h1 h2
section GC
variable {G : z_G} {d : Nat} {S : z_Shp} {v v0 : z_Dat} {Q : Option Value → z_Shp → z_Dat → Prop} {ρ : Nat → Nat} {κ : Nat} {st : u_S}
theorem sp_X1_growEdges (hL : z_L S) (hV : p_V ρ) (hκ : κ < 2) (hR : c_R ρ κ v) (hI : u_Iv ρ κ st) (h8 : ∀ e, e < n_E ρ → v 188 e = nI (st.2.1 e)) (h9 : ∀ e, e < n_E ρ → v 189 e = nI (st.2.2 e)) (h2 : ∀ u, u ≤ n_B ρ → v 192 u = nI (u_o ρ κ st.1 u))
    (h : ∀ v1, (∀ e, e < n_E ρ → v1 188 e = nI (u_gb ρ κ st e)) → (∀ b, b ≠ 188 → v1 b = v b) → Q none S v1) : z_J G d mX1_growEdges (0, [.ref 186, .ref 149, .null], [], S, v) Q := by
  have hBn := n_B_le hV.1 hV.2.1
  have hE := n_E_le hV.1 hV.2.1
  have key : ∀ j e v1, e + j = n_E ρ → (∀ e', e' < n_E ρ → v1 188 e' = nI (if e' < e then u_gb ρ κ st e' else st.2.1 e')) → (∀ b, b ≠ 188 → v1 b = v b) → z_J G d mX1_growEdges (2, [.ref 186, .ref 149, .int (nI e)], [], S, v1) Q := by
    intro j
    induction j with
    | zero =>
      intro e v1 he k1 k2
      have he : e = n_E ρ := by omega
      subst he
      refine sg_X1_growEdges_2 hL ⟨fun _ => h v1 (fun e' he' => by rw [k1 e' he', if_pos he']) k2, fun c => absurd (by rw [k2 149 (by omega), hR.1.2.2.1]; exact nI_le (Nat.le_refl _) (by omega)) c⟩
    | succ j ih =>
      intro e v1 he k1 k2
      have he2 : e < n_E ρ := by omega
      obtain ⟨q1, q2, q3⟩ := n_ends hV.1 hκ he2
      obtain ⟨r1, r2, r3⟩ := hR.2.1 e he2
      have hin : vp_in (nI e) 321 := vp_in_nI (by omega) (by omega)
      have hw := hI.1.2.1 e
      have k1e := k1 e he2
      rw [if_neg (Nat.lt_irrefl e)] at k1e
      refine sg_X1_growEdges_2 hL ⟨fun c => absurd c (by rw [k2 149 (by omega), hR.1.2.2.1]; exact nI_ge (by omega) (by omega)), fun _ => ?_⟩
      rw [nI_clamp (n := e) (by omega), k2 189 (by omega), h9 e he2, k2 150 (by omega), r1, k2 151 (by omega), r2, nI_clamp (n := n_lo ρ κ e) (by omega), nI_clamp (n := n_hi ρ κ e) (by omega), k2 192 (by omega), h2 _ (show n_lo ρ κ e ≤ n_B ρ by omega), h2 _ q3, k1e, nI_add, nI_add, nI_1]
      have hg : u_gb ρ κ st e = if st.2.2 e = 0 then st.2.1 e + (u_o ρ κ st.1 (n_lo ρ κ e) + u_o ρ κ st.1 (n_hi ρ κ e)) else st.2.1 e := rfl
      refine ⟨hin, fun c => ?_, fun c => ⟨hin, hin, vp_in_nI (by omega) (by omega), hin, vp_in_nI (by omega) (by omega), hin, fun v2 e2 => ?_⟩⟩
      · refine ih (e + 1) v1 (by omega) (fun e' he' => ?_) k2
        by_cases z : e' = e
        · subst z
          rw [if_pos (by omega), hg, if_neg (fun q => c (by rw [q]; rfl))]
          exact k1e
        · rw [k1 e' he']
          by_cases y : e' < e
          · rw [if_pos y, if_pos (by omega)]
          · rw [if_neg y, if_neg (by omega)]
      · have c := (nI_eq (b := 0) (by omega) (by omega)).mp c
        refine ih (e + 1) v2 (by omega) (fun e' he' => ?_) (fun b hb => by rw [e2, z_u_ne hb]; exact k2 b hb)
        by_cases z : e' = e
        · rw [e2, z_ue rfl z, if_pos (by omega), z, hg, if_pos c]
        · rw [e2, z_un (Or.inr z), k1 e' he']
          by_cases y : e' < e
          · rw [if_pos y, if_pos (by omega)]
          · rw [if_neg y, if_neg (by omega)]
  refine sg_X1_growEdges_0 (key (n_E ρ) 0 v (Nat.zero_add _) (fun e' he' => ?_) (fun _ _ => rfl))
  rw [if_neg (by omega)]; exact h8 e' he'
theorem sp_X1_joinWhole (hd : 2 ≤ d) (hL : z_L S) (hV : p_V ρ) (hκ : κ < 2) (hR : c_R ρ κ v) (hI : u_Iv ρ κ st) (hC : g_C ρ κ v (st.1, u_gb ρ κ st, st.2.2))
    (h : ∀ v1, g_C ρ κ v1 (u_s1 ρ κ st) → (∀ b, b < 186 ∨ 191 < b → v1 b = v b) → (∀ j, j ≠ 1 → v1 186 j = v 186 j) → Q none S v1) : z_J G d mX1_joinWhole (0, [.ref 186, .ref 149, .null], [], S, v) Q := by
  obtain ⟨d, rfl⟩ : ∃ e, d = e + 1 := ⟨d - 1, by omega⟩
  have hBn := n_B_le hV.1 hV.2.1
  have hE := n_E_le hV.1 hV.2.1
  have hg19 : ∀ e, e < n_E ρ → u_gb ρ κ st e ≤ 19 := fun e he => ((u_Iv_s hV hκ hI).2 e he).2
  generalize hgb : u_gb ρ κ st = gb at *
  have key : ∀ j e v1, e + j = n_E ρ → g_C ρ κ v1 ((u_jw ρ κ gb st.1 st.2.2 e).1, gb, (u_jw ρ κ gb st.1 st.2.2 e).2) → (∀ b, b < 186 ∨ 191 < b → v1 b = v b) → (∀ j, j ≠ 1 → v1 186 j = v 186 j) → z_J G (d + 1) mX1_joinWhole (2, [.ref 186, .ref 149, .int (nI e)], [], S, v1) Q := by
    intro j
    induction j with
    | zero =>
      intro e v1 he C1 k2 k3
      have he : e = n_E ρ := by omega
      subst he
      refine sg_X1_joinWhole_2 hL ⟨fun _ => h v1 ?_ k2 k3, fun c => absurd (by rw [k2 149 (by omega), hR.1.2.2.1]; exact nI_le (Nat.le_refl _) (by omega)) c⟩
      have e1 : u_s1 ρ κ st = ((u_jw ρ κ gb st.1 st.2.2 (n_E ρ)).1, gb, (u_jw ρ κ gb st.1 st.2.2 (n_E ρ)).2) := by unfold u_s1; rw [hgb]
      rw [e1]; exact C1
    | succ j ih =>
      intro e v1 he C1 k2 k3
      have he2 : e < n_E ρ := by omega
      obtain ⟨q1, q2, q3⟩ := n_ends hV.1 hκ he2
      have R1 : c_R ρ κ v1 := hR.fr (fun a a1 a2 => k2 a (by omega))
      obtain ⟨r1, r2, r3⟩ := R1.2.1 e he2
      have hin : vp_in (nI e) 321 := vp_in_nI (by omega) (by omega)
      have ok := u_jw_ok (gb := gb) hV hκ hI.1 e (by omega)
      have hw := n_wt (e := e) hV hκ
      have hg := hg19 e he2
      obtain ⟨⟨ab, t, U0, a1⟩, o0, c80, c90, cn0⟩ := C1
      have o1 : u_od ρ κ (u_jw ρ κ gb st.1 st.2.2 e).1 v1 := o0
      have U1 : u_UF (n_B ρ) ab (u_jw ρ κ gb st.1 st.2.2 e).1 t := U0
      have c8 : ∀ e', e' < n_E ρ → v1 188 e' = nI (gb e') := c80
      have c9 : ∀ e', e' < n_E ρ → v1 189 e' = nI ((u_jw ρ κ gb st.1 st.2.2 e).2 e') := c90
      have cn : v1 186 1 = nI (m_sum (u_jw ρ κ gb st.1 st.2.2 e).2 (n_E ρ)) := cn0
      clear o0 U0 c80 c90 cn0
      have nx := ih (e + 1)
      rw [u_jw] at nx
      generalize hjw : u_jw ρ κ gb st.1 st.2.2 e = W at *
      refine sg_X1_joinWhole_2 hL ⟨fun c => absurd c (by rw [R1.1.2.2.1]; exact nI_ge (by omega) (by omega)), fun _ => ?_⟩
      rw [nI_clamp (n := e) (by omega), c9 e he2, c8 e he2, r3, show (2 : Int32) = nI 2 from rfl, pk_mul, nI_1]
      have hw1 := ok.2.1 e
      refine ⟨hin, fun c => ?_, fun c => ⟨hin, hin, fun c2 => ?_, fun c2 => ⟨hin, fun v2 e2 v3 e3 => ?_⟩⟩⟩
      · rw [if_neg (fun z => c (by rw [z.1]; rfl))] at nx
        exact nx v1 (by omega) ⟨⟨ab, t, U1, a1⟩, o1, c8, c9, cn⟩ k2 k3
      · have c2 := (nI_ltI (by omega) (by omega)).mp c2
        rw [if_neg (fun z => by have := z.2; omega)] at nx
        exact nx v1 (by omega) ⟨⟨ab, t, U1, a1⟩, o1, c8, c9, cn⟩ k2 k3
      · have c := (nI_eq (b := 0) (by omega) (by omega)).mp c
        have c2 : 2 * n_w ρ κ e ≤ gb e := by
          rcases Nat.lt_or_ge (gb e) (2 * n_w ρ κ e) with q | q
          · exact absurd (nI_lt q (by omega)) c2
          · exact q
        rw [if_pos ⟨c, c2⟩] at nx
        have w3 : ∀ b, b ≠ 189 → b ≠ 186 → v3 b = v1 b := fun b b1 b2 => by rw [e3, z_u_ne b2, e2, z_u_ne b1]
        have R3 : c_R ρ κ v3 := R1.fr (fun a a1 a2 => w3 a (by omega) (by omega))
        have c93 : ∀ e', e' < n_E ρ → v3 189 e' = nI (p_up W.2 e 1 e') := fun e' he' => by
          rw [e3, z_un (by omega), e2]
          by_cases z : e' = e
          · rw [z_ue rfl z, p_ue z]; rfl
          · rw [z_un (Or.inr z), p_un z]; exact c9 e' he'
        have cn3 : v3 186 1 = nI (m_sum (p_up W.2 e 1) (n_E ρ)) := by
          rw [e3, z_ue rfl rfl, e2, z_un (by omega), cn, nI_1]
          congr 1
          have := m_sum_p (f := W.2) (e := e) (x := 1) (n_E ρ) he2
          omega
        have k33 : ∀ j, j ≠ 1 → v3 186 j = v 186 j := fun j hj => by rw [e3, z_un (Or.inr hj), e2, z_un (by omega)]; exact k3 j hj
        refine sp_X1_joinEnds (by omega) hL hV hκ R3 he2 U1 (fun u hu => by rw [w3 190 (by omega) (by omega)]; exact a1 u hu) (fun v4 ab4 hs U4 f1 f2 => ⟨_, rfl, rfl, ?_⟩) (fun v4 ab4 t4 hs U4 f1 f3 f2 => ⟨_, rfl, rfl, ?_⟩)
        · have f2' : ∀ b, b ≠ 190 → v4 b = v3 b := f2
          refine nx v4 (by omega) ⟨⟨ab4, t, ?_, f1⟩, ?_, fun e' he' => ?_, fun e' he' => ?_, ?_⟩ (fun b hb => by rw [f2' b (by omega), w3 b (by omega) (by omega)]; exact k2 b hb) (fun j hj => by rw [f2' 186 (by omega)]; exact k33 j hj)
          · show u_UF _ _ (u_J W.1 _ _) _
            rw [u_J_id hs]; exact U4
          · show u_od _ _ (u_J W.1 _ _) _
            rw [u_J_id hs]
            exact o1.fr (by rw [f2' 191 (by omega), w3 191 (by omega) (by omega)])
          · rw [f2' 188 (by omega), w3 188 (by omega) (by omega)]; exact c8 e' he'
          · rw [f2' 189 (by omega)]; exact c93 e' he'
          · rw [f2' 186 (by omega)]; exact cn3
        · refine nx v4 (by omega) ⟨⟨ab4, t4, U4, f1⟩, ?_, fun e' he' => ?_, fun e' he' => ?_, ?_⟩ (fun b hb => by rw [f2 b (by omega) (by omega), w3 b (by omega) (by omega)]; exact k2 b hb) (fun j hj => by rw [f2 186 (by omega) (by omega)]; exact k33 j hj)
          · exact u_od_J ok.1 (by omega) q3 hs (o1.fr (w3 191 (by omega) (by omega))) f3
          · rw [f2 188 (by omega) (by omega), w3 188 (by omega) (by omega)]; exact c8 e' he'
          · rw [f2 189 (by omega) (by omega)]; exact c93 e' he'
          · rw [f2 186 (by omega) (by omega)]; exact cn3
  exact sg_X1_joinWhole_0 (key (n_E ρ) 0 v (Nat.zero_add _) hC (fun _ _ => rfl) (fun _ _ => rfl))
theorem sp_X1_growClumps (hd : 3 ≤ d) (hL : z_L S) (hV : p_V ρ) (hκ : κ < 2) (hR : c_R ρ κ v) (hEv : c_Ev ρ κ v (n_B ρ))
    (h : ∀ v1, g_C ρ κ v1 (u_st ρ κ (u_N ρ κ)) → v1 186 0 = nI (u_N ρ κ) → (∀ b, b < 186 ∨ 192 < b → v1 b = v b) → Q none S v1) : z_J G d mX1_growClumps (0, [.ref 186, .ref 149], [], S, v) Q := by
  obtain ⟨d, rfl⟩ : ∃ e, d = e + 1 := ⟨d - 1, by omega⟩
  have hBn := n_B_le hV.1 hV.2.1
  have hE := n_E_le hV.1 hV.2.1
  obtain ⟨N1, N2, N3⟩ := u_N_ok hV hκ
  have key : ∀ j n v1, n + j = u_N ρ κ → g_C ρ κ v1 (u_st ρ κ n) → v1 186 0 = nI n → (∀ b, b < 186 ∨ 192 < b → v1 b = v b) → z_J G (d + 1) mX1_growClumps (36, [.ref 186, .ref 149], [], S, v1) Q := by
    intro j
    induction j with
    | zero =>
      intro n v1 hn C1 k1 k2
      have hn : n = u_N ρ κ := by omega
      subst hn
      have R1 : c_R ρ κ v1 := hR.fr (fun a a1 a2 => k2 a (by omega))
      obtain ⟨⟨ab, t, U1, a1⟩, o1, c8, c9, cn⟩ := id C1
      refine sg_X1_growClumps_36 hL ⟨fun c => absurd c (by rw [k1]; exact nI_ge (b := 100000) (by omega) (by omega)), fun _ => ?_⟩
      refine sp_X1_findOpen (by omega) hL hV R1 U1 a1 o1 (fun v2 ab2 y U2 f1 f2 f3 y1 y2 => ⟨_, rfl, rfl, fun _ => ?_, fun c => absurd (y2 N2) c⟩)
      refine h v2 ⟨⟨ab2, t, U2, f1⟩, o1.fr (f3 191 (by omega) (by omega)), ?_, ?_, ?_⟩ ?_ (fun b hb => by rw [f3 b (by omega) (by omega)]; exact k2 b hb)
      · intro e he; rw [f3 188 (by omega) (by omega)]; exact c8 e he
      · intro e he; rw [f3 189 (by omega) (by omega)]; exact c9 e he
      · rw [f3 186 (by omega) (by omega)]; exact cn
      · rw [f3 186 (by omega) (by omega)]; exact k1
    | succ j ih =>
      intro n v1 hn C1 k1 k2
      have R1 : c_R ρ κ v1 := hR.fr (fun a a1 a2 => k2 a (by omega))
      have hI := u_Iv_n hV hκ n
      obtain ⟨⟨ab, t, U1, a1⟩, o1, c8, c9, cn⟩ := C1
      refine sg_X1_growClumps_36 hL ⟨fun c => absurd c (by rw [k1]; exact nI_ge (b := 100000) (by omega) (by omega)), fun _ => ?_⟩
      refine sp_X1_findOpen (by omega) hL hV R1 U1 a1 o1 (fun v2 ab2 y U2 f1 f2 f3 y1 y2 => ⟨_, rfl, rfl, fun c => absurd ((y1 (N3 n (by omega))).symm.trans c) (by decide), fun _ => ?_⟩)
      have R2 : c_R ρ κ v2 := R1.fr (fun a a1 a2 => f3 a (by omega) (by omega))
      refine sp_X1_growEdges hL hV hκ R2 hI (fun e he => by rw [f3 188 (by omega) (by omega)]; exact c8 e he) (fun e he => by rw [f3 189 (by omega) (by omega)]; exact c9 e he) f2 (fun v3 g1 g2 => ⟨rfl, rfl, ?_⟩)
      have R3 : c_R ρ κ v3 := R2.fr (fun a a1 a2 => g2 a (by omega))
      refine sp_X1_joinWhole (by omega) hL hV hκ R3 hI ⟨⟨ab2, t, U2, fun u hu => by rw [g2 190 (by omega)]; exact f1 u hu⟩, o1.fr (by rw [g2 191 (by omega), f3 191 (by omega) (by omega)]), g1, fun e he => by rw [g2 189 (by omega), f3 189 (by omega) (by omega)]; exact c9 e he, by rw [g2 186 (by omega), f3 186 (by omega) (by omega)]; exact cn⟩ (fun v4 C4 h1 h2 => ⟨rfl, rfl, fun v5 e5 => ?_⟩)
      have w5 : ∀ b, b ≠ 186 → v5 b = v4 b := fun b hb => by rw [e5, z_u_ne hb]
      obtain ⟨⟨ab4, t4, U4, a4⟩, o4, c84, c94, cn4⟩ := C4
      refine ih (n + 1) v5 (by omega) ⟨⟨ab4, t4, U4, fun u hu => by rw [w5 190 (by omega)]; exact a4 u hu⟩, o4.fr (w5 191 (by omega)), fun e he => by rw [w5 188 (by omega)]; exact c84 e he, fun e he => by rw [w5 189 (by omega)]; exact c94 e he, by rw [e5, z_un (by omega)]; exact cn4⟩ ?_ (fun b hb => ?_)
      · rw [e5, z_ue rfl rfl, h2 0 (by omega), g2 186 (by omega), f3 186 (by omega) (by omega), k1, nI_1]
      · rw [w5 b (by omega), h1 b (by omega), g2 b (by omega), f3 b (by omega) (by omega)]; exact k2 b hb
  refine sg_X1_growClumps_0 hL (sp_J7_fill (zk_188 hL) (by rw [zl_188 hL]; omega) (fun g hg => ⟨rfl, rfl, ?_⟩))
  refine sp_J7_fill (zk_189 hL) (by rw [zl_189 hL]; omega) (fun g' hg' => ⟨rfl, rfl, fun v3 e3 => ?_⟩)
  have w3 : ∀ b, b ≠ 186 → b ≠ 188 → b ≠ 189 → v3 b = v b := fun b b1 b2 b3 => by rw [e3, z_u_ne b1, z_ua_ne b3, z_ua_ne b2]
  refine sp_X1_partAll hL hBn (by rw [w3 149 (by omega) (by omega) (by omega)]; exact hR.1.2.1) (fun v4 p1 p2 => ⟨rfl, rfl, ?_⟩)
  have E4 : c_Ev ρ κ v4 (n_B ρ) := by
    unfold c_Ev
    rw [p2 149 (by omega), p2 157 (by omega), p2 155 (by omega), p2 156 (by omega), w3 149 (by omega) (by omega) (by omega), w3 157 (by omega) (by omega) (by omega), w3 155 (by omega) (by omega) (by omega), w3 156 (by omega) (by omega) (by omega)]
    exact hEv
  refine sp_X1_markEvents (by omega) hL hV E4 (fun v5 m1 m2 => ⟨rfl, rfl, fun v6 e6 => ?_⟩)
  have w6 : ∀ b, b ≠ 186 → v6 b = v5 b := fun b hb => by rw [e6, z_u_ne hb]
  refine key _ 0 v6 (Nat.zero_add _) ⟨⟨_, _, u_UF_0, fun u hu => ?_⟩, (u_od_0 m1).fr (w6 191 (by omega)), fun e he => ?_, fun e he => ?_, ?_⟩ (by rw [e6, z_ue rfl rfl]; rfl) (fun b hb => ?_)
  · rw [w6 190 (by omega), m2 190 (by omega)]; exact p1 u hu
  · rw [w6 188 (by omega), m2 188 (by omega), p2 188 (by omega), e3, z_u_ne (by omega), z_ua_ne (by omega), z_uae rfl, hg e (by rw [zl_188 hL]; omega)]; rfl
  · rw [w6 189 (by omega), m2 189 (by omega), p2 189 (by omega), e3, z_u_ne (by omega), z_uae rfl, hg' e (by rw [zl_189 hL]; omega)]; rfl
  · rw [e6, z_un (by omega), m2 186 (by omega), p2 186 (by omega), e3, z_ue rfl rfl]
    show (0 : Int32) = nI (m_sum (fun _ => 0) (n_E ρ))
    rw [m_sum_c, Nat.mul_zero]; rfl
  · rw [w6 b (by omega), m2 b (by omega), p2 b (by omega), w3 b (by omega) (by omega) (by omega)]
end GC
