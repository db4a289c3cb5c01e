/-! the class' peelForest, growAndPeel -/
theorem m_sum_u {f : Nat → Nat} {e : Nat} : ∀ n, e < n → f e = 1 → (∀ e', e' < n → e' ≠ e → f e' = 0) → m_sum f n = 1
  | 0, h, _, _ => by omega
  | n + 1, h, h1, h2 => by
    show m_sum f n + f n = 1
    by_cases z : e = n
    · subst z
      have : m_sum f e ≤ m_sum (fun _ => 0) e := m_sum_le e (fun e' he' => by rw [h2 e' (by omega) (by omega)]; exact Nat.le_refl _)
      rw [m_sum_c] at this
      omega
    · rw [m_sum_u n (by omega) h1 (fun e' he' hne => h2 e' (by omega) hne), h2 n (by omega) (fun q => z q.symm)]
section PG
variable {G : z_G} {d : Nat} {S : z_Shp} {v v0 : z_Dat} {Q : Option Value → z_Shp → z_Dat → Prop} {ρ : Nat → Nat} {κ : Nat} {F : Nat → Nat}
theorem sp_X1_isLeaf {y n : Nat} (hL : z_L S) (hy : y ≤ n_B ρ) (hB : n_B ρ ≤ 108) (h1 : v 149 1 = nI (n_B ρ)) (h2 : v 193 y = nI n) (hn : n < 2 ^ 31) (hq1 : y < n_B ρ → n = 1 → Q (some (.int 1)) S v) (hq0 : (y = n_B ρ ∨ n ≠ 1) → Q (some (.int 0)) S v) : z_J G d mX1_isLeaf (0, [.ref 186, .ref 149, .int (nI y)], [], S, v) Q := by
  refine sg_X1_isLeaf_0 hL ?_
  rw [h1, nI_clamp (by omega), h2]
  refine ⟨fun c => hq0 (Or.inl ((nI_eq (by omega) (by omega)).mp c)), fun c => ⟨vp_in_nI (by omega) (by omega), fun c2 => hq0 (Or.inr (fun z => c2 (by rw [z]; rfl))), fun c2 => hq1 ?_ ((nI_eq (b := 1) hn (by omega)).mp c2)⟩⟩
  rcases Nat.lt_or_ge y (n_B ρ) with q | q
  · exact q
  · exact absurd (by rw [show y = n_B ρ by omega]) c
theorem u_dg_le {R : Nat → Nat} {y : Nat} (hV : p_V ρ) (hR : ∀ e, R e ≤ 1) : u_dg ρ κ R y ≤ 321 := by
  have hE := n_E_le hV.1 hV.2.1
  have := m_sum_le (f := fun e => R e * u_at ρ κ e y) (g := fun _ => 1) (n_E ρ) (fun e _ => by
    have h1 := hR e
    have h2 := u_at_le (ρ := ρ) (κ := κ) (e := e) (y := y)
    rcases (show R e = 0 ∨ R e = 1 by omega) with z | z <;> rw [z]
    · rw [Nat.zero_mul]; omega
    · rw [Nat.one_mul]; exact h2)
  rw [m_sum_c, Nat.mul_one] at this
  unfold u_dg
  omega
theorem sp_X1_peelForest {wh lab : Nat → Nat} (hd : 2 ≤ d) (hL : z_L S) (hV : p_V ρ) (hκ : κ < 2) (hR : c_R ρ κ v) (hEv : c_Ev ρ κ v (n_B ρ)) (hw1 : ∀ e, wh e ≤ 1) (hG : u_ok ρ κ lab wh) (hA : ¬ u_any ρ κ lab) (hF : F = (u_fs ρ κ wh (n_E ρ)).2) (hdg : ∀ y, y ≤ n_B ρ → v 193 y = nI (u_dg ρ κ F y) ∧ v 194 y = nI (u_xr ρ κ F y))
    (hq : ∀ v1, (∀ e, e < n_E ρ → v1 187 e = nI (u_Pf ρ κ F e)) → v1 186 3 = nI (m_sum (u_Pf ρ κ F) (n_E ρ)) → v1 186 4 = nI (m_sum (fun e => u_Pf ρ κ F e * n_w ρ κ e) (n_E ρ)) → (∀ b, b ≠ 186 → b ≠ 187 → b ≠ 191 → b ≠ 193 → b ≠ 194 → v1 b = v b) → (∀ j, j ≠ 3 → j ≠ 4 → v1 186 j = v 186 j) → Q none S v1) : z_J G d mX1_peelForest (0, [.ref 186, .ref 149, .null, .null, .null], [], S, v) Q := by
  obtain ⟨d, rfl⟩ : ∃ e, d = e + 1 := ⟨d - 1, by omega⟩
  have hBn := n_B_le hV.1 hV.2.1
  have hE := n_E_le hV.1 hV.2.1
  have okF := u_fs_ok (wh := wh) hV hκ (n_E ρ) (Nat.le_refl _)
  have hF1 : ∀ e, F e ≤ 1 := fun e => by rw [hF]; exact okF.2.1 e
  have hFE : ∀ e, F e = 1 → e < n_E ρ := fun e q => by
    rcases Nat.lt_or_ge e (n_E ρ) with w | w
    · exact w
    · rw [hF, u_fs_o _ w] at q; cases q
  -- spots in their order
  have outer : ∀ j s v1 (R h pl : Nat → Nat), s + j = n_B ρ → u_PI ρ κ F R h pl → g_P ρ κ F v1 R h pl → (∀ y, y < s → u_dg ρ κ R y ≠ 1) → (∀ b, b ≠ 186 → b ≠ 187 → b ≠ 191 → b ≠ 193 → b ≠ 194 → v1 b = v b) → (∀ j, j ≠ 3 → j ≠ 4 → v1 186 j = v 186 j) → z_J G (d + 1) mX1_peelForest (25, [.ref 186, .ref 149, .int (nI s), .null, .null], [], S, v1) Q := by
    intro j
    induction j with
    | zero =>
      intro s v1 R h pl hs P1 C1 nl k1 k2
      have hs : s = n_B ρ := by omega
      subst hs
      refine sg_X1_peelForest_25 hL ⟨fun _ => ?_, fun c => absurd (by rw [k1 149 (by omega) (by omega) (by omega) (by omega) (by omega), hR.1.1]; exact nI_le (Nat.le_refl _) (by omega)) c⟩
      have hR0 : ∀ e, R e = 0 := fun e => by
        have h1 := (P1.1 e).1
        rcases (show R e = 0 ∨ R e = 1 by omega) with z | z
        · exact z
        · exfalso
          obtain ⟨y, y1, e2, e3, e4, e5⟩ := u_leaf (ρ := ρ) (κ := κ) (wh := wh) (n_E ρ) (Nat.le_refl _) (fun e => R e = 1) (fun e q => ⟨((P1.1 e).2 q).2, by rw [← hF]; exact ((P1.1 e).2 q).1⟩) ⟨e, z⟩ (n_B ρ)
          have h2 := ((P1.1 e2).2 e3).2
          obtain ⟨q1, q2, q3⟩ := n_ends hV.1 hκ h2
          refine nl y (by rcases e4 with w | w <;> omega) (m_sum_u (e := e2) _ h2 ?_ (fun e' he' hne => ?_))
          · show R e2 * u_at ρ κ e2 y = 1
            rw [e3, u_at_1.mpr e4]
          · show R e' * u_at ρ κ e' y = 0
            have h3 := (P1.1 e').1
            have h4 := u_at_le (ρ := ρ) (κ := κ) (e := e') (y := y)
            rcases (show R e' = 0 ∨ R e' = 1 by omega) with w | w <;> rw [w]
            · rw [Nat.zero_mul]
            · rw [Nat.one_mul]
              have : ¬ u_at ρ κ e' y = 1 := fun q => hne (e5 e' w (u_at_1.mp q))
              omega
      have ec : u_cf ρ κ F R = u_Pf ρ κ F := funext fun e => by
        unfold u_cf u_Pf
        by_cases c : F e = 1
        · rw [if_pos ⟨c, hR0 e⟩, if_pos c]
        · rw [if_neg (fun z => c z.1), if_neg c]
      obtain ⟨-, -, c3, c4, c5⟩ := C1
      rw [ec] at c3 c4 c5
      exact hq v1 c3 c4 c5 k1 k2
    | succ j ih =>
      intro s v1 R h pl hs P1 C1 nl k1 k2
      refine sg_X1_peelForest_25 hL ⟨fun c => absurd c (by rw [k1 149 (by omega) (by omega) (by omega) (by omega) (by omega), hR.1.1]; exact nI_ge (by omega) (by omega)), fun _ => ?_⟩
      have chain : ∀ m n x v2 (R h pl : Nat → Nat), m_sum (fun u => 1 - pl u) (n_B ρ) = m → n + m ≤ n_B ρ → x ≤ n_B ρ → u_PI ρ κ F R h pl → g_P ρ κ F v2 R h pl → (∀ y, y ≤ s → y ≠ x → u_dg ρ κ R y ≠ 1) → (∀ b, b ≠ 186 → b ≠ 187 → b ≠ 191 → b ≠ 193 → b ≠ 194 → v2 b = v b) → (∀ j, j ≠ 3 → j ≠ 4 → v2 186 j = v 186 j) → z_J G (d + 1) mX1_peelForest (38, [.ref 186, .ref 149, .int (nI s), .int (nI x), .int (nI n)], [], S, v2) Q := by
        intro m
        induction m using Nat.strongRecOn with
        | ind m ihm =>
        intro n x v2 R h pl hm hnm hx P2 C2 nl2 g1 g2
        have R2 : c_R ρ κ v2 := hR.fr (fun a a1 a2 => g1 a (by omega) (by omega) (by omega) (by omega) (by omega))
        have hdl := u_dg_le (κ := κ) (y := x) hV (fun e => (P2.1 e).1)
        refine sg_X1_peelForest_38 hL ⟨fun c => absurd c (by rw [R2.1.1]; exact nI_nlt (by omega) (by omega)), fun _ => ?_⟩
        refine sp_X1_isLeaf hL hx hBn R2.1.2.1 (C2.1 x hx) (by omega) (fun x1 x2 => ⟨_, rfl, rfl, fun c => absurd c (by decide), fun _ => ?_⟩) (fun hc => ⟨_, rfl, rfl, fun _ => ?_, fun c => absurd rfl c⟩)
        · refine sp_X1_peelLeaf (by omega) hL hV hκ R2 hw1 hG hA hF P2 C2 x1 x2 (fun v3 e hf C3 f1 f2 => ⟨_, rfl, rfl, ?_⟩)
          obtain ⟨o1, o2, o3, o4, o5, o6, o7, o8, o9, o10⟩ := u_lf_o hV hκ P2 hf
          have P3 := u_PI_s hV hκ P2 x1 hf
          have hcount : m_sum (fun u => 1 - p_up pl x 1 u) (n_B ρ) + 1 = m_sum (fun u => 1 - pl u) (n_B ρ) := by
            have ef : (fun u => 1 - p_up pl x 1 u) = p_up (fun u => 1 - pl u) x 0 := funext fun u => by
              by_cases z : u = x
              · rw [p_ue z, p_ue z]
              · rw [p_un z, p_un z]
            have := m_sum_p (f := fun u => 1 - pl u) (e := x) (x := 0) (n_B ρ) x1
            rw [ef]
            have h1 : 1 - pl x = 1 := by omega
            omega
          rw [nI_1]
          refine ihm _ (by omega) (n + 1) (n_oth ρ κ e x) v3 _ _ _ rfl (by omega) o4 P3 C3 (fun y hy hne => ?_) (fun b b1 b2 b3 b4 b5 => (f1 b b1 b2 b3 b4 b5).trans (g1 b b1 b2 b3 b4 b5)) (fun j j1 j2 => (f2 j j1 j2).trans (g2 j j1 j2))
          have dy := u_dg_p (ρ := ρ) (κ := κ) (R := R) (e := e) (x := 0) (y := y) o1
          rw [hf.1, Nat.one_mul, Nat.zero_mul, Nat.add_zero] at dy
          by_cases z : y = x
          · rw [z] at dy ⊢
            rw [u_at_1.mpr hf.2.1, x2] at dy
            omega
          · have h0 : u_at ρ κ e y = 0 := by
              have h1 := u_at_le (ρ := ρ) (κ := κ) (e := e) (y := y)
              have h2 : ¬ u_at ρ κ e y = 1 := fun q => by
                rcases u_at_1.mp q with q | q <;> rcases o10 with ⟨z1, z2⟩ | ⟨z1, z2⟩
                · exact z (q.symm.trans z1)
                · exact hne (q.symm.trans z2)
                · exact hne (q.symm.trans z2)
                · exact z (q.symm.trans z1)
              omega
            have := nl2 y hy z
            omega
        · rw [nI_1]
          refine ih (s + 1) v2 R h pl (by omega) P2 C2 (fun y hy => ?_) g1 g2
          by_cases z : y = x
          · rcases hc with w | w
            · omega
            · rw [z]; exact w
          · exact nl2 y (by omega) z
      have hcl : m_sum (fun u => 1 - pl u) (n_B ρ) ≤ n_B ρ := by
        have := m_sum_le (f := fun u => 1 - pl u) (g := fun _ => 1) (n_B ρ) (fun u _ => Nat.sub_le 1 (pl u))
        rw [m_sum_c, Nat.mul_one] at this
        exact this
      exact chain _ 0 s v1 R h pl rfl (by omega) (by omega) P1 C1 (fun y hy hne => nl y (by omega)) k1 k2
  refine sg_X1_peelForest_0 hL (sp_J7_fill (zk_187 hL) (by rw [zl_187 hL]; omega) (fun g hg => ⟨rfl, rfl, fun v2 e2 v3 e3 => ?_⟩))
  have w3 : ∀ b, b ≠ 186 → b ≠ 187 → v3 b = v b := fun b b1 b2 => by rw [e3, z_u_ne b1, e2, z_u_ne b1, z_ua_ne b2]
  have E3 : c_Ev ρ κ v3 (n_B ρ) := by
    unfold c_Ev
    rw [w3 149 (by omega) (by omega), w3 157 (by omega) (by omega), w3 155 (by omega) (by omega), w3 156 (by omega) (by omega)]
    exact hEv
  refine sp_X1_markEvents (by omega) hL hV E3 (fun v4 m1 m2 => ⟨rfl, rfl, ?_⟩)
  have ec0 : u_cf ρ κ F F = fun _ => 0 := funext fun e => by
    unfold u_cf
    rw [if_neg (fun z => by have h1 := z.1; have h2 := z.2; omega)]
  refine outer _ 0 v4 F (fun u => u) (fun _ => 0) (Nat.zero_add _) ⟨fun e => ⟨hF1 e, fun q => ⟨q, hFE e q⟩⟩, fun _ => Nat.zero_le _, rfl, fun _ _ => ⟨rfl, rfl⟩, fun u hu => ⟨hu, rfl, fun _ => rfl⟩, fun e _ q1 q2 => by omega, fun u _ X _ => Iff.rfl⟩ ⟨fun y hy => ?_, fun y hy _ => ⟨?_, ?_⟩, fun e he => ?_, ?_, ?_⟩ (fun y hy => by omega) (fun b b1 b2 b3 b4 b5 => by rw [m2 b b3, w3 b b1 b2]) (fun j j1 j2 => ?_)
  · rw [m2 193 (by omega), w3 193 (by omega) (by omega)]; exact (hdg y hy).1
  · rw [m2 194 (by omega), w3 194 (by omega) (by omega)]; exact (hdg y hy).2
  · have := u_od_0 m1 y hy rfl
    exact this
  · rw [m2 187 (by omega), e3, z_u_ne (by omega), e2, z_u_ne (by omega), z_uae rfl, hg e (by rw [zl_187 hL]; omega), ec0]; rfl
  · rw [m2 186 (by omega), e3, z_un (by omega), e2, z_ue rfl rfl, ec0, m_sum_c, Nat.mul_zero]; rfl
  · rw [m2 186 (by omega), e3, z_ue rfl rfl, ec0]
    have : (fun e => 0 * n_w ρ κ e) = fun _ => 0 := funext fun e => Nat.zero_mul _
    show (0 : Int32) = nI (m_sum (fun e => 0 * n_w ρ κ e) (n_E ρ))
    rw [this, m_sum_c, Nat.mul_zero]; rfl
  · rw [m2 186 (by omega), e3, z_un (Or.inr j2), e2, z_un (Or.inr j1), z_ua_ne (by omega)]
/-- what is whole when growing ends; the forest of it -/
noncomputable def n_wh (ρ : Nat → Nat) (κ : Nat) : Nat → Nat := (u_st ρ κ (u_N ρ κ)).2.2
noncomputable def n_fo (ρ : Nat → Nat) (κ : Nat) : Nat → Nat := (u_fs ρ κ (n_wh ρ κ) (n_E ρ)).2
noncomputable def n_fl (ρ : Nat → Nat) (κ : Nat) : List Nat := u_fl ρ κ (n_wh ρ κ) (n_E ρ)
noncomputable def n_pf (ρ : Nat → Nat) (κ : Nat) : Nat → Nat := u_Pf ρ κ (n_fo ρ κ)
/-- what growth has to tell -/
def c_Gr (ρ : Nat → Nat) (κ : Nat) (v : z_Dat) : Prop := v 186 0 = nI (u_N ρ κ) ∧ v 186 1 = nI (m_sum (n_wh ρ κ) (n_E ρ)) ∧ v 186 2 = nI (n_fl ρ κ).length ∧ v 186 3 = nI (m_sum (n_pf ρ κ) (n_E ρ)) ∧ v 186 4 = nI (m_sum (fun e => n_pf ρ κ e * n_w ρ κ e) (n_E ρ)) ∧ ∀ e, e < n_E ρ → v 187 e = nI (n_pf ρ κ e)
theorem sp_X10_growAndPeel {f : Nat} (hd : 4 ≤ d) (hL : z_L S) (hV : p_V ρ) (hW : p_Ws v) (hf : z_isF f) (hF : p_F S v f ρ) (hκ : κ < 2)
    (h : ∀ v1, c_R ρ κ v1 → c_Gr ρ κ v1 → (∀ b, b < 149 ∨ (158 ≤ b ∧ b < 186) ∨ 194 < b → v1 b = v b) → Q none S v1) : z_J G d mX10_growAndPeel (0, [.ref 0, .ref f, .int (nI κ)], [], S, v) Q := by
  obtain ⟨d, rfl⟩ : ∃ e, d = e + 1 := ⟨d - 1, by omega⟩
  have hI := u_Iv_n hV hκ (u_N ρ κ)
  obtain ⟨N1, N2, N3⟩ := u_N_ok hV hκ
  refine sg_X10_growAndPeel_0 hL hf (sp_X4_spread (by omega) hL hV hW hf hF hκ (fun v1 hN hE => ⟨rfl, rfl, ?_⟩))
  have R1 := hN.R hV.1
  refine sp_X1_growClumps (by omega) hL hV hκ R1 hE (fun v2 C2 s2 f2 => ⟨rfl, rfl, ?_⟩)
  have R2 : c_R ρ κ v2 := R1.fr (fun a a1 a2 => f2 a (by omega))
  obtain ⟨-, -, -, c9, cn⟩ := C2
  refine sp_X1_layForest (wh := n_wh ρ κ) (by omega) hL hV hκ R2 hI.1.2.1 c9 (fun v3 l1 l2 f3 g3 => ⟨rfl, rfl, ?_⟩)
  have R3 : c_R ρ κ v3 := R2.fr (fun a a1 a2 => f3 a (by omega) (by omega) (by omega) (by omega) (by omega))
  have E3 : c_Ev ρ κ v3 (n_B ρ) := by
    have w : ∀ b, 149 ≤ b → b ≤ 157 → v3 b = v1 b := fun b b1 b2 => by rw [f3 b (by omega) (by omega) (by omega) (by omega) (by omega), f2 b (by omega)]
    unfold c_Ev
    rw [w 149 (by omega) (by omega), w 157 (by omega) (by omega), w 155 (by omega) (by omega), w 156 (by omega) (by omega)]
    exact hE
  refine sp_X1_peelForest (F := n_fo ρ κ) (wh := n_wh ρ κ) (by omega) hL hV hκ R3 E3 hI.1.2.1 hI.1 N2 rfl l2 (fun v4 p1 p2 p3 f4 g4 => ⟨rfl, rfl, ?_⟩)
  refine h v4 (R3.fr (fun a a1 a2 => f4 a (by omega) (by omega) (by omega) (by omega) (by omega))) ⟨?_, ?_, ?_, p2, p3, p1⟩ (fun b hb => ?_)
  · rw [g4 0 (by omega) (by omega), g3 0 (by omega)]; exact s2
  · rw [g4 1 (by omega) (by omega), g3 1 (by omega)]; exact cn
  · rw [g4 2 (by omega) (by omega)]; exact l1
  · rw [f4 b (by omega) (by omega) (by omega) (by omega) (by omega), f3 b (by omega) (by omega) (by omega) (by omega) (by omega), f2 b (by omega), hN.2.2.2 b (by omega)]
end PG
