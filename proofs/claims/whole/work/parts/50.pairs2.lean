/-! the reference's pairs: distances of all events to all aims, then the table -/
def c_x : Nat → Int32
  | 0 => -1
  | c + 1 => nI c
def c_T (ρ : Nat → Nat) (κ : Nat) : Nat → Nat
  | 0 => n_B ρ
  | c + 1 => (n_evs ρ κ).getD c 0
theorem c_x1 : ∀ c, c_x c + 1 = c_x (c + 1)
  | 0 => by decide
  | c + 1 => nI_1 c
theorem c_ix (i : Nat) : ∀ c, (15 : Int32) * nI i + c_x c + 1 = nI (15 * i + c)
  | 0 => by
    show (15 : Int32) * nI i + -1 + 1 = _
    rw [i_m1, show (15 : Int32) = nI 15 from rfl, pk_mul]; rfl
  | c + 1 => by
    show (15 : Int32) * nI i + nI c + 1 = _
    rw [show (15 : Int32) = nI 15 from rfl, pk_mul, nI_add, nI_1]; rfl
theorem c_nle {N : Nat} (hN : N < 2 ^ 31) : ∀ c, c ≤ N → ¬ nI N ≤ c_x c
  | 0, _ => fun h => absurd (Int32.le_trans (nI_pos' hN) h) (by decide)
  | c + 1, h => nI_ge (by omega) hN
section PB
variable {G : z_G} {d : Nat} {S : z_Shp} {v v0 : z_Dat} {Q : Option Value → z_Shp → z_Dat → Prop} {ρ : Nat → Nat} {κ : Nat} {x1 : Int32}
theorem sp_X11_pairs (hd : 6 ≤ d) (hL : z_L S) (hV : p_V ρ) (hM : p_M v ρ) (hT : p_MT v (ρ 0)) (hκ : κ < 2)
    (h1 : ∀ v1, (n_evs ρ κ).length ≤ 14 → q_Tb (q_P (n_evs ρ κ).length (n_D ρ κ) (n_Bd ρ κ)) v1 (2 ^ (n_evs ρ κ).length) → q_In (n_evs ρ κ).length (n_D ρ κ) (n_Bd ρ κ) v1 → m_N ρ κ v1 v1 (n_E ρ) → m_Ev ρ κ v1 (n_B ρ) → (∀ c, c ≤ (n_evs ρ κ).length → n_isD ρ κ (c_T ρ κ c) (n_ds ρ κ (c_T ρ κ c))) → m_f7 v v1 → Q (some (.int 1)) S v1)
    (h0 : ∀ v1, ¬ (n_evs ρ κ).length ≤ 14 → m_f7 v v1 → Q (some (.int 0)) S v1) : z_J G d mX11_pairs (0, [.ref 223, .int (nI κ), .null, .null], [], S, v) Q := by
  obtain ⟨d, rfl⟩ : ∃ e, d = e + 1 := ⟨d - 1, by omega⟩
  have hB := n_B_le hV.1 hV.2.1
  have hlen := n_evs_len (ρ := ρ) (κ := κ)
  refine sg_X11_pairs_0 hL (sp_X11_laysNet (by omega) hL hV hM hT hκ (fun w hN hE => ⟨rfl, rfl, fun c => ?_, fun c => ?_⟩))
  · have e3 : w 223 33 = nI (n_evs ρ κ).length := hE.1
    rw [e3] at c
    have h14 := (nI_leI (b := 14) (by omega) (by omega)).mp c
    have hlt : ∀ i, i < (n_evs ρ κ).length → w 242 i = nI ((n_evs ρ κ).getD i 0) := fun i hi => hE.2 i hi
    have rd : ∀ v1 : z_Dat, (∀ b, b ≠ 241 → b ≠ 246 → v1 b = w b) → m_N ρ κ v1 v1 (n_E ρ) ∧ m_Ev ρ κ v1 (n_B ρ) := fun v1 k => by
      constructor
      · refine ⟨?_, ?_, m_fr.rf⟩
        · rw [k 223 (by omega) (by omega)]; exact hN.1
        · intro e he
          rw [k 238 (by omega) (by omega), k 239 (by omega) (by omega), k 240 (by omega) (by omega)]; exact hN.2.1 e he
      · unfold m_Ev
        rw [k 223 (by omega) (by omega), k 242 (by omega) (by omega)]; exact hE
    have outer : ∀ j c v1, c + j = (n_evs ρ κ).length + 1 → (∀ b, b ≠ 241 → b ≠ 246 → v1 b = w b) → (∀ i, i < (n_evs ρ κ).length → ∀ c', c' < c → v1 246 (15 * i + c') = nI (n_ds ρ κ (c_T ρ κ c') ((n_evs ρ κ).getD i 0))) → (∀ c', c' < c → n_isD ρ κ (c_T ρ κ c') (n_ds ρ κ (c_T ρ κ c'))) →
        z_J G (d + 1) mX11_pairs (18, [.ref 223, .int (nI κ), .int (c_x c), .null], [], S, v1) Q := by
      intro j
      induction j with
      | zero =>
        intro c v1 hc k1 k2 k3
        have hc : c = (n_evs ρ κ).length + 1 := by omega
        subst hc
        have hTle : ∀ c', c' < (n_evs ρ κ).length + 1 → c_T ρ κ c' ≤ n_B ρ := fun c' hc' => by
          cases c' with
          | zero => exact Nat.le_refl _
          | succ c' => have := n_evs_lt (ρ := ρ) (κ := κ) (i := c') (by omega); show (n_evs ρ κ).getD c' 0 ≤ _; omega
        refine sg_X11_pairs_18 hL ⟨fun _ v2 e2 v3 e3' => ?_, fun z => absurd ?_ z⟩
        · have q : ∀ b, b ≠ 244 → b ≠ 245 → v3 b = v1 b := fun b b1 b2 => by rw [e3', z_u_ne b2, e2, z_u_ne b1]
          refine sp_X11_pairs_93 (N := (n_evs ρ κ).length) (D := n_D ρ κ) (Bd := n_Bd ρ κ) (by omega) hL h14 ⟨?_, fun i hi => ⟨?_, ?_, fun j hj => ⟨?_, ?_⟩⟩⟩ ⟨?_, ?_⟩ (fun v4 t1 t2 t3 => ?_)
          · rw [q 223 (by omega) (by omega), k1 223 (by omega) (by omega)]; exact e3
          · rw [q 246 (by omega) (by omega)]; exact k2 i hi 0 (by omega)
          · have D0 := k3 0 (by omega)
            exact n_bd hV hκ (hTle 0 (by omega)) D0.1 D0.2.1 _ (n_evs_lt hi)
          · rw [q 246 (by omega) (by omega)]; exact k2 i hi (j + 1) (by omega)
          · have D0 := k3 (j + 1) (by omega)
            exact n_bd hV hκ (hTle (j + 1) (by omega)) D0.1 D0.2.1 _ (n_evs_lt hi)
          · rw [e3', z_un (by omega), e2, z_ue rfl rfl]
          · rw [e3', z_ue rfl rfl]
          · have q4 : ∀ b, b ≠ 244 → b ≠ 245 → v4 b = v1 b := fun b b1 b2 => (t3 b b1 b2).trans (q b b1 b2)
            have r1 := rd v1 k1
            refine h1 v4 h14 t1 t2 ⟨?_, ?_, m_fr.rf⟩ ?_ (fun c hc => k3 c (by omega)) ⟨fun b b1 b2 => ?_, fun j j0 j1 j2 => ?_⟩
            · rw [q4 223 (by omega) (by omega)]; exact r1.1.1
            · intro e he
              rw [q4 238 (by omega) (by omega), q4 239 (by omega) (by omega), q4 240 (by omega) (by omega)]; exact r1.1.2.1 e he
            · unfold m_Ev
              rw [q4 223 (by omega) (by omega), q4 242 (by omega) (by omega)]; exact r1.2
            · rw [q4 b (by omega) (by omega), k1 b (by omega) (by omega)]
              exact hN.2.2.f6.1 b b1 (by omega)
            · rw [q4 223 (by omega) (by omega), k1 223 (by omega) (by omega)]
              exact hN.2.2.f6.2 j j0 j1 j2
        · rw [k1 223 (by omega) (by omega), e3]
          exact nI_le (Nat.le_refl _) (by omega)
      | succ j ih =>
        intro c v1 hc k1 k2 k3
        obtain ⟨rN, rE⟩ := rd v1 k1
        have ho : (c_x c = -1 ∧ c_T ρ κ c = n_B ρ) ∨ ∃ j, c_x c = nI j ∧ j < (n_evs ρ κ).length ∧ c_T ρ κ c = (n_evs ρ κ).getD j 0 := by
          cases c with
          | zero => exact Or.inl ⟨rfl, rfl⟩
          | succ c => exact Or.inr ⟨c, rfl, by omega, rfl⟩
        refine sg_X11_pairs_18 hL ⟨fun z => ?_, fun _ => ?_⟩
        · rw [k1 223 (by omega) (by omega), e3] at z
          exact absurd z (c_nle (by omega) c (by omega))
        · refine sp_X11_aims2 (by omega) hL hV hκ ho rN rE (fun v2 hD2 f2 is2 => ⟨rfl, rfl, ?_⟩)
          have inner : ∀ m i v3, i + m = (n_evs ρ κ).length → (∀ b, b ≠ 246 → v3 b = v2 b) → (∀ i', i' < (n_evs ρ κ).length → ∀ c', c' < c → v3 246 (15 * i' + c') = nI (n_ds ρ κ (c_T ρ κ c') ((n_evs ρ κ).getD i' 0))) → (∀ i', i' < i → v3 246 (15 * i' + c) = nI (n_ds ρ κ (c_T ρ κ c) ((n_evs ρ κ).getD i' 0))) →
              z_J G (d + 1) mX11_pairs (33, [.ref 223, .int (nI κ), .int (c_x c), .int (nI i)], [], S, v3) Q := by
            intro m
            induction m with
            | zero =>
              intro i v3 hi g1 g2 g3
              have hi : i = (n_evs ρ κ).length := by omega
              refine sg_X11_pairs_33 hL ⟨fun _ => ?_, fun z => absurd ?_ z⟩
              · rw [c_x1]
                refine ih (c + 1) v3 (by omega) (fun b b1 b2 => ?_) (fun i' hi' c' hc' => ?_) (fun c' hc' => ?_)
                · rw [g1 b b2, f2 b b1]; exact k1 b b1 b2
                · by_cases z : c' = c
                  · rw [z]; exact g3 i' (by omega)
                  · exact g2 i' hi' c' (by omega)
                · by_cases z : c' = c
                  · rw [z]; exact is2
                  · exact k3 c' (by omega)
              · rw [g1 223 (by omega), f2 223 (by omega), k1 223 (by omega) (by omega), e3, hi]
                exact nI_le (Nat.le_refl _) (by omega)
            | succ m ihm =>
              intro i v3 hi g1 g2 g3
              have hlt2 := n_evs_lt (ρ := ρ) (κ := κ) (i := i) (by omega)
              have e242 : v3 242 i = nI ((n_evs ρ κ).getD i 0) := by
                rw [g1 242 (by omega), f2 242 (by omega), k1 242 (by omega) (by omega)]; exact hlt i (by omega)
              refine sg_X11_pairs_33 hL ⟨fun z => ?_, fun _ => ?_⟩
              · rw [g1 223 (by omega), f2 223 (by omega), k1 223 (by omega) (by omega), e3] at z
                exact absurd z (nI_ge (by omega) (by omega))
              · rw [c_ix, nI_clamp (n := i) (by omega), e242, nI_clamp (n := (n_evs ρ κ).getD i 0) (by omega), nI_clamp (n := 15 * i + c) (by omega), g1 241 (by omega), hD2.1 _ hlt2, nI_1]
                refine ⟨vp_in_nI (by omega) (by omega), vp_in_nI (by omega) (by omega), vp_in_nI (by omega) (by omega), fun v4 e4 => ?_⟩
                refine ihm (i + 1) v4 (by omega) (fun b b1 => by rw [e4, z_u_ne b1]; exact g1 b b1) (fun i' hi' c' hc' => ?_) (fun i' hi' => ?_)
                · rw [e4, z_un (by omega)]; exact g2 i' hi' c' hc'
                · by_cases z : i' = i
                  · rw [z, e4, z_ue rfl rfl]
                  · rw [e4, z_un (by omega)]; exact g3 i' (by omega)
          exact inner _ 0 v2 (Nat.zero_add _) (fun _ _ => rfl) (fun i' hi' c' hc' => by rw [f2 246 (by omega)]; exact k2 i' hi' c' hc') (fun i' hi' => by omega)
    exact outer ((n_evs ρ κ).length + 1) 0 w (by omega) (fun _ _ _ => rfl) (fun i hi c' hc' => by omega) (fun c' hc' => by omega)
  · have e3 : w 223 33 = nI (n_evs ρ κ).length := hE.1
    rw [e3] at c
    exact h0 w (fun z => c (nI_le (b := 14) z (by omega))) hN.2.2.f6.f7
end PB
