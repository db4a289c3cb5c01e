/-! THE CLASS' PAIRING SOLVED: solve, paired -/
noncomputable def n_PP (ρ : Nat → Nat) (κ : Nat) : Nat → Nat × Nat := q_P (n_evs ρ κ).length (n_D ρ κ) (n_Bd ρ κ)
def e_Ro (ρ : Nat → Nat) (κ : Nat) (v : z_Dat) (i : Nat) : Prop := v 167 i = nI ((n_evs ρ κ).getD i 0) ∧ c_D ρ κ ((n_evs ρ κ).getD i 0) (169 + i) v ∧ n_isD ρ κ ((n_evs ρ κ).getD i 0) (n_ds ρ κ ((n_evs ρ κ).getD i 0))
def e_So (ρ : Nat → Nat) (κ : Nat) (v : z_Dat) : Prop := v 164 0 = nI (n_evs ρ κ).length ∧ v 164 1 = nI (n_PP ρ κ (2 ^ (n_evs ρ κ).length - 1)).1 ∧ v 164 2 = nI (n_PP ρ κ (2 ^ (n_evs ρ κ).length - 1)).2 ∧ (∀ i, i < (n_evs ρ κ).length → e_Ro ρ κ v i) ∧ c_D ρ κ (n_B ρ) 183 v ∧ n_isD ρ κ (n_B ρ) (n_ds ρ κ (n_B ρ))
theorem c_D.fr {ρ : Nat → Nat} {κ T a : Nat} {v v1 : z_Dat} (h : c_D ρ κ T a v) (hv : v1 a = v a) : c_D ρ κ T a v1 := by
  unfold c_D
  rw [hv]; exact h
theorem e_Ro.fr {ρ : Nat → Nat} {κ i : Nat} {v v1 : z_Dat} (h : e_Ro ρ κ v i) (h1 : v1 167 i = v 167 i) (h2 : v1 (169 + i) = v (169 + i)) : e_Ro ρ κ v1 i := ⟨h1.trans h.1, h.2.1.fr h2, h.2.2⟩
theorem zR_k {S : z_Shp} {i : Nat} (hL : z_L S) (hi : i < 15) : z_k S (169 + i) = 21 := by
  have := zRok hL (vp_in_nI (n := i) (N := 15) hi (by omega))
  rw [nI_clamp (by omega)] at this
  exact this
theorem zR_l {S : z_Shp} {i : Nat} (hL : z_L S) (hi : i < 15) : z_l S (169 + i) = 109 := by
  have := zRol hL (vp_in_nI (n := i) (N := 15) hi (by omega))
  rw [nI_clamp (by omega)] at this
  exact this
section SO
variable {G : z_G} {d : Nat} {S : z_Shp} {v v0 : z_Dat} {Q : Option Value → z_Shp → z_Dat → Prop} {ρ : Nat → Nat} {κ : Nat} {B : Nat × Nat × Nat}
theorem sp_X5_solve (hd : 17 ≤ d) (hI : e_I B S) (hB : B.1 ≤ 999000) (hV : p_V ρ) (hκ : κ < 2) (h14 : (n_evs ρ κ).length ≤ 14) (hR : c_R ρ κ v) (hE : c_Ev ρ κ v (n_B ρ))
    (h : ∀ S1 v1, e_I B S1 → e_R S S1 → e_So ρ κ v1 → v1 165 = q_mt (n_evs ρ κ).length (n_D ρ κ) (n_PP ρ κ) 14 (2 ^ (n_evs ρ κ).length - 1) (v 165) → (∀ b, b < 158 ∨ (186 ≤ b ∧ b < 262) → v1 b = v b) → Q none S1 v1) : z_J G d mX5_solve (0, [.ref 164, .ref 149, .ref 158, .null], [], S, v) Q := by
  obtain ⟨d, rfl⟩ : ∃ e, d = e + 1 := ⟨d - 1, by omega⟩
  have hL := hI.1
  have hBn := n_B_le hV.1 hV.2.1
  have hev : ∀ i, i < (n_evs ρ κ).length → v 157 i = nI ((n_evs ρ κ).getD i 0) := fun i hi => (hE.2 i hi).1
  have hlt : ∀ i, i < (n_evs ρ κ).length → (n_evs ρ κ).getD i 0 < n_B ρ := fun i hi => n_evs_lt hi
  have e3 : v 149 3 = nI (n_evs ρ κ).length := hE.1
  generalize hN : (n_evs ρ κ).length = N at *
  refine sg_X5_solve_0 hL (fun v1 e1 => ?_)
  have ec : (if v 149 3 < 14 then v 149 3 else 14) = nI N := by
    rw [e3]
    by_cases c : N < 14
    · have q : nI N < 14 := nI_lt (b := 14) c (by omega)
      rw [if_pos q]
    · have q : ¬ nI N < 14 := nI_nlt (a := N) (b := 14) (by omega) (by omega)
      rw [if_neg q, show N = 14 by omega]; rfl
  rw [ec] at e1
  have key : ∀ m i v1, i + m = N → v1 164 0 = nI N → (∀ i', i' < i → e_Ro ρ κ v1 i') → (∀ b, b < 158 ∨ 184 ≤ b ∨ b = 165 → v1 b = v b) → z_J G (d + 1) mX5_solve (15, [.ref 164, .ref 149, .ref 158, .int (nI i)], [], S, v1) Q := by
    intro m
    induction m with
    | zero =>
      intro i v1 hi k0 k1 k2
      have hi : i = N := by omega
      subst hi
      have R1 : c_R ρ κ v1 := hR.fr (fun a a1 a2 => k2 a (by omega))
      refine sg_X5_solve_15 hL ⟨fun _ => ?_, fun c => absurd (by rw [k0]; exact nI_le (Nat.le_refl _) (by omega)) c⟩
      rw [R1.1.2.1]
      refine sp_X8_measure (a := 183) (by omega) hL hV hκ (Or.inr (by omega)) (zk_183 hL) (zl_183 hL) R1 (Nat.le_refl _) (fun v2 m1 m2 m3 m4 => ⟨rfl, rfl, ?_⟩)
      have k0' : v2 164 0 = nI i := by rw [m3.1 164 (by omega) (by omega) (by omega) (by omega) (by omega)]; exact k0
      rw [k0', zb_1 (by omega), show nI (2 ^ i) - 1 = nI (2 ^ i - 1) by
        obtain ⟨p, hp⟩ : ∃ p, 2 ^ i = p + 1 := ⟨2 ^ i - 1, by have := Nat.pow_pos (n := i) (show 0 < 2 by omega); omega⟩
        rw [hp, nI_pred]; rfl]
      have hc183 : c_D ρ κ (n_B ρ) 183 v2 := ⟨m1, m2⟩
      have ro2 : ∀ i', i' < i → e_Ro ρ κ v2 i' := fun i' hi' => (k1 i' hi').fr (by rw [m3.1 167 (by omega) (by omega) (by omega) (by omega) (by omega)]) (m3.1 _ (by omega) (by omega) (by omega) (by omega) (by omega))
      refine sp_X5_forgetSets hI hB h14 (fun S1 v3 aL aO L i1 r1 p1 hL2 f1 f2 => ⟨rfl, ?_⟩)
      obtain ⟨raL, raO, kaL, kaO, hne, gL, gO, lL, lO, k, k8, k14, eL⟩ := p1
      have h2k : L ≤ 16384 := by rw [eL]; exact Nat.pow_le_pow_right (n := 2) (by omega) k14
      have h2p : 0 < 2 ^ i := Nat.pow_pos (by omega)
      have I3 : e_In i (n_D ρ κ) (n_Bd ρ κ) (fun j => (n_evs ρ κ).getD j 0) v3 := by
        refine ⟨by rw [f2 164 (by omega)]; exact k0', fun a ha => ⟨?_, ?_, ?_, ?_, fun b hb => ⟨?_, ?_⟩⟩⟩
        · rw [f2 167 (by omega)]; exact (ro2 a ha).1
        · have := hlt a ha
          show (n_evs ρ κ).getD a 0 < 109
          omega
        · rw [f2 183 (by omega)]; exact m1 _ (hlt a ha)
        · exact n_bd hV hκ (Nat.le_refl _) m4.1 m4.2.1 _ (hlt a ha)
        · rw [f2 (169 + b) (by omega)]; exact (ro2 b hb).2.1.1 _ (hlt a ha)
        · have hb2 := hlt b hb
          exact n_bd hV hκ (by omega) (ro2 b hb).2.2.1 (ro2 b hb).2.2.2.1 _ (hlt a ha)
      have M3 : e_Mm (2 ^ i) (q_P i (n_D ρ κ) (n_Bd ρ κ)) aL aO v3 := fun b hb => Or.inl (f1 b hb)
      have hcn := q_cn_le (2 ^ i - 1) 14
      refine sg_X5_solve_88 i1.1 raO kaO ?_
      refine sp_X5_leastFor i1.1 raL kaL raO kaO hne (by omega) (by omega) h14 ⟨by omega, by omega⟩ ⟨by omega, by omega⟩ (q_cn (2 ^ i - 1) 14) (2 ^ i - 1) 0 d v3 _ rfl (by omega) (by omega) (by omega) I3 M3 (fun v4 m4' r4 s4 f4 g4 => ⟨_, rfl, rfl, fun v5 e5 => ⟨vp_in_nI (by omega) (by omega), fun v6 e6 => ?_⟩⟩)
      rw [nI_clamp (by omega)] at e6
      have w6 : ∀ b, b ≠ 164 → v6 b = v4 b := fun b hb => by rw [e6, z_u_ne hb, e5, z_u_ne hb]
      have q1 : v6 164 1 = nI (q_P i (n_D ρ κ) (n_Bd ρ κ) (2 ^ i - 1)).1 := by rw [e6, z_un (by omega), e5, z_ue rfl rfl]
      have q2 : v6 164 2 = nI (q_P i (n_D ρ κ) (n_Bd ρ κ) (2 ^ i - 1)).2 := by rw [e6, z_ue rfl rfl, e5, z_un (by omega), s4]
      have q0 : v6 164 0 = nI i := by rw [e6, z_un (by omega), e5, z_un (by omega), f4 164 (by omega) (by omega)]; exact I3.1
      have w4 : ∀ b, b < 184 → b ≠ 164 → v6 b = v3 b := fun b hb hb4 => by rw [w6 b hb4, f4 b (by omega) (by omega)]
      have I6 : e_In i (n_D ρ κ) (n_Bd ρ κ) (fun j => (n_evs ρ κ).getD j 0) v6 := by
        refine ⟨q0, fun a ha => ?_⟩
        have := I3.2 a ha
        rw [w4 167 (by omega) (by omega), w4 183 (by omega) (by omega)]
        exact ⟨this.1, this.2.1, this.2.2.1, this.2.2.2.1, fun b hb => by rw [w4 (169 + b) (by omega) (by omega)]; exact this.2.2.2.2 b hb⟩
      have M6 : e_Mm (2 ^ i) (q_P i (n_D ρ κ) (n_Bd ρ κ)) aL aO v6 := by
        unfold e_Mm
        rw [w6 aL (by omega), w6 aO (by omega)]; exact m4'
      have hPle := q_P_le (D := n_D ρ κ) (fun a ha => (I3.2 a ha).2.2.2.1) h14 (2 ^ i) (2 ^ i - 1) (by omega) (by omega)
      refine sp_X5_choosePartners (by omega) i1.1 raL kaL (by omega) (by omega) h14 ⟨by omega, by omega⟩ I6 M6 (by rw [w6 aL (by omega), r4]; exact nI_n1 (by omega)) (fun v7 t1 t2 => ⟨rfl, rfl, ?_⟩)
      have a7 : ∀ b, b < 184 → b ≠ 164 → b ≠ 165 → v7 b = v2 b := fun b hb h4 h5 => by rw [t2 b h5, w4 b hb h4, f2 b (by omega)]
      have ePP : n_PP ρ κ = q_P i (n_D ρ κ) (n_Bd ρ κ) := by unfold n_PP; rw [hN]
      refine h S1 v7 i1 r1 ⟨?_, ?_, ?_, fun i' hi' => ?_, ?_, m4⟩ ?_ (fun b hb => ?_)
      · rw [t2 164 (by omega), hN]; exact q0
      · rw [t2 164 (by omega), hN, ePP]; exact q1
      · rw [t2 164 (by omega), hN, ePP]; exact q2
      · rw [hN] at hi'
        exact (ro2 i' hi').fr (by rw [a7 167 (by omega) (by omega) (by omega)]) (a7 _ (by omega) (by omega) (by omega))
      · exact hc183.fr (a7 _ (by omega) (by omega) (by omega))
      · rw [t1, ePP, w4 165 (by omega) (by omega), f2 165 (by omega), m3.1 165 (by omega) (by omega) (by omega) (by omega) (by omega), k2 165 (by omega)]
      · rw [t2 b (by omega), w6 b (by omega), f4 b (by omega) (by omega), f2 b (by omega), m3.1 b (by omega) (by omega) (by omega) (by omega) (by omega), k2 b (by omega)]
    | succ m ih =>
      intro i v1 hi k0 k1 k2
      have hin : vp_in (nI i) 14 := vp_in_nI (by omega) (by omega)
      refine sg_X5_solve_15 hL ⟨fun c => absurd c (by rw [k0]; exact nI_ge (by omega) (by omega)), fun _ => ⟨vp_in_nI (by omega) (by omega), hin, fun v3 e3' => ⟨hin, vp_in_nI (by omega) (by omega), ?_⟩⟩⟩
      rw [nI_clamp (n := i) (by omega), k2 157 (by omega), hev i (by omega)] at e3'
      have w3 : ∀ b, b ≠ 167 → v3 b = v1 b := fun b hb => by rw [e3', z_u_ne hb]
      rw [nI_clamp (n := i) (by omega), show v3 167 i = nI ((n_evs ρ κ).getD i 0) by rw [e3', z_ue rfl rfl], nI_1]
      have R3 : c_R ρ κ v3 := hR.fr (fun a a1 a2 => by rw [w3 a (by omega)]; exact k2 a (by omega))
      have hl2 := hlt i (by omega)
      refine sp_X8_measure (a := 169 + i) (by omega) hL hV hκ (Or.inr (by omega)) (zR_k hL (by omega)) (zR_l hL (by omega)) R3 (by omega) (fun v4 m1 m2 m3 m4 => ⟨rfl, rfl, ih (i + 1) v4 (by omega) ?_ (fun i' hi' => ?_) (fun b hb => ?_)⟩)
      · rw [m3.1 164 (by omega) (by omega) (by omega) (by omega) (by omega), w3 164 (by omega)]; exact k0
      · have w167 : v4 167 = v3 167 := m3.1 167 (by omega) (by omega) (by omega) (by omega) (by omega)
        by_cases z : i' = i
        · subst z
          exact ⟨by rw [w167, e3', z_ue rfl rfl], ⟨m1, m2⟩, m4⟩
        · refine (k1 i' (by omega)).fr ?_ ?_
          · rw [w167, e3', z_un (Or.inr z)]
          · rw [m3.1 _ (by omega) (by omega) (by omega) (by omega) (by omega), w3 _ (by omega)]
      · rw [m3.1 b (by omega) (by omega) (by omega) (by omega) (by omega), w3 b (by omega)]; exact k2 b hb
  exact key N 0 v1 (by omega) (by rw [e1, z_ue rfl rfl]) (fun i' hi' => by omega) (fun b hb => by rw [e1, z_u_ne (by omega)])
theorem sp_X10_paired {f : Nat} (hd : 18 ≤ d) (hI : e_I B S) (hB : B.1 ≤ 999000) (hV : p_V ρ) (hW : p_Ws v) (hf : z_isF f) (hF : p_F S v f ρ) (hκ : κ < 2)
    (h1 : ∀ S1 v1, (n_evs ρ κ).length ≤ 14 → e_I B S1 → e_R S S1 → c_R ρ κ v1 → e_So ρ κ v1 → v1 165 = q_mt (n_evs ρ κ).length (n_D ρ κ) (n_PP ρ κ) 14 (2 ^ (n_evs ρ κ).length - 1) (v 165) → (∀ b, b < 149 ∨ (186 ≤ b ∧ b < 262) → v1 b = v b) → Q (some (.int 1)) S1 v1)
    (h0 : ∀ v1, ¬ (n_evs ρ κ).length ≤ 14 → z_fr 149 157 v v1 → Q (some (.int 0)) S v1) : z_J G d mX10_paired (0, [.ref 0, .ref f, .int (nI κ)], [], S, v) Q := by
  obtain ⟨d, rfl⟩ : ∃ e, d = e + 1 := ⟨d - 1, by omega⟩
  have hBn := n_B_le hV.1 hV.2.1
  have hlen := n_evs_len (ρ := ρ) (κ := κ)
  refine sg_X10_paired_0 hI.1 hf (sp_X4_spread (by omega) hI.1 hV hW hf hF hκ (fun v1 hN hE => ⟨rfl, rfl, ?_⟩))
  have e3 : v1 149 3 = nI (n_evs ρ κ).length := hE.1
  rw [e3]
  refine ⟨fun c => ?_, fun c => h0 v1 (fun z => c (nI_le (b := 14) z (by omega))) hN.2.2.2⟩
  have c := (nI_leI (b := 14) (by omega) (by omega)).mp c
  refine sp_X5_solve (by omega) hI hB hV hκ c (hN.R hV.1) hE (fun S1 v2 i1 r1 s1 t1 f1 => ⟨rfl, sg_X10_paired_38 hf ?_⟩)
  refine h1 S1 v2 c i1 r1 ((hN.R hV.1).fr (fun a a1 a2 => f1 a (by omega))) s1 ?_ (fun b hb => ?_)
  · rw [t1, hN.2.2.2 165 (by omega)]
  · rw [f1 b (by omega), hN.2.2.2 b (by omega)]
end SO
