/-! one fabric takes another's row; what can be undone: the class' ring, the reference's shifted rows -/
theorem zF_ap {f g : Nat} (hf : z_isF f) (hg : z_isF g) (h : f ≠ g) : f + 9 < g ∨ g + 9 < f := by
  simp only [z_isF, List.mem_cons, List.not_mem_nil, or_false] at hf hg
  rcases hf with rfl | rfl | rfl | rfl | rfl | rfl | rfl | rfl | rfl | rfl | rfl | rfl <;> omega
theorem zF_lr {f : Nat} (hf : z_isF f) : (z_LR.getD f []).getD 0 none = none := by
  simp only [z_isF, List.mem_cons, List.not_mem_nil, or_false] at hf
  rcases hf with rfl | rfl | rfl | rfl | rfl | rfl | rfl | rfl | rfl | rfl | rfl | rfl <;> decide
theorem zF_lt {f : Nat} (hf : z_isF f) : 37 ≤ f ∧ f + 9 < 223 ∧ (f + 9 < 149 ∨ 203 ≤ f) := by
  simp only [z_isF, List.mem_cons, List.not_mem_nil, or_false] at hf
  omega
/-- the shape when a fabric took another's weave -/
def e_Cp (S : z_Shp) (f g : Nat) : z_Shp := z_sr S f 0 (z_r S g 0)
theorem e_Cp_ne {S : z_Shp} {f g a : Nat} (h : a ≠ f) : z_r (e_Cp S f g) a = z_r S a := by
  funext i
  show (if a = f ∧ i = 0 then _ else z_r S a i) = _
  rw [if_neg (fun z => h z.1)]
theorem e_I.cp {B : Nat × Nat × Nat} {S : z_Shp} {f g : Nat} (h : e_I B S) (hf : z_isF f) : e_I B (e_Cp S f g) := by
  obtain ⟨hL, aL, aO, L, h1, h2⟩ := h
  refine ⟨hL.sr (zF_lr hf), aL, aO, L, ?_, h2⟩
  unfold e_Pa
  rw [e_Cp_ne (by have := zF_lt hf; omega)]
  exact h1
theorem p_F.cp {S : z_Shp} {v : z_Dat} {f g k : Nat} {ρ : Nat → Nat} (h : p_F S v k ρ) (hk : k ≠ f) : p_F (e_Cp S f g) v k ρ := by
  unfold p_F
  rw [e_Cp_ne hk]; exact h
section CP
variable {G : z_G} {d : Nat} {S : z_Shp} {v v0 : z_Dat} {Q : Option Value → z_Shp → z_Dat → Prop} {ρ : Nat → Nat} {f g : Nat}
theorem sp_X0_copyFrom (hd : 1 ≤ d) (hL : z_L S) (hf : z_isF f) (hg : z_isF g) (hfg : f ≠ g) (hF : p_F S v g ρ)
    (h : ∀ v1, p_F (e_Cp S f g) v1 f ρ → z_fr f (f + 9) v v1 → Q none (e_Cp S f g) v1) : z_J G d mX0_copyFrom (0, [.ref f, .ref g, .null], [], S, v) Q := by
  obtain ⟨d, rfl⟩ : ∃ e, d = e + 1 := ⟨d - 1, by omega⟩
  have ap := zF_ap hf hg hfg
  obtain ⟨⟨w, hw, hwd⟩, F1, F2, F3⟩ := hF
  have hwW := p_wdW hwd
  refine sg_X0_copyFrom_0 hL hf hg hw hwW ⟨by have := hL.1; rcases hwd with ⟨e, _⟩ | ⟨e, _⟩ <;> omega, ?_⟩
  have hS : z_sr S f 0 (some w) = e_Cp S f g := by unfold e_Cp; rw [hw]
  rw [hS]
  have hL1 : z_L (e_Cp S f g) := hL.sr (zF_lr hf)
  have hr : z_r (e_Cp S f g) f 0 = some w := by
    show (if f = f ∧ 0 = 0 then z_r S g 0 else _) = _
    rw [if_pos ⟨rfl, rfl⟩, hw]
  refine sg_X0_copyFrom_8 hL1 hf hg (fun v1 e1 => ⟨by unfold z_cpOk; decide, fun v2 e2 => ?_⟩)
  have key : ∀ j k v3, k + j = 2 → (∀ κ, κ < k → (v3 (f + 1) κ = nI (ρ (2 + κ)) ∧ v3 (f + 2) κ = nI (ρ (4 + κ)) ∧ (∀ t, t < 8 → v3 (f + 4 + κ) t = nI (ρ (6 + 8 * κ + t))) ∧ ∀ k, k < 12 → v3 (f + 8 + κ) k = nI (ρ (47 + 12 * κ + k)))) → v3 f 1 = nI (ρ 1) → (∀ q, q < 25 → v3 (f + 6) q = nI (ρ (22 + q))) → z_fr f (f + 9) v v3 → z_J G (d + 1) mX0_copyFrom (33, [.ref f, .ref g, .int (nI k)], [], e_Cp S f g, v3) Q := by
    intro j
    induction j with
    | zero =>
      intro k v3 hk k1 k2 k3 k4
      have hk : k = 2 := by omega
      subst hk
      refine sg_X0_copyFrom_33 hL1 hf hg ⟨fun _ => ?_, fun c => absurd (by decide) c⟩
      exact h v3 ⟨⟨w, hr, hwd⟩, k2, k1, k3⟩ k4
    | succ j ih =>
      intro k v3 hk k1 k2 k3 k4
      have hin : vp_in (nI k) 2 := vp_in_nI (by omega) (by omega)
      have hc : (nI k).toNatClampNeg = k := nI_clamp (by omega)
      refine sg_X0_copyFrom_33 hL1 hf hg ⟨fun c => absurd c (nI_ge (b := 2) (by omega) (by omega)), fun _ => ⟨hin, hin, fun v4 e4 => ⟨hin, hin, fun v5 e5 => ⟨hin, hin, by unfold z_cpOk; decide, fun v6 e6 => ⟨hin, hin, by unfold z_cpOk; decide, fun v7 e7 => ?_⟩⟩⟩⟩⟩
      rw [hc] at e4 e5 e6 e7
      rw [nI_1]
      obtain ⟨q1, q2, q3, q4⟩ := F2 k (by omega)
      have g3 : ∀ i, i < 10 → v3 (g + i) = v (g + i) := fun i hi => k4 _ (by omega)
      refine ih (k + 1) v7 (by omega) (fun κ hκ => ?_) ?_ (fun q hq => ?_) ?_
      · by_cases z : κ = k
        · subst z
          refine ⟨?_, ?_, fun t ht => ?_, fun i hi => ?_⟩
          · rw [e7, z_uan (by omega), e6, z_uan (by omega), e5, z_un (by omega), e4, z_ue rfl rfl, g3 1 (by omega)]; exact q1
          · rw [e7, z_uan (by omega), e6, z_uan (by omega), e5, z_ue rfl rfl, e4, z_un (by omega), g3 2 (by omega)]; exact q2
          · rw [e7, z_uan (by omega), e6, z_uae rfl, pk_cpy_in (by omega) (by omega), e5, z_u_ne (by omega), e4, z_u_ne (by omega), Nat.sub_zero, Nat.zero_add, Nat.add_assoc, g3 (4 + κ) (by omega), ← Nat.add_assoc]; exact q3 t ht
          · rw [e7, z_uae rfl, pk_cpy_in (by omega) (by omega), e6, z_ua_ne (by omega), e5, z_u_ne (by omega), e4, z_u_ne (by omega), Nat.sub_zero, Nat.zero_add, Nat.add_assoc, g3 (8 + κ) (by omega), ← Nat.add_assoc]; exact q4 i hi
        · obtain ⟨p1, p2, p3, p4⟩ := k1 κ (by omega)
          refine ⟨?_, ?_, fun t ht => ?_, fun i hi => ?_⟩
          · rw [e7, z_uan (by omega), e6, z_uan (by omega), e5, z_un (by omega), e4, z_un (by omega)]; exact p1
          · rw [e7, z_uan (by omega), e6, z_uan (by omega), e5, z_un (by omega), e4, z_un (by omega)]; exact p2
          · rw [e7, z_uan (by omega), e6, z_uan (by omega), e5, z_un (by omega), e4, z_un (by omega)]; exact p3 t ht
          · rw [e7, z_uan (by omega), e6, z_uan (by omega), e5, z_un (by omega), e4, z_un (by omega)]; exact p4 i hi
      · rw [e7, z_uan (by omega), e6, z_uan (by omega), e5, z_un (by omega), e4, z_un (by omega)]; exact k2
      · rw [e7, z_uan (by omega), e6, z_uan (by omega), e5, z_un (by omega), e4, z_un (by omega)]; exact k3 q hq
      · rw [e7, e6, e5, e4]
        exact ((((k4.u (by omega) (by omega)).u (by omega) (by omega)).ua (by omega) (by omega)).ua (by omega) (by omega))
  refine key 2 0 v2 rfl (fun κ hκ => by omega) ?_ (fun q hq => ?_) ?_
  · rw [e2, z_uan (by omega), e1, z_ue rfl rfl]; exact F1
  · rw [e2, z_uae rfl, pk_cpy_in (by omega) (by omega), e1, z_u_ne (by omega), Nat.sub_zero, Nat.zero_add]; exact F3 q hq
  · rw [e2, e1]
    exact (z_fr.rf.u (by omega) (by omega)).ua (by omega) (by omega)
theorem zF_ring {t : Nat} (h : t < 8) : z_isF (61 + 10 * t) := by
  simp only [z_isF, List.mem_cons, List.not_mem_nil, or_false]
  omega
theorem zF_img {t : Nat} (h : t < 2) : z_isF (203 + 10 * t) := by
  simp only [z_isF, List.mem_cons, List.not_mem_nil, or_false]
  omega
/-- references outside a span, and but the pairing's two, stay; the budget stays -/
def e_T (B : Nat × Nat × Nat) (lo hi : Nat) (S S1 : z_Shp) : Prop := e_I B S1 ∧ ∀ a, a < 262 → a ≠ 164 → (a < lo ∨ hi < a) → z_r S1 a = z_r S a
theorem e_T.tr {B : Nat × Nat × Nat} {lo hi : Nat} {S S1 S2 : z_Shp} (h1 : e_T B lo hi S S1) (h2 : e_T B lo hi S1 S2) : e_T B lo hi S S2 := ⟨h2.1, fun a a1 a2 a3 => (h2.2 a a1 a2 a3).trans (h1.2 a a1 a2 a3)⟩
theorem e_T.wd {B : Nat × Nat × Nat} {lo hi lo' hi' : Nat} {S S1 : z_Shp} (h : e_T B lo hi S S1) (h1 : lo' ≤ lo) (h2 : hi ≤ hi') : e_T B lo' hi' S S1 := ⟨h.1, fun a a1 a2 a3 => h.2 a a1 a2 (by omega)⟩
theorem e_T.rf {B : Nat × Nat × Nat} {lo hi : Nat} {S : z_Shp} (h : e_I B S) : e_T B lo hi S S := ⟨h, fun _ _ _ _ => rfl⟩
theorem e_R.T {B : Nat × Nat × Nat} {lo hi : Nat} {S S1 : z_Shp} (h : e_R S S1) (hI : e_I B S1) : e_T B lo hi S S1 := ⟨hI, fun a a1 a2 _ => h a a1 a2⟩
theorem e_I.T {B : Nat × Nat × Nat} {f g lo hi : Nat} {S : z_Shp} (h : e_I B S) (hf : z_isF f) (h1 : lo ≤ f) (h2 : f ≤ hi) : e_T B lo hi S (e_Cp S f g) := ⟨h.cp hf, fun a _ _ a3 => e_Cp_ne (by omega)⟩
theorem e_T.F {B : Nat × Nat × Nat} {lo hi k : Nat} {S S1 : z_Shp} {v : z_Dat} {ρ : Nat → Nat} (h : e_T B lo hi S S1) (hk : z_isF k) (h1 : k < lo ∨ hi < k) (hF : p_F S v k ρ) : p_F S1 v k ρ := by
  unfold p_F
  rw [h.2 k (by have := zF_lt hk; omega) (by have := zF_lt hk; omega) h1]; exact hF
/-- the rows that can be undone, the newest first, as the class keeps them and as the reference does -/
def c_H (S : z_Shp) (v : z_Dat) (n : Nat) (r : Nat → Nat → Nat) : Prop := v 59 0 = nI n ∧ n ≤ 8 ∧ ∃ t, t < 8 ∧ v 59 1 = nI t ∧ ∀ i, i < n → p_F S v (61 + 10 * ((t + 7 - i) % 8)) (r i)
def m_H (v : z_Dat) (n : Nat) (r : Nat → Nat → Nat) : Prop := v 223 6 = nI n ∧ n ≤ 8 ∧ ∀ i, i < n → ∀ j, j < 71 → v 226 (71 * (n - 1 - i) + j) = nI (r i j)
def h_ad (ρ : Nat → Nat) (r : Nat → Nat → Nat) : Nat → Nat → Nat := fun i => if i = 0 then ρ else r (i - 1)
def h_n (n : Nat) : Nat := if n < 8 then n + 1 else 8
theorem c_H.fr {B : Nat × Nat × Nat} {lo hi n : Nat} {S S1 : z_Shp} {v v1 : z_Dat} {r : Nat → Nat → Nat} (h : c_H S v n r) (hT : e_T B lo hi S S1) (hlo : hi < 61 ∨ 140 < lo) (hv : ∀ a, 59 ≤ a → a ≤ 140 → v1 a = v a) : c_H S1 v1 n r := by
  obtain ⟨h1, h2, t, ht, h3, h4⟩ := h
  refine ⟨by rw [hv 59 (by omega) (by omega)]; exact h1, h2, t, ht, by rw [hv 59 (by omega) (by omega)]; exact h3, fun i hi => ?_⟩
  exact hT.F (zF_ring (by omega)) (by omega) ((h4 i hi).fr (fun a a1 a2 => hv a (by omega) (by omega)))
theorem m_H.fr {n : Nat} {v v1 : z_Dat} {r : Nat → Nat → Nat} (h : m_H v n r) (h6 : v1 223 6 = v 223 6) (h226 : v1 226 = v 226) : m_H v1 n r := by
  unfold m_H
  rw [h6, h226]; exact h
theorem sp_X2_keep {B : Nat × Nat × Nat} {n : Nat} {r : Nat → Nat → Nat} (hd : 2 ≤ d) (hI : e_I B S) (hF : p_F S v 37 ρ) (hH : c_H S v n r)
    (h : ∀ S1 v1, c_H S1 v1 (h_n n) (h_ad ρ r) → e_T B 61 140 S S1 → z_fr 59 140 v v1 → Q none S1 v1) : z_J G d mX2_keep (0, [.ref 59, .ref 37], [], S, v) Q := by
  obtain ⟨d, rfl⟩ : ∃ e, d = e + 1 := ⟨d - 1, by omega⟩
  obtain ⟨h1, h2, t, ht, h3, h4⟩ := hH
  refine sg_X2_keep_0 hI.1 zF_37 ?_
  rw [h3]
  refine ⟨vp_in_nI (by omega) (by omega), ?_⟩
  rw [nI_clamp (by omega)]
  refine sp_X0_copyFrom (by omega) hI.1 (zF_ring ht) zF_37 (by omega) hF (fun v1 F1 f1 => ⟨rfl, ?_⟩)
  have hT := hI.T (g := 37) (lo := 61) (hi := 140) (zF_ring ht) (by omega) (by omega)
  have e0 : v1 59 = v 59 := f1 59 (by omega)
  have fin : ∀ v2 v3 : z_Dat, v2 = z_u v1 59 1 (nI ((t + 1) % 8)) → v3 = z_u v2 59 0 (if ((v2 59 0) + 1) < 8 then ((v2 59 0) + 1) else 8) → Q none (e_Cp S (61 + 10 * t) 37) v3 := by
    intro v2 v3 e2 e3
    have a0 : v2 59 0 = nI n := by rw [e2, z_un (by omega), e0]; exact h1
    have a3 : v3 59 0 = nI (h_n n) := by
      rw [e3, z_ue rfl rfl, a0, nI_1, show (8 : Int32) = nI 8 from rfl]
      unfold h_n
      by_cases c : n + 1 < 8
      · rw [if_pos (nI_lt (b := 8) c (by omega)), if_pos (by omega)]
      · rw [if_neg (nI_nlt (a := n + 1) (b := 8) (by omega) (by omega))]
        by_cases c2 : n < 8
        · rw [if_pos c2]; exact congrArg nI (show 8 = n + 1 by omega)
        · rw [if_neg c2]
    have w3 : ∀ a, a ≠ 59 → v3 a = v1 a := fun a ha => by rw [e3, z_u_ne ha, e2, z_u_ne ha]
    refine h _ v3 ⟨a3, by unfold h_n; split <;> omega, (t + 1) % 8, by omega, by rw [e3, z_un (by omega), e2, z_ue rfl rfl], fun i hi => ?_⟩ hT (fun a ha => by rw [w3 a (by omega)]; exact f1 a (by omega))
    have hi8 : i < 8 ∧ (0 < i → i - 1 < n) := by unfold h_n at hi; split at hi <;> omega
    unfold h_ad
    by_cases z : i = 0
    · rw [if_pos z, show ((t + 1) % 8 + 7 - i) % 8 = t by omega]
      exact F1.fr (fun a a1 a2 => w3 a (by omega))
    · rw [if_neg z, show ((t + 1) % 8 + 7 - i) % 8 = (t + 7 - (i - 1)) % 8 by omega]
      have ne : (t + 7 - (i - 1)) % 8 ≠ t := by omega
      refine ((h4 (i - 1) (hi8.2 (by omega))).cp (by omega)).fr (fun a a1 a2 => ?_)
      rw [w3 a (by omega)]; exact f1 a (by omega)
  refine sg_X2_keep_13 hT.1.1 zF_37 ⟨fun c v2 e2 v3 e3 => fin v2 v3 ?_ e3, fun c v2 e2 v3 e3 => fin v2 v3 ?_ e3⟩
  · rw [e0, h3, nI_1] at c
    have c := (nI_leI (a := 8) (by omega) (by omega)).mp c
    rw [e2, show (t + 1) % 8 = 0 by omega]; rfl
  · rw [e0, h3, nI_1] at c
    have c : ¬ 8 ≤ t + 1 := fun z => c (nI_le (a := 8) z (by omega))
    rw [e2, e0, h3, nI_1, show (t + 1) % 8 = t + 1 by omega]
theorem sp_X2_takeBack {B : Nat × Nat × Nat} {n : Nat} {r : Nat → Nat → Nat} (hd : 2 ≤ d) (hI : e_I B S) (hH : c_H S v (n + 1) r)
    (h : ∀ S1 v1, c_H S1 v1 n (fun i => r (i + 1)) → p_F S1 v1 37 (r 0) → e_T B 37 46 S S1 → (∀ a, a < 37 ∨ (46 < a ∧ a ≠ 59) → v1 a = v a) → Q none S1 v1) : z_J G d mX2_takeBack (0, [.ref 59, .ref 37], [], S, v) Q := by
  obtain ⟨d, rfl⟩ : ∃ e, d = e + 1 := ⟨d - 1, by omega⟩
  obtain ⟨h1, h2, t, ht, h3, h4⟩ := hH
  have go : ∀ v1 v2 : z_Dat, v1 = z_u v 59 1 (nI ((t + 7) % 8)) → v2 = z_u v1 59 0 ((v1 59 0) - 1) → (vp_in (v2 59 1) 8) ∧ (z_J G d mX0_copyFrom (0, [.ref 37, .ref (61 + 10 * (v2 59 1).toNatClampNeg), .null], [], S, v2) (fun r S1 v3 => r = none ∧ z_J G (d + 1) mX2_takeBack (45, [.ref 59, .ref 37], [], S1, v3) Q)) := by
    intro v1 v2 e1 e2
    have a1 : v2 59 1 = nI ((t + 7) % 8) := by rw [e2, z_un (by omega), e1, z_ue rfl rfl]
    have a0 : v2 59 0 = nI n := by rw [e2, z_ue rfl rfl, e1, z_un (by omega), h1, nI_pred]
    have w2 : ∀ a, a ≠ 59 → v2 a = v a := fun a ha => by rw [e2, z_u_ne ha, e1, z_u_ne ha]
    rw [a1, nI_clamp (by omega)]
    refine ⟨vp_in_nI (by omega) (by omega), ?_⟩
    have F0 := h4 0 (by omega)
    rw [Nat.sub_zero] at F0
    refine sp_X0_copyFrom (by omega) hI.1 zF_37 (zF_ring (by omega)) (by omega) (F0.fr (v1 := v2) (fun a a1 a2 => w2 a (by omega))) (fun v3 F3 f3 => ⟨rfl, ?_⟩)
    have hT := hI.T (g := 61 + 10 * ((t + 7) % 8)) (lo := 37) (hi := 46) zF_37 (by omega) (by omega)
    refine sg_X2_takeBack_45 zF_37 ?_
    refine h _ v3 ⟨by rw [f3 59 (by omega)]; exact a0, by omega, (t + 7) % 8, by omega, by rw [f3 59 (by omega)]; exact a1, fun i hi => ?_⟩ F3 hT (fun a ha => by rw [f3 a (by omega)]; exact w2 a (by omega))
    have := h4 (i + 1) (by omega)
    rw [show ((t + 7) % 8 + 7 - i) % 8 = (t + 7 - (i + 1)) % 8 by omega]
    exact (this.cp (by omega)).fr (fun a a1 a2 => by rw [f3 a (by omega)]; exact w2 a (by omega))
  refine sg_X2_takeBack_0 hI.1 zF_37 ⟨fun c v1 e1 v2 e2 => go v1 v2 ?_ e2, fun c v1 e1 v2 e2 => go v1 v2 ?_ e2⟩
  · rw [h3] at c
    have c := (nI_leI (b := 0) (by omega) (by omega)).mp c
    rw [e1, show (t + 7) % 8 = 7 by omega]; rfl
  · rw [h3] at c
    have c : 0 < t := Nat.pos_of_ne_zero (fun z => c (by rw [z]; decide))
    obtain ⟨t', rfl⟩ : ∃ t', t = t' + 1 := ⟨t - 1, by omega⟩
    rw [e1, h3, nI_pred, show (t' + 1 + 7) % 8 = t' by omega]
end CP
