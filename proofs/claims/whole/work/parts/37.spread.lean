/-! THE CLASS' NET, whole: joinWithin, joinToNext, findEvents, spread -/
/-- the events among the first n spots lie in the net's rows -/
def c_Ev (ρ : Nat → Nat) (κ : Nat) (v : z_Dat) (n : Nat) : Prop := v 149 3 = nI (n_ev ρ κ n).length ∧ ∀ i, i < (n_ev ρ κ n).length → (v 157 i = nI ((n_ev ρ κ n).getD i 0) ∧ v 155 i = nI ((n_ev ρ κ n).getD i 0 % t_K (ρ 0)) ∧ v 156 i = nI ((n_ev ρ κ n).getD i 0 / t_K (ρ 0)))
theorem n_at1 {ρ : Nat → Nat} {κ t q : Nat} (hq : q < ρ 0 * ρ 0) : n_lo ρ κ (t * n_W (ρ 0) + q) = t * t_K (ρ 0) + t_c1 (ρ 0) κ q ∧ n_hi ρ κ (t * n_W (ρ 0) + q) = (if t_c2 (ρ 0) κ q = 99 then n_B ρ else t * t_K (ρ 0) + t_c2 (ρ 0) κ q) ∧ n_w ρ κ (t * n_W (ρ 0) + q) = ρ (22 + q) := by
  obtain ⟨h1, h2⟩ := n_dm (W := n_W (ρ 0)) (t := t) (x := q) (by unfold n_W; omega)
  unfold n_lo n_hi n_w
  rw [h1, h2, if_pos hq, if_pos hq, if_pos hq]
  exact ⟨rfl, rfl, rfl⟩
theorem n_at2 {ρ : Nat → Nat} {κ t k : Nat} (hk : k < t_K (ρ 0)) : n_lo ρ κ (t * n_W (ρ 0) + (ρ 0 * ρ 0 + k)) = t * t_K (ρ 0) + k ∧ n_hi ρ κ (t * n_W (ρ 0) + (ρ 0 * ρ 0 + k)) = (t + 1) * t_K (ρ 0) + k ∧ n_w ρ κ (t * n_W (ρ 0) + (ρ 0 * ρ 0 + k)) = ρ (47 + 12 * κ + k) := by
  obtain ⟨h1, h2⟩ := n_dm (W := n_W (ρ 0)) (t := t) (x := ρ 0 * ρ 0 + k) (by unfold n_W; omega)
  unfold n_lo n_hi n_w
  rw [h1, h2, if_neg (by omega), if_neg (by omega), if_neg (by omega), show ρ 0 * ρ 0 + k - ρ 0 * ρ 0 = k by omega]
  exact ⟨rfl, rfl, rfl⟩
theorem n_EW {ρ : Nat → Nat} {t q : Nat} (ht : t ≤ ρ 1) (hq : q < ρ 0 * ρ 0) : t * n_W (ρ 0) + q < n_E ρ := by
  unfold n_E
  have := Nat.mul_le_mul_right (n_W (ρ 0)) ht
  omega
theorem n_EW2 {ρ : Nat → Nat} {t k : Nat} (ht : t < ρ 1) (hk : k < t_K (ρ 0)) : t * n_W (ρ 0) + (ρ 0 * ρ 0 + k) < n_E ρ := by
  unfold n_E
  have h1 : (t + 1) * n_W (ρ 0) ≤ ρ 1 * n_W (ρ 0) := Nat.mul_le_mul_right _ ht
  rw [Nat.succ_mul] at h1
  have h2 : n_W (ρ 0) = ρ 0 * ρ 0 + t_K (ρ 0) := rfl
  omega
section SP
variable {G : z_G} {d : Nat} {S : z_Shp} {v v0 : z_Dat} {Q : Option Value → z_Shp → z_Dat → Prop} {f κ : Nat} {ρ : Nat → Nat}
theorem sp_X4_joinWithin {t : Nat} (hd : 2 ≤ d) (hL : z_L S) (hV : p_V ρ) (hW : p_Ws v0) (hf : z_isF f) (hF : p_F S v0 f ρ) (hκ : κ < 2) (ht : t ≤ ρ 1) (hN : c_N ρ κ v0 v (t * n_W (ρ 0))) (h : ∀ v1, c_N ρ κ v0 v1 (t * n_W (ρ 0) + ρ 0 * ρ 0) → Q none S v1) :
    z_J G d mX4_joinWithin (0, [.ref 149, .ref f, .int (nI κ), .int (nI t), .null, .null, .null], [], S, v) Q := by
  obtain ⟨d, rfl⟩ : ∃ e, d = e + 1 := ⟨d - 1, by omega⟩
  have hge := zF_ge hf
  obtain ⟨⟨w, hr, hwd⟩, g1, g2, g3⟩ := hF
  have hwP := p_wdP hW hwd
  have hw36 : w + 17 ≤ 36 := by rcases hwd with ⟨rfl, -⟩ | ⟨rfl, -⟩ <;> omega
  have hD25 : ρ 0 * ρ 0 ≤ 25 := by rcases hV.1 with e | e <;> rw [e] <;> omega
  have hK := t_Kle hV.1
  have hfn := zFn hf
  have hfx : ∀ a, f ≤ a → a ≤ f + 9 → a < 149 ∨ 157 < a := fun a h1 h2 => by
    simp only [z_isF, List.mem_cons, List.not_mem_nil, or_false] at hf
    omega
  have key : ∀ j q v, q + j = ρ 0 * ρ 0 → c_N ρ κ v0 v (t * n_W (ρ 0) + q) → z_J G (d + 1) mX4_joinWithin (3, [.ref 149, .ref f, .int (nI κ), .int (nI t), .int (nI q), .null, .null], [], S, v) Q := by
    intro j
    induction j with
    | zero =>
      intro q v hq hN
      have hq : q = ρ 0 * ρ 0 := by omega
      subst hq
      refine sg_X4_joinWithin_3 hL hf hr (p_wdW hwd) ⟨fun _ => h v hN, fun c => absurd ?_ c⟩
      rw [hN.1.2.2.2.2.1]; exact nI_le (Nat.le_refl _) (by omega)
    | succ j ih =>
      intro q v hq hN
      have hqd : q < ρ 0 * ρ 0 := by omega
      obtain ⟨m1, m2, m3⟩ := n_at1 (κ := κ) (t := t) hqd
      have fr := hN.2.2.2
      have t1 : v (w + 11 + κ) q = nI (t_c1 (ρ 0) κ q) := by rw [fr (w + 11 + κ) (by omega)]; exact ((hwP.2.2.2 κ hκ).2.2.2 q hqd).1
      have t2 : v (w + 14 + κ) q = if t_c2 (ρ 0) κ q = 99 then -1 else nI (t_c2 (ρ 0) κ q) := by rw [fr (w + 14 + κ) (by omega)]; exact ((hwP.2.2.2 κ hκ).2.2.2 q hqd).2
      have t3 : v (f + 6) q = nI (ρ (22 + q)) := by rw [fr (f + 6) (hfx _ (by omega) (by omega))]; exact g3 q (by omega)
      have hb := hN.1.2.1
      have hc := hN.1.2.2.2.2.2
      have cq : (nI q).toNatClampNeg = q := nI_clamp (by omega)
      have cκ : (nI κ).toNatClampNeg = κ := nI_clamp (by omega)
      have a2 := t_c2_lt hV.1 hκ hqd
      have J := sp_X4_join (G := G) (d := d) (v := v) (Q := fun r S1 v1 => r = none ∧ S1 = S ∧ z_J G (d + 1) mX4_joinWithin (3, [.ref 149, .ref f, .int (nI κ), .int (nI t), .int (nI q + 1), .null, .null], [], S, v1) Q) (by omega) hL hV hκ (n_EW ht hqd) hN (fun v1 hN1 => ⟨rfl, rfl, by rw [nI_1]; exact ih (q + 1) v1 (by omega) hN1⟩)
      rw [m1, m2, m3] at J
      refine sg_X4_joinWithin_3 hL hf hr (p_wdW hwd) ⟨fun c => ?_, fun _ => ⟨vp_in_nI hκ (by omega), vp_in_nI (by omega) (by omega), fun c => ⟨vp_in_nI hκ (by omega), vp_in_nI (by omega) (by omega), vp_in_nI (by omega) (by omega), ?_⟩, fun c => ⟨vp_in_nI hκ (by omega), vp_in_nI (by omega) (by omega), vp_in_nI (by omega) (by omega), ?_⟩⟩⟩
      · rw [hN.1.2.2.2.2.1] at c; exact absurd c (nI_ge (by omega) (by omega))
      · rw [cq, cκ, t2] at c ⊢
        have h99 : ¬ t_c2 (ρ 0) κ q = 99 := fun z => c (if_pos z)
        rw [if_neg h99] at J ⊢
        rw [hc, t1, t3, pk_mul, nI_add, nI_add]
        exact J
      · rw [cq, cκ, t2] at c
        have h99 : t_c2 (ρ 0) κ q = 99 := by
          rcases Nat.decEq (t_c2 (ρ 0) κ q) 99 with z | z
          · rw [if_neg z] at c
            have := congrArg (fun x : Int32 => decide (x < 0)) c
            simp only [decide_eq_false (nI_pos (n := t_c2 (ρ 0) κ q) (by omega))] at this
            exact absurd this (by decide)
          · exact z
        rw [if_pos h99] at J
        rw [cq, cκ, hc, hb, t1, t3, pk_mul, nI_add]
        exact J
  exact sg_X4_joinWithin_0 hf (key (ρ 0 * ρ 0) 0 v (by omega) hN)
theorem sp_X4_joinToNext {t : Nat} (hd : 2 ≤ d) (hL : z_L S) (hV : p_V ρ) (hf : z_isF f) (hF : p_F S v0 f ρ) (hκ : κ < 2) (ht : t < ρ 1) (hN : c_N ρ κ v0 v (t * n_W (ρ 0) + ρ 0 * ρ 0)) (h : ∀ v1, c_N ρ κ v0 v1 ((t + 1) * n_W (ρ 0)) → Q none S v1) :
    z_J G d mX4_joinToNext (0, [.ref 149, .ref f, .int (nI κ), .int (nI t), .null], [], S, v) Q := by
  obtain ⟨d, rfl⟩ : ∃ e, d = e + 1 := ⟨d - 1, by omega⟩
  obtain ⟨-, g1, g2, g3⟩ := hF
  have hK := t_Kle hV.1
  have hfx : ∀ a, f ≤ a → a ≤ f + 9 → a < 149 ∨ 157 < a := fun a h1 h2 => by
    simp only [z_isF, List.mem_cons, List.not_mem_nil, or_false] at hf
    omega
  have key : ∀ j k v, k + j = t_K (ρ 0) → c_N ρ κ v0 v (t * n_W (ρ 0) + (ρ 0 * ρ 0 + k)) → z_J G (d + 1) mX4_joinToNext (3, [.ref 149, .ref f, .int (nI κ), .int (nI t), .int (nI k)], [], S, v) Q := by
    intro j
    induction j with
    | zero =>
      intro k v hk hN
      have hk : k = t_K (ρ 0) := by omega
      subst hk
      refine sg_X4_joinToNext_3 hL hf ⟨fun _ => h v ?_, fun c => absurd ?_ c⟩
      · rw [Nat.succ_mul]; exact hN
      · rw [hN.1.2.2.2.2.2]; exact nI_le (Nat.le_refl _) (by omega)
    | succ j ih =>
      intro k v hk hN
      obtain ⟨m1, m2, m3⟩ := n_at2 (κ := κ) (t := t) (k := k) (ρ := ρ) (by omega)
      have t3 : v (f + 8 + κ) k = nI (ρ (47 + 12 * κ + k)) := by rw [hN.2.2.2 (f + 8 + κ) (hfx _ (by omega) (by omega))]; exact (g2 κ hκ).2.2.2 k (by omega)
      have hc := hN.1.2.2.2.2.2
      have J := sp_X4_join (G := G) (d := d) (v := v) (Q := fun r S1 v1 => r = none ∧ S1 = S ∧ z_J G (d + 1) mX4_joinToNext (3, [.ref 149, .ref f, .int (nI κ), .int (nI t), .int (nI k + 1)], [], S, v1) Q) (by omega) hL hV hκ (n_EW2 ht (by omega)) hN (fun v1 hN1 => ⟨rfl, rfl, by rw [nI_1]; exact ih (k + 1) v1 (by omega) hN1⟩)
      rw [m1, m2, m3] at J
      refine sg_X4_joinToNext_3 hL hf ⟨fun c => ?_, fun _ => ⟨vp_in_nI hκ (by omega), vp_in_nI (by omega) (by omega), ?_⟩⟩
      · rw [hc] at c; exact absurd c (nI_ge (by omega) (by omega))
      · rw [nI_clamp (by omega), nI_clamp (by omega), hc, t3, nI_1, pk_mul, pk_mul, nI_add, nI_add]
        exact J
  exact sg_X4_joinToNext_0 hf (key (t_K (ρ 0)) 0 v (by omega) hN)
theorem p_la_lt (hV : p_V ρ) (hκ : κ < 2) (t : Nat) : p_la ρ κ t < 2 ^ t_K (ρ 0) := by
  unfold p_la
  split
  · exact (hV.2.2.1 κ hκ).2.2.1 t (by have := hV.2.1; omega)
  · exact p_lo_lt _ _ _
theorem n_pr_lt (hV : p_V ρ) (hκ : κ < 2) (t : Nat) : n_pr ρ κ t < 2 ^ t_K (ρ 0) := by
  unfold n_pr
  split
  · exact Nat.two_pow_pos _
  · exact p_la_lt hV hκ _
theorem n_bitI (hV : p_V ρ) (hκ : κ < 2) {t k : Nat} (hk : k < t_K (ρ 0)) : ((nI (p_la ρ κ t) ^^^ nI (n_pr ρ κ t)) >>> (nI k &&& 31)) &&& 1 = nI (n_is ρ κ (t * t_K (ρ 0) + k)) := by
  have hK := t_Kle hV.1
  have h1 : p_la ρ κ t ^^^ n_pr ρ κ t < 2 ^ t_K (ρ 0) := Nat.xor_lt_two_pow (p_la_lt hV hκ t) (n_pr_lt hV hκ t)
  have h2 : 2 ^ t_K (ρ 0) ≤ 2 ^ 12 := Nat.pow_le_pow_right (by omega) hK
  obtain ⟨e1, e2⟩ := n_dm (W := t_K (ρ 0)) (t := t) hk
  rw [nx_xor, zb_bit (by omega) (by omega)]
  unfold n_is
  rw [e1, e2]
theorem n_ev_s (t k : Nat) : n_ev ρ κ (t * t_K (ρ 0) + k + 1) = n_ev ρ κ (t * t_K (ρ 0) + k) ++ (if n_is ρ κ (t * t_K (ρ 0) + k) = 1 then [t * t_K (ρ 0) + k] else []) := rfl
theorem n_is_lt (s : Nat) : n_is ρ κ s < 2 := Nat.mod_lt _ (by omega)
theorem sp_X4_findEvents (hd : 2 ≤ d) (hL : z_L S) (hV : p_V ρ) (hW : p_Ws v0) (hf : z_isF f) (hF : p_F S v0 f ρ) (hκ : κ < 2) (hN : c_N ρ κ v0 v (n_E ρ)) (h : ∀ v1, c_N ρ κ v0 v1 (n_E ρ) → c_Ev ρ κ v1 (n_B ρ) → Q none S v1) :
    z_J G d mX4_findEvents (0, [.ref 149, .ref f, .int (nI κ), .null, .null, .null, .null, .null], [], S, v) Q := by
  obtain ⟨d, rfl⟩ : ∃ e, d = e + 1 := ⟨d - 1, by omega⟩
  have hge := zF_ge hf
  obtain ⟨⟨w, hr, hwd⟩, g1, g2, g3⟩ := hF
  have hwP := p_wdP hW hwd
  have hw36 : w + 17 ≤ 36 := by rcases hwd with ⟨rfl, -⟩ | ⟨rfl, -⟩ <;> omega
  have hK := t_Kle hV.1
  have h8 := hV.2.1
  have hB := n_B_le hV.1 h8
  have hK0 : 0 < t_K (ρ 0) := by rcases hV.1 with e | e <;> rw [e] <;> decide
  have hfx : ∀ a, f ≤ a → a ≤ f + 9 → a < 149 ∨ 157 < a := fun a h1 h2 => by
    simp only [z_isF, List.mem_cons, List.not_mem_nil, or_false] at hf
    omega
  have hBt : ∀ t, t ≤ ρ 1 → t * t_K (ρ 0) + t_K (ρ 0) ≤ n_B ρ := fun t ht => by
    unfold n_B
    rw [← Nat.succ_mul]
    exact Nat.mul_le_mul_right _ (by omega)
  -- one layer
  have inner : ∀ t, t ≤ ρ 1 → (∀ v, c_N ρ κ v0 v (n_E ρ) → c_Ev ρ κ v ((t + 1) * t_K (ρ 0)) → z_J G (d + 1) mX4_findEvents (17, [.ref 149, .ref f, .int (nI κ), .int (nI (p_la ρ κ t)), .int (nI (p_lo (ρ 0) κ (ρ (2 + κ)))), .int (nI (t + 1)), .null, .null], [], S, v) Q) →
      ∀ j k v, k + j = t_K (ρ 0) → c_N ρ κ v0 v (n_E ρ) → c_Ev ρ κ v (t * t_K (ρ 0) + k) → z_J G (d + 1) mX4_findEvents (54, [.ref 149, .ref f, .int (nI κ), .int (nI (n_pr ρ κ t)), .int (nI (p_lo (ρ 0) κ (ρ (2 + κ)))), .int (nI t), .int (nI (p_la ρ κ t)), .int (nI k)], [], S, v) Q := by
    intro t ht K j
    induction j with
    | zero =>
      intro k v hk hN hE
      have hk : k = t_K (ρ 0) := by omega
      subst hk
      refine sg_X4_findEvents_54 hL hf ⟨fun _ => ?_, fun c => absurd ?_ c⟩
      · rw [nI_1]; exact K v hN (by rw [Nat.succ_mul]; exact hE)
      · rw [hN.1.2.2.2.2.2]; exact nI_le (Nat.le_refl _) (by omega)
    | succ j ih =>
      intro k v hk hN hE
      have hkK : k < t_K (ρ 0) := by omega
      have hbt := hBt t ht
      have bi := n_bitI hV hκ (t := t) hkK
      have es := n_ev_s (ρ := ρ) (κ := κ) t k
      refine sg_X4_findEvents_54 hL hf ⟨fun c => ?_, fun _ => ⟨fun c => ?_, fun c => ?_⟩⟩
      · rw [hN.1.2.2.2.2.2] at c; exact absurd c (nI_ge (by omega) (by omega))
      · rw [bi] at c
        have c : ¬ n_is ρ κ (t * t_K (ρ 0) + k) = 1 := fun q => c (by rw [q]; rfl)
        rw [if_neg c, List.append_nil] at es
        rw [nI_1]
        refine ih (k + 1) v (by omega) hN ?_
        unfold c_Ev at hE ⊢
        rw [show t * t_K (ρ 0) + (k + 1) = t * t_K (ρ 0) + k + 1 from rfl, es]
        exact hE
      · rw [bi] at c
        have c : n_is ρ κ (t * t_K (ρ 0) + k) = 1 := (nI_eq (a := n_is ρ κ (t * t_K (ρ 0) + k)) (b := 1) (by have := n_is_lt (ρ := ρ) (κ := κ) (t * t_K (ρ 0) + k); omega) (by omega)).mp c
        rw [if_pos c] at es
        obtain ⟨E1, E2⟩ := hE
        have hlen := (n_ev_lt (ρ := ρ) (κ := κ) (t * t_K (ρ 0) + k)).1
        generalize hl : n_ev ρ κ (t * t_K (ρ 0) + k) = l at *
        have cl : (nI l.length).toNatClampNeg = l.length := nI_clamp (by omega)
        refine ⟨by rw [E1]; exact vp_in_nI (by omega) (by omega), fun v1 e1 => ?_⟩
        rw [E1, cl] at e1
        have r1 : v1 149 3 = nI l.length := by rw [e1, z_un (by omega)]; exact E1
        refine ⟨by rw [r1]; exact vp_in_nI (by omega) (by omega), fun v2 e2 => ?_⟩
        rw [r1, cl] at e2
        have r2 : v2 149 3 = nI l.length := by rw [e2, z_un (by omega)]; exact r1
        have r2k : v2 149 14 = nI (t_K (ρ 0)) := by rw [e2, e1]; simp (disch := omega) only [z_ue, z_un]; exact hN.1.2.2.2.2.2
        refine ⟨by rw [r2]; exact vp_in_nI (by omega) (by omega), fun v3 e3 v4 e4 => ?_⟩
        rw [r2, cl, r2k, pk_mul, nI_add] at e3
        have r3 : v3 149 3 = nI l.length := by rw [e3, z_un (by omega)]; exact r2
        rw [r3, nI_1, e3, e2, e1] at e4
        rw [nI_1]
        refine ih (k + 1) v4 (by omega) ?_ ?_
        · obtain ⟨⟨a0, a1, a2, a3, a4, a5⟩, b, n, fr⟩ := hN
          refine ⟨⟨?_, ?_, ?_, ?_, ?_, ?_⟩, fun e he => ?_, fun s hs => ⟨?_, fun i hi => ?_⟩, ?_⟩
          · rw [e4]; simp (disch := omega) only [z_ue, z_un]; exact a0
          · rw [e4]; simp (disch := omega) only [z_ue, z_un]; exact a1
          · rw [e4]; simp (disch := omega) only [z_ue, z_un]; exact a2
          · rw [e4]; simp (disch := omega) only [z_ue, z_un]; exact a3
          · rw [e4]; simp (disch := omega) only [z_ue, z_un]; exact a4
          · rw [e4]; simp (disch := omega) only [z_ue, z_un]; exact a5
          · rw [e4]; simp (disch := omega) only [z_ue, z_un]; exact b e he
          · rw [e4]; simp (disch := omega) only [z_ue, z_un]; exact (n s hs).1
          · rw [e4]; simp (disch := omega) only [z_ue, z_un]; exact (n s hs).2 i hi
          · rw [e4]; exact (((fr.u (by omega) (by omega)).u (by omega) (by omega)).u (by omega) (by omega)).u (by omega) (by omega)
        · unfold c_Ev
          rw [show t * t_K (ρ 0) + (k + 1) = t * t_K (ρ 0) + k + 1 from rfl, es, List.length_append, List.length_singleton]
          refine ⟨by rw [e4]; simp (disch := omega) only [z_ue, z_un], fun i hi => ?_⟩
          obtain ⟨d1, d2⟩ := n_dm (W := t_K (ρ 0)) (t := t) hkK
          by_cases hi2 : i = l.length
          · subst hi2
            rw [l_ge, d1, d2, e4]
            simp (disch := omega) only [z_ue, z_un]
            exact ⟨trivial, trivial, trivial⟩
          · rw [l_gl (by omega), e4]
            simp (disch := omega) only [z_ue, z_un]
            exact E2 i (by omega)
  -- all layers
  have outer : ∀ j t v, t + j = ρ 1 + 1 → c_N ρ κ v0 v (n_E ρ) → c_Ev ρ κ v (t * t_K (ρ 0)) → z_J G (d + 1) mX4_findEvents (17, [.ref 149, .ref f, .int (nI κ), .int (nI (n_pr ρ κ t)), .int (nI (p_lo (ρ 0) κ (ρ (2 + κ)))), .int (nI t), .null, .null], [], S, v) Q := by
    intro j
    induction j with
    | zero =>
      intro t v ht hN hE
      have ht : t = ρ 1 + 1 := by omega
      subst ht
      refine sg_X4_findEvents_17 hL hf ⟨fun _ => h v hN hE, fun c => absurd ?_ c⟩
      rw [hN.1.2.2.2.1]; exact nI_le (Nat.le_refl _) (by omega)
    | succ j ih =>
      intro t v ht hN hE
      have K : ∀ v, c_N ρ κ v0 v (n_E ρ) → c_Ev ρ κ v ((t + 1) * t_K (ρ 0)) → z_J G (d + 1) mX4_findEvents (17, [.ref 149, .ref f, .int (nI κ), .int (nI (p_la ρ κ t)), .int (nI (p_lo (ρ 0) κ (ρ (2 + κ)))), .int (nI (t + 1)), .null, .null], [], S, v) Q := fun v hN hE => by
        have := ih (t + 1) v (by omega) hN hE
        have e : n_pr ρ κ (t + 1) = p_la ρ κ t := by unfold n_pr; rw [if_neg (by omega)]; rfl
        rw [e] at this
        exact this
      have I := inner t (by omega) K (t_K (ρ 0)) 0 v (by omega) hN hE
      have fr := hN.2.2.2
      have rr : v f 1 = nI (ρ 1) := by rw [fr f (hfx _ (by omega) (by omega))]; exact g1
      refine sg_X4_findEvents_17 hL hf ⟨fun c => ?_, fun _ => ⟨fun c => ?_, fun c => ⟨vp_in_nI hκ (by omega), ?_, ?_⟩⟩⟩
      · rw [hN.1.2.2.2.1] at c; exact absurd c (nI_ge (by omega) (by omega))
      · rw [rr] at c
        have c := (nI_leI (by omega) (by omega)).mp c
        have e : p_la ρ κ t = p_lo (ρ 0) κ (ρ (2 + κ)) := by unfold p_la; rw [if_neg (by omega)]
        rw [e] at I
        exact I
      · rw [rr] at c
        have c : t < ρ 1 := by
          rcases Nat.lt_or_ge t (ρ 1) with q | q
          · exact q
          · exact absurd (nI_le q (by omega)) c
        exact vp_in_nI (by omega) (by omega)
      · rw [rr] at c
        have c : t < ρ 1 := by
          rcases Nat.lt_or_ge t (ρ 1) with q | q
          · exact q
          · exact absurd (nI_le q (by omega)) c
        have e : v (f + 4 + κ) t = nI (p_la ρ κ t) := by
          unfold p_la
          rw [if_pos c, fr (f + 4 + κ) (hfx _ (by omega) (by omega))]
          exact (g2 κ hκ).2.2.1 t (by omega)
        rw [nI_clamp (by omega), nI_clamp (by omega), e]
        exact I
  refine sg_X4_findEvents_0 hL hf (fun v1 e1 => ?_)
  have hN1 : c_N ρ κ v0 v1 (n_E ρ) := by
    obtain ⟨⟨a0, a1, a2, a3, a4, a5⟩, b, n, fr⟩ := hN
    refine ⟨⟨?_, ?_, ?_, ?_, ?_, ?_⟩, fun e he => ?_, fun s hs => ⟨?_, fun i hi => ?_⟩, ?_⟩
    · rw [e1, z_un (by omega)]; exact a0
    · rw [e1, z_un (by omega)]; exact a1
    · rw [e1, z_un (by omega)]; exact a2
    · rw [e1, z_un (by omega)]; exact a3
    · rw [e1, z_un (by omega)]; exact a4
    · rw [e1, z_un (by omega)]; exact a5
    · rw [e1, z_un (by omega), z_un (by omega), z_un (by omega)]; exact b e he
    · rw [e1, z_un (by omega)]; exact (n s hs).1
    · rw [e1, z_un (by omega)]; exact (n s hs).2 i hi
    · rw [e1]; exact fr.u (by omega) (by omega)
  have fr := hN1.2.2.2
  refine sp_X0_loud (by omega) hL (hwP.fr (fun a _ _ => fr a (by omega))) hf hr hwd (by rw [fr (f + 1) (hfx _ (by omega) (by omega))]; exact (g2 κ hκ).1) hκ ⟨_, rfl, rfl, ?_⟩
  have O := outer (ρ 1 + 1) 0 v1 (by omega) hN1 ⟨by rw [e1, z_ue rfl rfl, Nat.zero_mul]; rfl, fun i hi => by rw [Nat.zero_mul] at hi; cases hi⟩
  exact O
/-- Net.spread -/
theorem sp_X4_spread (hd : 3 ≤ d) (hL : z_L S) (hV : p_V ρ) (hW : p_Ws v) (hf : z_isF f) (hF : p_F S v f ρ) (hκ : κ < 2) (h : ∀ v1, c_N ρ κ v v1 (n_E ρ) → c_Ev ρ κ v1 (n_B ρ) → Q none S v1) :
    z_J G d mX4_spread (0, [.ref 149, .ref f, .int (nI κ), .null], [], S, v) Q := by
  obtain ⟨d, rfl⟩ : ∃ e, d = e + 1 := ⟨d - 1, by omega⟩
  have hge := zF_ge hf
  obtain ⟨w, hr, hwd⟩ := id hF.1
  have g1 := hF.2.1
  have hwP := p_wdP hW hwd
  have hw36 : w + 17 ≤ 36 := by rcases hwd with ⟨rfl, -⟩ | ⟨rfl, -⟩ <;> omega
  have h8 := hV.2.1
  have hB := n_B_le hV.1 h8
  have loop : ∀ j t v1, t + j = ρ 1 → c_N ρ κ v v1 (t * n_W (ρ 0)) → z_J G (d + 1) mX4_spread (68, [.ref 149, .ref f, .int (nI κ), .int (nI t)], [], S, v1) Q := by
    intro j
    induction j with
    | zero =>
      intro t v1 ht hN
      have ht : t = ρ 1 := by omega
      subst ht
      refine sg_X4_spread_68 hL hf ⟨fun c => ?_, fun _ => ?_⟩
      · rw [hN.1.2.2.2.1] at c; exact absurd c (nI_ge (by omega) (by omega))
      · refine sp_X4_joinWithin (by omega) hL hV hW hf hF hκ (Nat.le_refl _) hN (fun v2 hN2 => ⟨rfl, rfl, fun _ => ?_, fun c => ?_⟩)
        · refine sg_X4_spread_68 hL hf ⟨fun _ => ?_, fun c => absurd ?_ c⟩
          · exact sp_X4_findEvents (by omega) hL hV hW hf hF hκ hN2 (fun v3 hN3 hE3 => ⟨rfl, rfl, h v3 hN3 hE3⟩)
          · rw [hN2.1.2.2.2.1, nI_1]; exact nI_le (Nat.le_refl _) (by omega)
        · rw [hN2.1.2.2.2.1, nI_1] at c; exact absurd (nI_le (Nat.le_refl _) (by omega)) c
    | succ j ih =>
      intro t v1 ht hN
      refine sg_X4_spread_68 hL hf ⟨fun c => ?_, fun _ => ?_⟩
      · rw [hN.1.2.2.2.1] at c; exact absurd c (nI_ge (by omega) (by omega))
      · refine sp_X4_joinWithin (by omega) hL hV hW hf hF hκ (by omega) hN (fun v2 hN2 => ⟨rfl, rfl, fun c => ?_, fun _ => ?_⟩)
        · rw [hN2.1.2.2.2.1, nI_1] at c; exact absurd c (nI_ge (by omega) (by omega))
        · refine sp_X4_joinToNext (by omega) hL hV hf hF hκ (by omega) hN2 (fun v3 hN3 => ⟨rfl, rfl, ?_⟩)
          rw [nI_1]
          exact ih (t + 1) v3 (by omega) hN3
  refine sg_X4_spread_0 hL hf hr (p_wdW hwd) (fun v1 e1 v2 e2 v3 e3 v4 e4 v5 e5 v6 e6 => ?_)
  rw [g1, nI_1] at e1
  have q2 : v1 w 1 = nI (ρ 0 * ρ 0) := by rw [e1, z_un (by omega)]; exact hwP.2.1
  rw [q2, e1] at e2
  have q3 : v2 w 2 = nI (t_K (ρ 0)) := by rw [e2]; simp (disch := omega) only [z_ue, z_un]; exact hwP.2.2.1
  rw [q3, e2] at e3
  have q4 : v3 149 12 * v3 149 14 = nI (n_B ρ) := by rw [e3]; simp (disch := omega) only [z_ue, z_un]; rw [pk_mul]; rfl
  rw [q4, e3] at e4
  have q5 : v4 149 0 = nI (n_B ρ) := by rw [e4]; simp (disch := omega) only [z_ue, z_un]
  rw [q5, e4] at e5
  rw [e5] at e6
  refine sp_J7_fill (zk_153 hL) (by rw [zl_153 hL]; omega) (fun g hg => ⟨rfl, rfl, ?_⟩)
  rw [zl_153 hL] at hg
  refine loop (ρ 1) 0 _ (by omega) ?_
  refine ⟨⟨?_, ?_, ?_, ?_, ?_, ?_⟩, fun e he => by omega, fun s hs => ⟨?_, fun i hi => ?_⟩, ?_⟩
  · rw [z_uan (by omega), e6]; simp (disch := omega) only [z_ue, z_un]
  · rw [z_uan (by omega), e6]; simp (disch := omega) only [z_ue, z_un]
  · rw [z_uan (by omega), e6]; simp (disch := omega) only [z_ue, z_un]; rw [Nat.zero_mul]; rfl
  · rw [z_uan (by omega), e6]; simp (disch := omega) only [z_ue, z_un]
  · rw [z_uan (by omega), e6]; simp (disch := omega) only [z_ue, z_un]
  · rw [z_uan (by omega), e6]; simp (disch := omega) only [z_ue, z_un]
  · rw [z_uae rfl, hg s (by omega), Nat.zero_mul]
    have : n_ls ρ κ s 0 = [] := List.filter_eq_nil_iff.mpr (fun x _ => by simp)
    rw [this]; rfl
  · have : n_ls ρ κ s 0 = [] := List.filter_eq_nil_iff.mpr (fun x _ => by simp)
    rw [Nat.zero_mul, this] at hi
    cases hi
  · rw [e6]
    exact (((((((z_fr.rf.u (by omega) (by omega)).u (by omega) (by omega)).u (by omega) (by omega)).u (by omega) (by omega)).u (by omega) (by omega)).u (by omega) (by omega)).ua (by omega) (by omega))
end SP
