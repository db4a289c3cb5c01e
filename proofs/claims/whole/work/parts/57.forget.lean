/-! forgetSets: rows for the sets are made when they are wanted; what is so of the shape between calls -/
def e_Pa (S : z_Shp) (aL aO L : Nat) : Prop := z_r S 164 7 = some aL ∧ z_r S 164 8 = some aO ∧ z_k S aL = 21 ∧ z_k S aO = 21 ∧ aL ≠ aO ∧ (aL = 184 ∨ 262 ≤ aL) ∧ (aO = 185 ∨ 262 ≤ aO) ∧ z_l S aL = L ∧ z_l S aO = L ∧ ∃ k, 8 ≤ k ∧ k ≤ 14 ∧ L = 2 ^ k
def e_I (B : Nat × Nat × Nat) (S : z_Shp) : Prop := z_L S ∧ ∃ aL aO L, e_Pa S aL aO L ∧ z_n S + 2 * (16384 - L) ≤ B.1 ∧ z_c S + 2 * (16384 - L) ≤ B.2.1 ∧ z_s S + 4 * (16384 - L) ≤ B.2.2
/-- references of all cells but the pairing's two stay -/
def e_R (S S1 : z_Shp) : Prop := ∀ a, a < 262 → a ≠ 164 → z_r S1 a = z_r S a
theorem e_R.rf {S : z_Shp} : e_R S S := fun _ _ _ => rfl
theorem e_R.tr {S S1 S2 : z_Shp} (h1 : e_R S S1) (h2 : e_R S1 S2) : e_R S S2 := fun a h3 h4 => (h2 a h3 h4).trans (h1 a h3 h4)
theorem e_R.F {S S1 : z_Shp} {v : z_Dat} {f : Nat} {ρ : Nat → Nat} (h : e_R S S1) (hf : z_isF f) (hF : p_F S v f ρ) : p_F S1 v f ρ := by
  have e : z_r S1 f = z_r S f := by
    simp only [z_isF, List.mem_cons, List.not_mem_nil, or_false] at hf
    exact h f (by omega) (by omega)
  unfold p_F
  rw [e]; exact hF
theorem z_L.al {S : z_Shp} {k len c s : Nat} (h : z_L S) : z_L (z_al S k len c s) := by
  refine ⟨Nat.le_succ_of_le h.1, fun a ha => ?_⟩
  have e : ¬ a = z_n S := by have := h.1; omega
  obtain ⟨h1, h2, h3⟩ := h.2 a ha
  refine ⟨?_, ?_, fun j b hb => ?_⟩
  · show (if a = z_n S then k else z_k S a) = _
    rw [if_neg e]; exact h1
  · show (if a = z_n S then len else z_l S a) = _
    rw [if_neg e]; exact h2
  · show (if a = z_n S then none else z_r S a j) = _
    rw [if_neg e]; exact h3 j b hb
theorem z_L.sr {S : z_Shp} {a i : Nat} {b : Option Nat} (h : z_L S) (hn : (z_LR.getD a []).getD i none = none) : z_L (z_sr S a i b) := by
  refine ⟨h.1, fun c hc => ⟨(h.2 c hc).1, (h.2 c hc).2.1, fun j q hq => ?_⟩⟩
  show (if c = a ∧ j = i then b else z_r S c j) = _
  rw [if_neg (fun z => by rw [z.1, z.2, hn] at hq; cases hq)]
  exact (h.2 c hc).2.2 j q hq
section FS
variable {G : z_G} {d : Nat} {S : z_Shp} {v v0 : z_Dat} {Q : Option Value → z_Shp → z_Dat → Prop} {N : Nat} {aL aO : Nat}
theorem sp_X5_forget_27 (hL : z_L S) (raL : z_r S 164 7 = some aL) (kaL : z_k S aL = 21) (lL : 2 ^ N ≤ z_l S aL) (lL2 : z_l S aL ≤ 16384)
    (h : ∀ v1, (∀ b, b < 2 ^ N → v1 aL b = -1) → (∀ b, b ≠ aL → v1 b = v b) → Q none S v1) : z_J G d mX5_forgetSets (27, [.ref 164, .int (nI (2 ^ N - 1)), .null], [], S, v) Q := by
  have h2p : 0 < 2 ^ N := Nat.pow_pos (by omega)
  have key : ∀ j i v1, i + j = 2 ^ N → (∀ b, b < i → v1 aL b = -1) → (∀ b, b ≠ aL → v1 b = v b) → z_J G d mX5_forgetSets (29, [.ref 164, .int (nI (2 ^ N - 1)), .int (nI i)], [], S, v1) Q := by
    intro j
    induction j with
    | zero =>
      intro i v1 hi k1 k2
      refine zj_iload_n dX5_forgetSets_29 rfl rfl ?_
      refine zj_iload_n dX5_forgetSets_30 rfl rfl ?_
      refine zj_icmp_gt (tgt := 47) dX5_forgetSets_31 (by decide) (fun c => ?_) (fun c => ?_)
      · exact zj_vret dX5_forgetSets_47 rfl (h v1 (fun b hb => k1 b (by omega)) k2)
      · exact absurd (nI_lt (by omega) (by omega)) c
    | succ j ih =>
      intro i v1 hi k1 k2
      refine zj_iload_n dX5_forgetSets_29 rfl rfl ?_
      refine zj_iload_n dX5_forgetSets_30 rfl rfl ?_
      refine zj_icmp_gt (tgt := 47) dX5_forgetSets_31 (by decide) (fun c => ?_) (fun c => ?_)
      · exact absurd c (nI_nlt (by omega) (by omega))
      · refine zj_aload_n dX5_forgetSets_34 rfl rfl ?_
        refine zj_getR (ci := 5) (j := 7) dX5_forgetSets_35 wf_X5_26 (by decide) (by decide) (zk_164 hL) rfl raL ?_
        refine zj_iload_n dX5_forgetSets_38 rfl rfl ?_
        refine zj_iconst (x := -1) dX5_forgetSets_39 rfl ?_
        refine zj_iastore dX5_forgetSets_40 kaL (vp_in_nI (by omega) (by omega)) (fun v2 e2 => ?_)
        rw [nI_clamp (by omega)] at e2
        refine zj_iinc (y := nI (i + 1)) (ls2 := [.ref 164, .int (nI (2 ^ N - 1)), .int (nI (i + 1))]) dX5_forgetSets_41 rfl (nI_1 i) (by decide) rfl rfl ?_
        refine zj_goto (tgt := 29) dX5_forgetSets_44 (by decide) ?_
        refine ih (i + 1) v2 (by omega) (fun b hb => ?_) (fun b hb => by rw [e2, z_u_ne hb]; exact k2 b hb)
        by_cases z : b = i
        · rw [z, e2, z_ue rfl rfl]
        · rw [e2, z_un (Or.inr z)]; exact k1 b (by omega)
  refine zj_iconst (x := 0) dX5_forgetSets_27 rfl ?_
  refine zj_istore_n (ls2 := [.ref 164, .int (nI (2 ^ N - 1)), .int 0]) dX5_forgetSets_28 rfl (by decide) rfl rfl ?_
  exact key (2 ^ N) 0 v (by omega) (fun b hb => by omega) (fun _ _ => rfl)
theorem sp_X5_forgetSets {B : Nat × Nat × Nat} (hI : e_I B S) (hB : B.1 ≤ 999000) (hN : N ≤ 14)
    (h : ∀ S1 v1 aL aO L, e_I B S1 → e_R S S1 → e_Pa S1 aL aO L → 2 ^ N ≤ L → (∀ b, b < 2 ^ N → v1 aL b = -1) → (∀ b, b < 184 ∨ (186 ≤ b ∧ b < 262) → v1 b = v b) → Q none S1 v1) : z_J G d mX5_forgetSets (0, [.ref 164, .int (nI (2 ^ N - 1)), .null], [], S, v) Q := by
  obtain ⟨hL, aL, aO, L, hPa, b1, b2, b3⟩ := hI
  have hPa0 := hPa
  obtain ⟨raL, raO, kaL, kaO, hne, gL, gO, lL, lO, k, k8, k14, eL⟩ := hPa
  have h2N : 2 ^ N ≤ 16384 := Nat.pow_le_pow_right (n := 2) (by omega) hN
  have h2k : L ≤ 16384 := by rw [eL]; exact Nat.pow_le_pow_right (n := 2) (by omega) k14
  have h2p : 0 < 2 ^ N := Nat.pow_pos (by omega)
  refine zj_iload_n dX5_forgetSets_0 rfl rfl ?_
  refine zj_aload_n dX5_forgetSets_1 rfl rfl ?_
  refine zj_getR (ci := 5) (j := 7) dX5_forgetSets_2 wf_X5_26 (by decide) (by decide) (zk_164 hL) rfl raL ?_
  refine zj_alen (t := 0) dX5_forgetSets_5 kaL (by decide) ?_
  refine zj_icmp_lt (tgt := 27) dX5_forgetSets_6 (by decide) (fun c => ?_) (fun c => ?_)
  · have c : nI (2 ^ N - 1) < nI (z_l S aL) := c
    have c := (nI_ltI (by omega) (by omega)).mp c
    refine sp_X5_forget_27 hL raL kaL (by omega) (by omega) (fun v1 k1 k2 => ?_)
    exact h S v1 aL aO L ⟨hL, aL, aO, L, hPa0, b1, b2, b3⟩ e_R.rf hPa0 (by omega) k1 (fun b hb => k2 b (by omega))
  · have c : ¬ nI (2 ^ N - 1) < nI (z_l S aL) := c
    have c : L < 2 ^ N := by
      rcases Nat.lt_or_ge L (2 ^ N) with q | q
      · exact q
      · exact absurd (nI_lt (by omega) (by omega)) c
    have hkN : k < N := by
      rcases Nat.lt_or_ge k N with q | q
      · exact q
      · have := Nat.pow_le_pow_right (n := 2) (by omega) q
        omega
    have h2L : 2 * L ≤ 2 ^ N := by
      rw [eL, Nat.mul_comm, ← Nat.pow_succ]
      exact Nat.pow_le_pow_right (by omega) hkN
    have hn : z_n S < z_X := by unfold z_X; omega
    have hn0 := hL.1
    refine zj_aload_n dX5_forgetSets_9 rfl rfl ?_
    refine zj_iload_n dX5_forgetSets_10 rfl rfl ?_
    refine zj_iconst (x := 1) dX5_forgetSets_11 rfl ?_
    refine zj_iadd dX5_forgetSets_12 ?_
    have es : nI (2 ^ N - 1) + 1 = nI (2 ^ N) := by rw [nI_1]; congr 1; omega
    rw [es]
    have k164 : z_k S 164 = 6 := zk_164 hL
    refine zj_newI (n := 2 ^ N) dX5_forgetSets_13 rfl (by omega) hn ⟨Or.inl (by rw [k164]; decide), trivial⟩ ⟨Or.inl (by rw [k164]; decide), trivial⟩ ?_
    have L1 : z_L (z_al S 21 (2 ^ N) 1 (2 ^ N)) := hL.al
    refine zj_putR (ci := 5) (j := 7) dX5_forgetSets_15 wf_X5_26 (by decide) (by decide) (zk_164 L1) rfl rfl (fun _ => rfl) (fun _ => rfl) (Or.inl (Nat.lt_succ_self _)) ?_
    generalize hS1 : z_sr (z_al S 21 (2 ^ N) 1 (2 ^ N)) 164 7 (some (z_n S)) = S1
    have L2 : z_L S1 := by rw [← hS1]; exact L1.sr rfl
    have n1 : z_n S1 = z_n S + 1 := by rw [← hS1]; rfl
    have c1 : z_c S1 = z_c S + 1 := by rw [← hS1]; rfl
    have s1 : z_s S1 = z_s S + 2 ^ N := by rw [← hS1]; rfl
    have kn1 : z_k S1 (z_n S) = 21 := by rw [← hS1]; exact if_pos rfl
    have ln1 : z_l S1 (z_n S) = 2 ^ N := by rw [← hS1]; exact if_pos rfl
    have r17 : z_r S1 164 7 = some (z_n S) := by rw [← hS1]; show (if (164 : Nat) = 164 ∧ (7 : Nat) = 7 then some (z_n S) else (if 164 = z_n S then none else z_r S 164 7)) = some (z_n S); exact if_pos ⟨rfl, rfl⟩
    have rn1 : ∀ a, a < 262 → a ≠ 164 → z_r S1 a = z_r S a := fun a ha h4 => by
      rw [← hS1]
      funext j
      show (if a = 164 ∧ j = 7 then some (z_n S) else if a = z_n S then none else z_r S a j) = _
      rw [if_neg (fun z => h4 z.1), if_neg (by omega)]
    clear hS1
    refine zj_aload_n dX5_forgetSets_18 rfl rfl ?_
    refine zj_iload_n dX5_forgetSets_19 rfl rfl ?_
    refine zj_iconst (x := 1) dX5_forgetSets_20 rfl ?_
    refine zj_iadd dX5_forgetSets_21 ?_
    rw [es]
    have k164' : z_k S1 164 = 6 := zk_164 L2
    refine zj_newI (n := 2 ^ N) dX5_forgetSets_22 rfl (by omega) (by rw [n1]; unfold z_X; omega) ⟨Or.inl (by rw [k164']; decide), trivial⟩ ⟨Or.inl (by rw [k164']; decide), trivial⟩ ?_
    have L3 : z_L (z_al S1 21 (2 ^ N) 1 (2 ^ N)) := L2.al
    refine zj_putR (ci := 5) (j := 8) dX5_forgetSets_24 wf_X5_29 (by decide) (by decide) (zk_164 L3) rfl rfl (fun _ => rfl) (fun _ => rfl) (Or.inl (Nat.lt_succ_self _)) ?_
    generalize hS2 : z_sr (z_al S1 21 (2 ^ N) 1 (2 ^ N)) 164 8 (some (z_n S1)) = S2
    have L4 : z_L S2 := by rw [← hS2]; exact L3.sr rfl
    have n2 : z_n S2 = z_n S + 2 := by rw [← hS2]; show z_n S1 + 1 = _; omega
    have c2 : z_c S2 = z_c S + 2 := by rw [← hS2]; show z_c S1 + 1 = _; omega
    have s2 : z_s S2 = z_s S + 2 ^ N + 2 ^ N := by rw [← hS2]; show z_s S1 + 2 ^ N = _; omega
    have kn2 : z_k S2 (z_n S1) = 21 := by rw [← hS2]; exact if_pos rfl
    have ln2 : z_l S2 (z_n S1) = 2 ^ N := by rw [← hS2]; exact if_pos rfl
    have kn3 : z_k S2 (z_n S) = 21 := by
      rw [← hS2]
      show (if z_n S = z_n S1 then 21 else z_k S1 (z_n S)) = 21
      rw [if_neg (by omega)]; exact kn1
    have ln3 : z_l S2 (z_n S) = 2 ^ N := by
      rw [← hS2]
      show (if z_n S = z_n S1 then 2 ^ N else z_l S1 (z_n S)) = 2 ^ N
      rw [if_neg (by omega)]; exact ln1
    have r28 : z_r S2 164 8 = some (z_n S1) := by rw [← hS2]; show (if (164 : Nat) = 164 ∧ (8 : Nat) = 8 then some (z_n S1) else (if 164 = z_n S1 then none else z_r S1 164 8)) = some (z_n S1); exact if_pos ⟨rfl, rfl⟩
    have r27 : z_r S2 164 7 = some (z_n S) := by
      rw [← hS2]
      show (if 164 = 164 ∧ 7 = 8 then some (z_n S1) else if 164 = z_n S1 then none else z_r S1 164 7) = _
      rw [if_neg (by omega), if_neg (by omega)]; exact r17
    have rn2 : e_R S S2 := fun a ha h4 => by
      rw [← hS2]
      funext j
      show (if a = 164 ∧ j = 8 then some (z_n S1) else if a = z_n S1 then none else z_r S1 a j) = _
      rw [if_neg (fun z => h4 z.1), if_neg (by omega), rn1 a ha h4]
    clear hS2
    refine sp_X5_forget_27 L4 r27 kn3 (by omega) (by omega) (fun v1 k1 k2 => ?_)
    have hPa2 : e_Pa S2 (z_n S) (z_n S1) (2 ^ N) := ⟨r27, r28, kn3, kn2, by omega, Or.inr hn0, Or.inr (by omega), ln3, ln2, N, by omega, hN, rfl⟩
    refine h S2 v1 (z_n S) (z_n S1) (2 ^ N) ⟨L4, _, _, _, hPa2, by omega, by omega, by omega⟩ rn2 hPa2 (Nat.le_refl _) k1 (fun b hb => ?_)
    rw [k2 b (by omega), z_ua_ne (by omega), z_ua_ne (by omega)]
end FS
