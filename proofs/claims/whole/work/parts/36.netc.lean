/-! THE CLASS' NET: link, join, joinWithin, joinToNext, findEvents, spread -/
theorem l_gl {l m : List Nat} {i : Nat} (h : i < l.length) : (l ++ m).getD i 0 = l.getD i 0 := by
  rw [List.getD_eq_getElem?_getD, List.getD_eq_getElem?_getD, List.getElem?_append_left h]
theorem l_ge (l : List Nat) (c : Nat) : (l ++ [c]).getD l.length 0 = c := by
  rw [List.getD_eq_getElem?_getD, List.getElem?_append_right (Nat.le_refl _)]
  simp
theorem z_uae {v : z_Dat} {a : Nat} {g : Nat → Int32} {b j : Nat} (h : b = a) : z_ua v a g b j = g j := by subst h; rw [z_ua_eq]
theorem z_uan {v : z_Dat} {a : Nat} {g : Nat → Int32} {b j : Nat} (h : b ≠ a) : z_ua v a g b j = v b j := by rw [z_ua_ne h]
theorem z_fr.ua {lo hi a : Nat} {v v1 : z_Dat} {g : Nat → Int32} (h : z_fr lo hi v v1) (h1 : lo ≤ a) (h2 : a ≤ hi) : z_fr lo hi v (z_ua v1 a g) := fun b hb => by
  rw [z_ua_ne (by omega)]
  exact h b hb
/-- the net's cells for the first c edges -/
def c_N (ρ : Nat → Nat) (κ : Nat) (v0 v : z_Dat) (c : Nat) : Prop :=
  (v 149 0 = nI (n_B ρ) ∧ v 149 1 = nI (n_B ρ) ∧ v 149 2 = nI c ∧ v 149 12 = nI (ρ 1 + 1) ∧ v 149 13 = nI (ρ 0 * ρ 0) ∧ v 149 14 = nI (t_K (ρ 0))) ∧
  (∀ e, e < c → (v 150 e = nI (n_lo ρ κ e) ∧ v 151 e = nI (n_hi ρ κ e) ∧ v 152 e = nI (n_w ρ κ e))) ∧
  (∀ s, s < n_B ρ → (v 153 s = nI (n_ls ρ κ s c).length ∧ ∀ i, i < (n_ls ρ κ s c).length → v 154 (s * 6 + i) = nI ((n_ls ρ κ s c).getD i 0))) ∧ z_fr 149 157 v0 v
section NC
variable {G : z_G} {d : Nat} {S : z_Shp} {v v0 : z_Dat} {Q : Option Value → z_Shp → z_Dat → Prop} {f κ : Nat} {ρ : Nat → Nat}
theorem sp_J7_fill {a : Nat} {x : Int32} (ha : z_k S a = 21) (hl : z_l S a < 2 ^ 31) (h : ∀ g, (∀ i, i < z_l S a → g i = x) → Q none S (z_ua v a g)) : z_J G d mJ7_fill_53178 (0, [.ref a, .int x, .null, .null], [], S, v) Q := by
  have key : ∀ j k g, k + j = z_l S a → (∀ i, i < k → g i = x) → z_J G d mJ7_fill_53178 (5, [.ref a, .int x, .int (nI k), .int (nI (z_l S a))], [], S, z_ua v a g) Q := by
    intro j
    induction j with
    | zero =>
      intro k g hk h1
      have hk : k = z_l S a := by omega
      subst hk
      exact sg_J7_fill_53178_5 ha ⟨fun _ => h g h1, fun c => absurd (nI_le (Nat.le_refl _) (by omega)) c⟩
    | succ j ih =>
      intro k g hk h1
      refine sg_J7_fill_53178_5 ha ⟨fun c => absurd c (nI_ge (by omega) (by omega)), fun _ => ⟨vp_in_nI (by omega) (by omega), fun v1 e1 => ?_⟩⟩
      have e2 : v1 = z_ua v a (upd g k x) := by
        rw [e1, nI_clamp (by omega)]
        funext q
        by_cases hq : q = a
        · subst hq; rw [z_u_eq, z_ua_eq, z_ua_eq]
        · rw [z_u_ne hq, z_ua_ne hq, z_ua_ne hq]
      rw [e2, nI_1]
      refine ih (k + 1) _ (by omega) (fun i hi => ?_)
      by_cases e : i = k
      · subst e; simp [upd]
      · simp only [upd, if_neg e]
        exact h1 i (by omega)
  have e0 : v = z_ua v a (v a) := by
    funext q
    by_cases hq : q = a
    · subst hq; rw [z_ua_eq]
    · rw [z_ua_ne hq]
  have K := key (z_l S a) 0 (v a) (by omega) (fun i hi => by omega)
  rw [← e0] at K
  exact sg_J7_fill_53178_0 ha K
theorem sp_X4_link_in {B s e l : Nat} (hL : z_L S) (hB : v 149 0 = nI B) (hB2 : B ≤ 108) (hs : s < B) (hl : v 153 s = nI l) (hl6 : l < 6) (h : Q none S (z_u (z_u v 154 (s * 6 + l) (nI e)) 153 s (nI (l + 1)))) : z_J G d mX4_link (0, [.ref 149, .int (nI s), .int (nI e)], [], S, v) Q := by
  have e6 : nI s * 6 + nI l = nI (s * 6 + l) := by rw [show (6 : Int32) = nI 6 from rfl, pk_mul, nI_add]
  refine sg_X4_link_0 hL ⟨fun c => absurd c (nI_pos (by omega)), fun _ => ⟨fun c => ?_, fun _ => ⟨vp_in_nI (by omega) (by omega), fun _ => ⟨vp_in_nI (by omega) (by omega), ?_, fun v1 e1 => ⟨vp_in_nI (by omega) (by omega), vp_in_nI (by omega) (by omega), fun v2 e2 => ?_⟩⟩, fun c => ?_⟩⟩⟩
  · rw [hB] at c; exact absurd c (nI_ge (by omega) (by omega))
  · rw [nI_clamp (by omega), hl, e6]; exact vp_in_nI (by omega) (by omega)
  · rw [nI_clamp (by omega), hl, e6, nI_clamp (by omega)] at e1
    have e3 : v1 153 s = nI l := by rw [e1, z_un (by omega)]; exact hl
    rw [nI_clamp (by omega), e3, nI_1, e1] at e2
    rw [e2]
    exact h
  · rw [nI_clamp (by omega), hl] at c; exact absurd (nI_lt (b := 6) hl6 (by omega)) c
theorem sp_X4_link_out {B s e : Nat} (hL : z_L S) (hB : v 149 0 = nI B) (hs : B ≤ s) (hs2 : s ≤ 108) (h : Q none S v) : z_J G d mX4_link (0, [.ref 149, .int (nI s), .int (nI e)], [], S, v) Q := by
  refine sg_X4_link_0 hL ⟨fun c => absurd c (nI_pos (by omega)), fun _ => ⟨fun _ => h, fun c => absurd ?_ c⟩⟩
  rw [hB]; exact nI_le hs (by omega)
theorem sp_X4_join {c : Nat} (hd : 1 ≤ d) (hL : z_L S) (hV : p_V ρ) (hκ : κ < 2) (hc : c < n_E ρ) (hN : c_N ρ κ v0 v c) (h : ∀ v1, c_N ρ κ v0 v1 (c + 1) → Q none S v1) :
    z_J G d mX4_join (0, [.ref 149, .int (nI (n_lo ρ κ c)), .int (nI (n_hi ρ κ c)), .int (nI (n_w ρ κ c))], [], S, v) Q := by
  obtain ⟨d, rfl⟩ : ∃ e, d = e + 1 := ⟨d - 1, by omega⟩
  obtain ⟨⟨a0, a1, a2, a3, a4, a5⟩, b, n, fr⟩ := hN
  have hB := n_B_le hV.1 hV.2.1
  have hE := n_E_le hV.1 hV.2.1
  obtain ⟨q1, q2, q3⟩ := n_ends hV.1 hκ hc
  have c2 : (nI c).toNatClampNeg = c := nI_clamp (by omega)
  refine sg_X4_join_0 hL ⟨fun _ => ⟨by rw [a2]; exact vp_in_nI (by omega) (by omega), fun v1 e1 => ?_⟩, fun q => ?_⟩
  · rw [a2, c2] at e1
    have r1 : v1 149 2 = nI c := by rw [e1, z_un (by omega)]; exact a2
    refine ⟨by rw [r1]; exact vp_in_nI (by omega) (by omega), fun v2 e2 => ?_⟩
    rw [r1, c2] at e2
    have r2 : v2 149 2 = nI c := by rw [e2, z_un (by omega)]; exact r1
    refine ⟨by rw [r2]; exact vp_in_nI (by omega) (by omega), fun v3 e3 => ?_⟩
    rw [r2, c2] at e3
    rw [e2, e1] at e3
    have r3 : v3 149 2 = nI c := by rw [e3]; simp (disch := omega) only [z_ue, z_un]; exact a2
    have r30 : v3 149 0 = nI (n_B ρ) := by rw [e3]; simp (disch := omega) only [z_ue, z_un]; exact a0
    have r153 : ∀ s, v3 153 s = v 153 s := fun s => by rw [e3]; simp (disch := omega) only [z_ue, z_un]
    have r154 : ∀ s, v3 154 s = v 154 s := fun s => by rw [e3]; simp (disch := omega) only [z_ue, z_un]
    have N1 := n_ls_s (κ := κ) (s := n_lo ρ κ c) hV.1 hκ hc q2
    rw [if_pos (Or.inl rfl)] at N1
    have L1 := n_ls_len (κ := κ) (s := n_lo ρ κ c) (c := c + 1) hV.1 hκ
    rw [N1, List.length_append, List.length_singleton] at L1
    obtain ⟨n1, n1'⟩ := n (n_lo ρ κ c) q2
    rw [r3]
    refine sp_X4_link_in hL r30 hB q2 (by rw [r153]; exact n1) (by omega) ⟨rfl, rfl, ?_⟩
    generalize e4 : z_u (z_u v3 154 (n_lo ρ κ c * 6 + (n_ls ρ κ (n_lo ρ κ c) c).length) (nI c)) 153 (n_lo ρ κ c) (nI ((n_ls ρ κ (n_lo ρ κ c) c).length + 1)) = v4
    have r4 : v4 149 2 = nI c := by rw [← e4]; simp (disch := omega) only [z_ue, z_un]; exact r3
    have r40 : v4 149 0 = nI (n_B ρ) := by rw [← e4]; simp (disch := omega) only [z_ue, z_un]; exact r30
    rw [r4]
    have edges : ∀ e, e < c + 1 → (v3 150 e = nI (n_lo ρ κ e) ∧ v3 151 e = nI (n_hi ρ κ e) ∧ v3 152 e = nI (n_w ρ κ e)) := by
      intro e he
      by_cases h1 : e = c
      · subst h1
        rw [e3]
        simp (disch := omega) only [z_ue, z_un]
        exact ⟨trivial, trivial, trivial⟩
      · rw [e3]
        simp (disch := omega) only [z_ue, z_un]
        exact b e (by omega)
    rcases Nat.lt_or_ge (n_hi ρ κ c) (n_B ρ) with hh | hh
    · have N2 := n_ls_s (κ := κ) (s := n_hi ρ κ c) hV.1 hκ hc hh
      rw [if_pos (Or.inr rfl)] at N2
      have L2 := n_ls_len (κ := κ) (s := n_hi ρ κ c) (c := c + 1) hV.1 hκ
      rw [N2, List.length_append, List.length_singleton] at L2
      obtain ⟨n2, n2'⟩ := n (n_hi ρ κ c) hh
      refine sp_X4_link_in hL r40 hB hh (l := (n_ls ρ κ (n_hi ρ κ c) c).length) (by rw [← e4]; simp (disch := omega) only [z_ue, z_un]; rw [r153]; exact n2) (by omega) ⟨rfl, rfl, fun v6 e6 => ?_⟩
      rw [z_un (by omega), z_un (by omega), r4, nI_1, ← e4] at e6
      refine h v6 ⟨⟨?_, ?_, ?_, ?_, ?_, ?_⟩, fun e he => ?_, fun s hs => ?_, ?_⟩
      · rw [e6]; simp (disch := omega) only [z_ue, z_un]; exact r30
      · rw [e6, e3]; simp (disch := omega) only [z_ue, z_un]; exact a1
      · rw [e6]; simp (disch := omega) only [z_ue, z_un]
      · rw [e6, e3]; simp (disch := omega) only [z_ue, z_un]; exact a3
      · rw [e6, e3]; simp (disch := omega) only [z_ue, z_un]; exact a4
      · rw [e6, e3]; simp (disch := omega) only [z_ue, z_un]; exact a5
      · rw [e6]; simp (disch := omega) only [z_ue, z_un]; exact edges e he
      · have L6 := n_ls_len (κ := κ) (s := s) (c := c) hV.1 hκ
        by_cases h1 : n_lo ρ κ c = s
        · subst h1
          rw [N1, List.length_append, List.length_singleton]
          refine ⟨by rw [e6]; simp (disch := omega) only [z_ue, z_un], fun i hi => ?_⟩
          by_cases h2 : i = (n_ls ρ κ (n_lo ρ κ c) c).length
          · rw [h2, l_ge, e6]; simp (disch := omega) only [z_ue, z_un]
          · rw [l_gl (by omega), e6]; simp (disch := omega) only [z_ue, z_un]; rw [r154]; exact n1' i (by omega)
        · by_cases h2 : n_hi ρ κ c = s
          · subst h2
            rw [N2, List.length_append, List.length_singleton]
            refine ⟨by rw [e6]; simp (disch := omega) only [z_ue, z_un], fun i hi => ?_⟩
            by_cases h2 : i = (n_ls ρ κ (n_hi ρ κ c) c).length
            · rw [h2, l_ge, e6]; simp (disch := omega) only [z_ue, z_un]
            · rw [l_gl (by omega), e6]; simp (disch := omega) only [z_ue, z_un]; rw [r154]; exact n2' i (by omega)
          · have N3 := n_ls_s (κ := κ) (s := s) hV.1 hκ hc hs
            rw [if_neg (by omega), List.append_nil] at N3
            rw [N3]
            obtain ⟨n3, n3'⟩ := n s hs
            refine ⟨by rw [e6]; simp (disch := omega) only [z_ue, z_un]; rw [r153]; exact n3, fun i hi => ?_⟩
            rw [e6]; simp (disch := omega) only [z_ue, z_un]; rw [r154]; exact n3' i hi
      · rw [e6, e3]
        exact ((((((((fr.u (by omega) (by omega)).u (by omega) (by omega)).u (by omega) (by omega)).u (by omega) (by omega)).u (by omega) (by omega)).u (by omega) (by omega)).u (by omega) (by omega)).u (by omega) (by omega))
    · refine sp_X4_link_out hL r40 hh (by omega) ⟨rfl, rfl, fun v6 e6 => ?_⟩
      rw [r4, nI_1, ← e4] at e6
      refine h v6 ⟨⟨?_, ?_, ?_, ?_, ?_, ?_⟩, fun e he => ?_, fun s hs => ?_, ?_⟩
      · rw [e6]; simp (disch := omega) only [z_ue, z_un]; exact r30
      · rw [e6, e3]; simp (disch := omega) only [z_ue, z_un]; exact a1
      · rw [e6]; simp (disch := omega) only [z_ue, z_un]
      · rw [e6, e3]; simp (disch := omega) only [z_ue, z_un]; exact a3
      · rw [e6, e3]; simp (disch := omega) only [z_ue, z_un]; exact a4
      · rw [e6, e3]; simp (disch := omega) only [z_ue, z_un]; exact a5
      · rw [e6]; simp (disch := omega) only [z_ue, z_un]; exact edges e he
      · have L6 := n_ls_len (κ := κ) (s := s) (c := c) hV.1 hκ
        by_cases h1 : n_lo ρ κ c = s
        · subst h1
          rw [N1, List.length_append, List.length_singleton]
          refine ⟨by rw [e6]; simp (disch := omega) only [z_ue, z_un], fun i hi => ?_⟩
          by_cases h2 : i = (n_ls ρ κ (n_lo ρ κ c) c).length
          · rw [h2, l_ge, e6]; simp (disch := omega) only [z_ue, z_un]
          · rw [l_gl (by omega), e6]; simp (disch := omega) only [z_ue, z_un]; rw [r154]; exact n1' i (by omega)
        · have N3 := n_ls_s (κ := κ) (s := s) hV.1 hκ hc hs
          rw [if_neg (by omega), List.append_nil] at N3
          rw [N3]
          obtain ⟨n3, n3'⟩ := n s hs
          refine ⟨by rw [e6]; simp (disch := omega) only [z_ue, z_un]; rw [r153]; exact n3, fun i hi => ?_⟩
          rw [e6]; simp (disch := omega) only [z_ue, z_un]; rw [r154]; exact n3' i hi
      · rw [e6, e3]
        exact ((((((fr.u (by omega) (by omega)).u (by omega) (by omega)).u (by omega) (by omega)).u (by omega) (by omega)).u (by omega) (by omega)).u (by omega) (by omega))
  · rw [a2] at q; exact absurd (nI_lt (b := 321) (by omega) (by omega)) q
end NC
