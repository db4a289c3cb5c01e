/-! THE CLASS' CHOICE: firstPartner, choosePartners; the chosen row does not hang on what lay there -/
theorem q_mt_in {N : Nat} {D : Nat → Nat → Nat} {P : Nat → Nat × Nat} (hN : N ≤ 14) : ∀ k a (m m' : Nat → Int32) i, q_cn a 14 ≤ k → a < 2 ^ N → (a / 2 ^ i % 2 = 1 ∨ m i = m' i) → q_mt N D P k a m i = q_mt N D P k a m' i
  | 0, a, m, m', i, hk, ha, h => by
    have h2N : 2 ^ N ≤ 16384 := Nat.pow_le_pow_right (n := 2) (by omega) hN
    have e := q_cn_pos (a := a) (by omega) (by omega)
    subst e
    rcases h with h | h
    · rw [Nat.zero_div] at h; omega
    · exact h
  | k + 1, a, m, m', i, hk, ha, h => by
    have h2N : 2 ^ N ≤ 16384 := Nat.pow_le_pow_right (n := 2) (by omega) hN
    rw [q_mt, q_mt]
    by_cases e : a = 0
    · rw [if_pos e, if_pos e]
      subst e
      rcases h with h | h
      · rw [Nat.zero_div] at h; omega
      · exact h
    · rw [if_neg e, if_neg e]
      obtain ⟨⟨hb, hlow⟩, hi14⟩ := q_lo_ok (a := a) (by omega) (by omega)
      have hl := q_lt hb
      have hc1 := (q_cn_x hb 14).2 hi14
      have hiN := q_bN ha hb
      have hfp := q_fp_ok (N := N) (D := D) (P := P) (a := a) (i := q_lo a) (N - (q_lo a + 1)) (by omega)
      generalize q_lo a = l at *
      generalize q_fp N D P a l (N - (l + 1)) = j at *
      by_cases c : j = N
      · rw [if_pos c, if_pos c]
        refine q_mt_in hN k _ _ _ i (by omega) (by omega) ?_
        by_cases z : i = l
        · subst z; exact Or.inr (by rw [pk_us, pk_us])
        · rcases h with h | h
          · exact Or.inl ((q_xb z).mpr h)
          · exact Or.inr (by rw [pk_un z, pk_un z]; exact h)
      · rw [if_neg c, if_neg c]
        obtain ⟨j1, j2, j3⟩ := hfp.resolve_left c
        have hjl : j ≠ l := by omega
        have hb2 : (a ^^^ 2 ^ l) / 2 ^ j % 2 = 1 := (q_xb hjl).mpr j3
        have hl2 := q_lt hb2
        have hc2 := (q_cn_x hb2 14).2 (by omega)
        refine q_mt_in hN k _ _ _ i (by omega) (by omega) ?_
        by_cases y : i = j
        · subst y; exact Or.inr (by rw [pk_us, pk_us])
        · by_cases z : i = l
          · subst z; exact Or.inr (by rw [pk_un y, pk_us, pk_un y, pk_us])
          · rcases h with h | h
            · exact Or.inl ((q_xb y).mpr ((q_xb z).mpr h))
            · exact Or.inr (by rw [pk_un y, pk_un z, pk_un y, pk_un z]; exact h)
def q_rg (N i : Nat) (x : Int32) : Prop := x = -2 ∨ ∃ j, j < N ∧ j ≠ i ∧ x = nI j
theorem q_mt_rg {N : Nat} {D : Nat → Nat → Nat} {P : Nat → Nat × Nat} (hN : N ≤ 14) : ∀ k a (m : Nat → Int32), q_cn a 14 ≤ k → a < 2 ^ N → (∀ i, i < N → ¬ a / 2 ^ i % 2 = 1 → q_rg N i (m i)) → ∀ i, i < N → q_rg N i (q_mt N D P k a m i)
  | 0, a, m, hk, ha, h => by
    have h2N : 2 ^ N ≤ 16384 := Nat.pow_le_pow_right (n := 2) (by omega) hN
    have e := q_cn_pos (a := a) (by omega) (by omega)
    subst e
    intro i hi
    exact h i hi (by rw [Nat.zero_div]; omega)
  | k + 1, a, m, hk, ha, h => by
    have h2N : 2 ^ N ≤ 16384 := Nat.pow_le_pow_right (n := 2) (by omega) hN
    intro i hi
    rw [q_mt]
    by_cases e : a = 0
    · rw [if_pos e]
      subst e
      exact h i hi (by rw [Nat.zero_div]; omega)
    · rw [if_neg e]
      obtain ⟨⟨hb, hlow⟩, hi14⟩ := q_lo_ok (a := a) (by omega) (by omega)
      have hl := q_lt hb
      have hc1 := (q_cn_x hb 14).2 hi14
      have hiN := q_bN ha hb
      have hfp := q_fp_ok (N := N) (D := D) (P := P) (a := a) (i := q_lo a) (N - (q_lo a + 1)) (by omega)
      generalize q_lo a = l at *
      generalize q_fp N D P a l (N - (l + 1)) = j at *
      by_cases c : j = N
      · rw [if_pos c]
        refine q_mt_rg hN k _ _ (by omega) (by omega) (fun i' hi' hn => ?_) i hi
        by_cases z : i' = l
        · subst z; rw [pk_us]; exact Or.inl rfl
        · rw [pk_un z]; exact h i' hi' (fun q => hn ((q_xb z).mpr q))
      · rw [if_neg c]
        obtain ⟨j1, j2, j3⟩ := hfp.resolve_left c
        have hjl : j ≠ l := by omega
        have hb2 : (a ^^^ 2 ^ l) / 2 ^ j % 2 = 1 := (q_xb hjl).mpr j3
        have hl2 := q_lt hb2
        have hc2 := (q_cn_x hb2 14).2 (by omega)
        refine q_mt_rg hN k _ _ (by omega) (by omega) (fun i' hi' hn => ?_) i hi
        by_cases y : i' = j
        · subst y; rw [pk_us]; exact Or.inr ⟨l, by omega, fun q => hjl q.symm, rfl⟩
        · by_cases z : i' = l
          · subst z; rw [pk_un y, pk_us]; exact Or.inr ⟨j, by omega, hjl, rfl⟩
          · rw [pk_un y, pk_un z]; exact h i' hi' (fun q => hn ((q_xb y).mpr ((q_xb z).mpr q)))
section FP
variable {G : z_G} {d : Nat} {S : z_Shp} {v v0 : z_Dat} {Q : Option Value → z_Shp → z_Dat → Prop} {N : Nat} {D : Nat → Nat → Nat} {Bd sp : Nat → Nat} {aL aO : Nat}
theorem sp_X5_firstPartner {a : Nat} (hd : 1 ≤ d) (hL : z_L S) (raL : z_r S 164 7 = some aL) (kaL : z_k S aL = 21) (hN : N ≤ 14) (lL : 2 ^ N ≤ z_l S aL ∧ z_l S aL ≤ 16384) (hI : e_In N D Bd sp v) (hM : e_Mm (2 ^ N) (q_P N D Bd) aL aO v) (h0 : 0 < a) (ha : a < 2 ^ N) (hca : ¬ v aL a = -1)
    (h : Q (some (.int (if q_fp N D (q_P N D Bd) a (q_lo a) (N - (q_lo a + 1)) = N then -2 else nI (q_fp N D (q_P N D Bd) a (q_lo a) (N - (q_lo a + 1)))))) S v) : z_J G d mX5_firstPartner (0, [.ref 164, .int (nI (q_lo a)), .int (nI a), .null, .null], [], S, v) Q := by
  obtain ⟨d, rfl⟩ : ∃ e, d = e + 1 := ⟨d - 1, by omega⟩
  have h2N : 2 ^ N ≤ 16384 := Nat.pow_le_pow_right (n := 2) (by omega) hN
  obtain ⟨⟨hb, hlow⟩, hi14⟩ := q_lo_ok h0 (show a < 16384 by omega)
  have hi := q_bN ha hb
  have hBd : ∀ i, i < N → Bd i ≤ 120 := fun i hi => (hI.2 i hi).2.2.2.1
  have hPle : ∀ b, b < 2 ^ N → (q_P N D Bd b).1 ≤ 120 * q_cn b 14 := fun b hb => q_P_le hBd hN (b + 1) b (by omega) hb
  obtain ⟨w1, w2, w3⟩ := (hM a ha).resolve_left hca
  have w3 := (w3 h0).2
  have hPa := hPle a ha
  have hcn := q_cn_le a 14
  refine sg_X5_firstPartner_0 ?_
  rw [q_dropI h0 (by omega), nI_1]
  generalize q_lo a = i at *
  have hl := q_lt hb
  have hc1 := (q_cn_x hb 14).2 hi14
  have ca : (nI a).toNatClampNeg = a := nI_clamp (by omega)
  have scan : ∀ m, i + 1 + m ≤ N → q_fp N D (q_P N D Bd) a i (N - (i + 1)) = q_fp N D (q_P N D Bd) a i m → z_J G (d + 1) mX5_firstPartner (11, [.ref 164, .int (nI i), .int (nI a), .int (nI (a ^^^ 2 ^ i)), .int (nI (N - m))], [], S, v) Q := by
    intro m
    induction m with
    | zero =>
      intro hm hq
      rw [q_fp] at hq
      rw [hq, if_pos rfl] at h
      refine sg_X5_firstPartner_11 hL raL kaL ⟨fun _ => h, fun c => absurd ?_ c⟩
      rw [hI.1]; exact nI_le (Nat.le_refl _) (by omega)
    | succ m ihm =>
      intro hm hq
      rw [q_fp] at hq
      have hj : N - (m + 1) < N := by omega
      have hnx : nI (N - (m + 1)) + 1 = nI (N - m) := by rw [nI_1]; congr 1; omega
      generalize hjj : N - (m + 1) = j at *
      have hji : j ≠ i := by omega
      refine sg_X5_firstPartner_11 hL raL kaL ⟨fun c => ?_, fun _ => ⟨fun c => ?_, fun c => ?_⟩⟩
      · rw [hI.1] at c; exact absurd c (nI_ge (by omega) (by omega))
      · rw [zb_bit (by omega) (by omega)] at c
        rw [if_neg (fun z => c (by rw [(q_xb hji).mpr z.1]; rfl))] at hq
        rw [hnx]
        exact ihm (by omega) hq
      · rw [zb_bit (by omega) (by omega)] at c
        have c : (a ^^^ 2 ^ i) / 2 ^ j % 2 = 1 := (nI_eq (b := 1) (by omega) (by omega)).mp c
        have c2 : a / 2 ^ j % 2 = 1 := (q_xb hji).mp c
        have hl2 := q_lt c
        have hc2 := (q_cn_x c 14).2 (by omega)
        have hD := ((hI.2 i hi).2.2.2.2 j hj).2
        have hP2 := hPle (a ^^^ 2 ^ i ^^^ 2 ^ j) (by omega)
        obtain ⟨u1, -, -⟩ := (hM (a ^^^ 2 ^ i ^^^ 2 ^ j) (by omega)).resolve_left (w3 j hji c2)
        refine sp_X5_between hL hN hI hi hj ⟨_, rfl, rfl, ?_⟩
        rw [zb_1 (by omega), nx_xor, ca, nI_clamp (n := a ^^^ 2 ^ i ^^^ 2 ^ j) (by omega), u1, w1, nI_add, hnx]
        refine ⟨vp_in_nI (by omega) (by omega), vp_in_nI (by omega) (by omega), fun c3 => ?_, fun c3 => ?_⟩
        · rw [if_neg (fun z => c3 (by rw [z.2]))] at hq
          exact ihm (by omega) hq
        · have c3 := (nI_eq (by omega) (by omega)).mp c3
          rw [if_pos ⟨c2, c3⟩] at hq
          rw [hq, if_neg (by omega)] at h
          exact h
  have := scan (N - (i + 1)) (by omega) rfl
  rw [show N - (N - (i + 1)) = i + 1 by omega] at this
  exact this
theorem sp_X5_choosePartners (hd : 2 ≤ d) (hL : z_L S) (raL : z_r S 164 7 = some aL) (kaL : z_k S aL = 21) (gL : 184 ≤ aL) (gO : 184 ≤ aO) (hN : N ≤ 14) (lL : 2 ^ N ≤ z_l S aL ∧ z_l S aL ≤ 16384) (hI : e_In N D Bd sp v) (hM : e_Mm (2 ^ N) (q_P N D Bd) aL aO v) (hca : ¬ v aL (2 ^ N - 1) = -1)
    (h : ∀ v1, v1 165 = q_mt N D (q_P N D Bd) 14 (2 ^ N - 1) (v 165) → (∀ b, b ≠ 165 → v1 b = v b) → Q none S v1) : z_J G d mX5_choosePartners (0, [.ref 164, .int (nI (2 ^ N - 1)), .null, .null, .null], [], S, v) Q := by
  obtain ⟨d, rfl⟩ : ∃ e, d = e + 1 := ⟨d - 1, by omega⟩
  have h2N : 2 ^ N ≤ 16384 := Nat.pow_le_pow_right (n := 2) (by omega) hN
  have h2p : 0 < 2 ^ N := Nat.pow_pos (by omega)
  refine sg_X5_choosePartners_0 ?_
  generalize hTg : q_mt N D (q_P N D Bd) 14 (2 ^ N - 1) (v 165) = tg at h
  have key : ∀ m i k a v1, i + m = N → q_cn a 14 ≤ k → a < 2 ^ N → (∀ j, j < i → ¬ a / 2 ^ j % 2 = 1) → ¬ v aL a = -1 → (∀ b, b ≠ 165 → v1 b = v b) → tg = q_mt N D (q_P N D Bd) k a (v1 165) →
      z_J G (d + 1) mX5_choosePartners (4, [.ref 164, .int (nI (2 ^ N - 1)), .int (nI a), .int (nI i), .null], [], S, v1) Q := by
    intro m
    induction m with
    | zero =>
      intro i k a v1 hi hk ha hz hc k1 k2
      have hi : i = N := by omega
      have a0 : a = 0 := by
        rcases Nat.eq_zero_or_pos a with z | z
        · exact z
        · obtain ⟨⟨hb, -⟩, -⟩ := q_lo_ok z (by omega)
          exact absurd hb (hz _ (by rw [hi]; exact q_bN ha hb))
      subst a0
      refine sg_X5_choosePartners_4 hL ⟨fun _ => h v1 ?_ k1, fun c => absurd ?_ c⟩
      · rw [k2]
        cases k with
        | zero => rfl
        | succ k => rw [q_mt, if_pos rfl]
      · rw [k1 164 (by omega), hI.1, hi]; exact nI_le (Nat.le_refl _) (by omega)
    | succ m ih =>
      intro i k a v1 hi hk ha hz hc k1 k2
      have I1 : e_In N D Bd sp v1 := by
        unfold e_In
        rw [k1 164 (by omega), k1 167 (by omega), k1 183 (by omega)]
        refine ⟨hI.1, fun i hi => ?_⟩
        obtain ⟨a1, a2, a3, a4, a5⟩ := hI.2 i hi
        exact ⟨a1, a2, a3, a4, fun j hj => by rw [k1 (169 + j) (by omega)]; exact a5 j hj⟩
      have M1 : e_Mm (2 ^ N) (q_P N D Bd) aL aO v1 := by
        unfold e_Mm
        rw [k1 aL (by omega), k1 aO (by omega)]; exact hM
      refine sg_X5_choosePartners_4 hL ⟨fun c => ?_, fun _ => ⟨fun c => ?_, fun c => ?_⟩⟩
      · rw [k1 164 (by omega), hI.1] at c; exact absurd c (nI_ge (by omega) (by omega))
      · rw [zb_bit (by omega) (by omega)] at c
        rw [nI_1]
        refine ih (i + 1) k a v1 (by omega) hk ha (fun j hj => ?_) hc k1 k2
        by_cases z : j = i
        · rw [z]; exact fun q => c (by rw [q]; rfl)
        · exact hz j (by omega)
      · rw [zb_bit (by omega) (by omega)] at c
        have c : a / 2 ^ i % 2 = 1 := (nI_eq (b := 1) (by omega) (by omega)).mp c
        have h0 : 0 < a := Nat.pos_of_ne_zero (fun z => by rw [z, Nat.zero_div] at c; omega)
        obtain ⟨⟨hb, hlow⟩, hi14⟩ := q_lo_ok h0 (show a < 16384 by omega)
        have hil : q_lo a = i := by
          rcases Nat.lt_trichotomy (q_lo a) i with z | z | z
          · exact absurd hb (hz _ z)
          · exact z
          · exact absurd c (hlow i z)
        subst hil
        obtain ⟨k, rfl⟩ : ∃ k', k = k' + 1 := ⟨k - 1, by
          have := (q_cn_x hb 14).2 hi14
          omega⟩
        rw [q_mt, if_neg (by omega)] at k2
        have hfp := q_fp_ok (N := N) (D := D) (P := q_P N D Bd) (a := a) (i := q_lo a) (N - (q_lo a + 1)) (by omega)
        obtain ⟨-, -, w3⟩ := (hM a ha).resolve_left hc
        have w3 := w3 h0
        refine sp_X5_firstPartner (by omega) hL raL kaL hN lL I1 M1 h0 ha (by rw [k1 aL (by omega)]; exact hc) ⟨_, rfl, rfl, vp_in_nI (by omega) (by omega), fun v2 e2 => ?_⟩
        rw [nI_clamp (n := q_lo a) (by omega)] at e2
        have hl := q_lt hb
        have hc1 := (q_cn_x hb 14).2 hi14
        rw [q_dropI h0 (by omega), nI_1]
        generalize hlo : q_lo a = i at *
        generalize q_fp N D (q_P N D Bd) a i (N - (i + 1)) = j at *
        have hz1 : ∀ j', j' < i + 1 → ¬ (a ^^^ 2 ^ i) / 2 ^ j' % 2 = 1 := fun j' hj' => by
          by_cases z : j' = i
          · rw [z]; exact q_xk hb
          · exact fun q => hz j' (by omega) ((q_xb z).mp q)
        by_cases cN : j = N
        · rw [if_pos cN] at k2 e2 ⊢
          refine ⟨fun _ => ?_, fun q => absurd rfl q⟩
          refine ih (i + 1) k (a ^^^ 2 ^ i) v2 (by omega) (by omega) (by omega) hz1 w3.1 (fun b b1 => by rw [e2, z_u_ne b1]; exact k1 b b1) ?_
          rw [e2, z_u_eq]; exact k2
        · obtain ⟨j1, j2, j3⟩ := hfp.resolve_left cN
          rw [if_neg cN] at k2 e2 ⊢
          have hji : j ≠ i := by omega
          have hb2 : (a ^^^ 2 ^ i) / 2 ^ j % 2 = 1 := (q_xb hji).mpr j3
          have hl2 := q_lt hb2
          have hc2 := (q_cn_x hb2 14).2 (by omega)
          refine ⟨fun q => absurd q (fun q => nI_pos (n := j) (by omega) (by rw [q]; decide)), fun _ => ⟨vp_in_nI (by omega) (by omega), fun v3 e3 => ?_⟩⟩
          rw [nI_clamp (n := j) (by omega)] at e3
          rw [zb_1 (by omega), nx_xor]
          refine ih (i + 1) k (a ^^^ 2 ^ i ^^^ 2 ^ j) v3 (by omega) (by omega) (by omega) (fun j' hj' => ?_) (w3.2 j hji j3) (fun b b1 => by rw [e3, z_u_ne b1, e2, z_u_ne b1]; exact k1 b b1) ?_
          · exact fun q => hz1 j' hj' ((q_xb (by omega)).mp q)
          · rw [e3, z_u_eq, e2, z_u_eq]; exact k2
  exact key N 0 14 (2 ^ N - 1) v (by omega) (q_cn_le _ 14) (by omega) (fun j hj => by omega) hca (fun _ _ => rfl) hTg.symm
end FP
