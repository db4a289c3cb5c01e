/-! THE CLASS' PAIRING: toBorder, between, leastFor (what is known of sets is kept) -/
def e_In (N : Nat) (D : Nat → Nat → Nat) (Bd sp : Nat → Nat) (v : z_Dat) : Prop := v 164 0 = nI N ∧ ∀ i, i < N → (v 167 i = nI (sp i) ∧ sp i < 109 ∧ v 183 (sp i) = nI (Bd i) ∧ Bd i ≤ 120 ∧ ∀ j, j < N → (v (169 + j) (sp i) = nI (D i j) ∧ D i j ≤ 120))
def e_Mm (M : Nat) (P : Nat → Nat × Nat) (aL aO : Nat) (v : z_Dat) : Prop := ∀ b, b < M → v aL b = -1 ∨ (v aL b = nI (P b).1 ∧ v aO b = nI (P b).2 ∧ (0 < b → ¬ v aL (b ^^^ 2 ^ q_lo b) = -1 ∧ ∀ j, j ≠ q_lo b → b / 2 ^ j % 2 = 1 → ¬ v aL (b ^^^ 2 ^ q_lo b ^^^ 2 ^ j) = -1))
theorem e_In.fr {N : Nat} {D : Nat → Nat → Nat} {Bd sp : Nat → Nat} {v v1 : z_Dat} (h : e_In N D Bd sp v) (hN : N ≤ 14) (hv : ∀ b, b < 184 → v1 b = v b) : e_In N D Bd sp v1 := by
  unfold e_In
  rw [hv 164 (by omega), hv 167 (by omega), hv 183 (by omega)]
  refine ⟨h.1, fun i hi => ?_⟩
  obtain ⟨a1, a2, a3, a4, a5⟩ := h.2 i hi
  refine ⟨a1, a2, a3, a4, fun j hj => ?_⟩
  rw [hv (169 + j) (by omega)]
  exact a5 j hj
theorem q_P_le {N : Nat} {D : Nat → Nat → Nat} {Bd : Nat → Nat} (hB : ∀ i, i < N → Bd i ≤ 120) (hN : N ≤ 14) : ∀ n b, b < n → b < 2 ^ N → (q_P N D Bd b).1 ≤ 120 * q_cn b 14
  | 0, b, h, _ => by omega
  | n + 1, b, h, hb => by
    rcases Nat.eq_zero_or_pos b with z | z
    · subst z
      show 0 ≤ _
      exact Nat.zero_le _
    · have hb2 : b < 16384 := Nat.lt_of_lt_of_le hb (Nat.pow_le_pow_right (n := 2) (by omega) hN)
      obtain ⟨⟨l1, -⟩, l3⟩ := q_lo_ok z hb2
      have hl := q_lt l1
      have ih := q_P_le (D := D) hB hN n (b ^^^ 2 ^ q_lo b) (by omega) (by omega)
      have g1 := q_f_le (D := D) (Bd := Bd) (f := q_P N D Bd) (a := b) (i := q_lo b) N
      have g3 := (q_cn_x l1 14).2 l3
      have g4 := hB _ (q_bN hb l1)
      rw [q_P_s z hb2]
      omega
theorem q_f_lo {D : Nat → Nat → Nat} {Bd : Nat → Nat} {f : Nat → Nat × Nat} {a i : Nat} (h : ∀ j, j < i → ¬ a / 2 ^ j % 2 = 1) : ∀ j, j ≤ i + 1 → q_f D Bd f a i j = q_f D Bd f a i 0
  | 0, _ => rfl
  | j + 1, hj => by
    have e : q_f D Bd f a i (j + 1) = q_f D Bd f a i j := by
      rw [q_f, if_neg (fun z => h j (Nat.lt_of_le_of_ne (by omega) z.1) z.2)]
    rw [e]
    exact q_f_lo h j (by omega)
section LF
variable {G : z_G} {d : Nat} {S : z_Shp} {v v0 : z_Dat} {Q : Option Value → z_Shp → z_Dat → Prop} {N : Nat} {D : Nat → Nat → Nat} {Bd sp : Nat → Nat} {aL aO : Nat}
theorem sp_X5_toBorder {i : Nat} (hL : z_L S) (hN : N ≤ 14) (hI : e_In N D Bd sp v) (hi : i < N) (h : Q (some (.int (nI (Bd i)))) S v) : z_J G d mX5_toBorder (0, [.ref 164, .int (nI i)], [], S, v) Q := by
  obtain ⟨a1, a2, a3, a4, a5⟩ := hI.2 i hi
  refine sg_X5_toBorder_0 hL ?_
  rw [nI_clamp (n := i) (by omega), a1, nI_clamp (n := sp i) (by omega), a3]
  exact ⟨vp_in_nI (by omega) (by omega), vp_in_nI (by omega) (by omega), h⟩
theorem sp_X5_between {i j : Nat} (hL : z_L S) (hN : N ≤ 14) (hI : e_In N D Bd sp v) (hi : i < N) (hj : j < N) (h : Q (some (.int (nI (D i j)))) S v) : z_J G d mX5_between (0, [.ref 164, .int (nI i), .int (nI j)], [], S, v) Q := by
  obtain ⟨a1, a2, a3, a4, a5⟩ := hI.2 i hi
  refine sg_X5_between_0 hL ?_
  rw [nI_clamp (n := j) (by omega), nI_clamp (n := i) (by omega), a1, nI_clamp (n := sp i) (by omega), (a5 j hj).1]
  exact ⟨vp_in_nI (by omega) (by omega), vp_in_nI (by omega) (by omega), vp_in_nI (by omega) (by omega), h⟩
theorem sp_X5_leastFor (hL : z_L S) (raL : z_r S 164 7 = some aL) (kaL : z_k S aL = 21) (raO : z_r S 164 8 = some aO) (kaO : z_k S aO = 21) (hne : aL ≠ aO) (gL : 184 ≤ aL) (gO : 184 ≤ aO) (hN : N ≤ 14) (lL : 2 ^ N ≤ z_l S aL ∧ z_l S aL ≤ 16384) (lO : 2 ^ N ≤ z_l S aO ∧ z_l S aO ≤ 16384) :
    ∀ (c a dp d : Nat) (v : z_Dat) (Q : Option Value → z_Shp → z_Dat → Prop), q_cn a 14 = c → c + 1 ≤ d → a < 2 ^ N → dp + c ≤ 14 → e_In N D Bd sp v → e_Mm (2 ^ N) (q_P N D Bd) aL aO v →
    (∀ v1, e_Mm (2 ^ N) (q_P N D Bd) aL aO v1 → v1 aL a = nI (q_P N D Bd a).1 → v1 aO a = nI (q_P N D Bd a).2 → (∀ b, b ≠ aL → b ≠ aO → v1 b = v b) → (∀ b, ¬ v aL b = -1 → ¬ v1 aL b = -1) → Q (some (.int (nI (q_P N D Bd a).1))) S v1) →
    z_J G d mX5_leastFor (0, [.ref 164, .int (nI a), .int (nI dp), .null, .null, .null, .null, .null, .null, .null], [], S, v) Q := by
  intro c
  induction c using Nat.strongRecOn with
  | ind c ihc =>
  intro a dp d v Q hc hd ha hdp hI hM h
  obtain ⟨d, rfl⟩ : ∃ e, d = e + 1 := ⟨d - 1, by omega⟩
  have h2N : 2 ^ N ≤ 16384 := Nat.pow_le_pow_right (n := 2) (by omega) hN
  have h2p : 0 < 2 ^ N := Nat.pow_pos (by omega)
  have ha2 : a < 16384 := by omega
  have hBd : ∀ i, i < N → Bd i ≤ 120 := fun i hi => (hI.2 i hi).2.2.2.1
  rcases Nat.eq_zero_or_pos a with z | z
  · subst z
    refine sg_X5_leastFor_0 hL raL kaL raO kaO ⟨fun _ => ⟨vp_in_nI (n := 0) (by omega) (by omega), fun v1 e1 => ⟨vp_in_nI (n := 0) (by omega) (by omega), fun v2 e2 => ?_⟩⟩, fun c => absurd rfl c⟩
    have w0 : v2 aL 0 = 0 := by rw [e2, z_un (Or.inl hne), e1, z_ue rfl rfl]
    have w1 : v2 aO 0 = 1 := by rw [e2, z_ue rfl rfl]
    have wn : ∀ b, b ≠ 0 → v2 aL b = v aL b ∧ v2 aO b = v aO b := fun b hb => ⟨by rw [e2, z_un (Or.inl hne), e1, z_un (Or.inr hb)], by rw [e2, z_un (Or.inr hb), e1, z_un (Or.inr hb)]⟩
    have mono : ∀ b, ¬ v aL b = -1 → ¬ v2 aL b = -1 := fun b hb => by
      by_cases e : b = 0
      · rw [e, w0]; decide
      · rw [(wn b e).1]; exact hb
    refine h v2 (fun b hb => ?_) w0 w1 (fun b b1 b2 => by rw [e2, z_u_ne b2, e1, z_u_ne b1]) mono
    by_cases e : b = 0
    · subst e
      exact Or.inr ⟨w0, w1, fun q => absurd q (by omega)⟩
    · rcases hM b hb with q | ⟨q1, q2, q3⟩
      · exact Or.inl ((wn b e).1.trans q)
      · exact Or.inr ⟨(wn b e).1.trans q1, (wn b e).2.trans q2, fun q0 => ⟨mono _ (q3 q0).1, fun j j1 j2 => mono _ ((q3 q0).2 j j1 j2)⟩⟩
  · obtain ⟨⟨hb, hlow⟩, hi14⟩ := q_lo_ok z ha2
    have hi := q_bN ha hb
    have hPs := q_P_s (N := N) (D := D) (Bd := Bd) z ha2
    have hPle : ∀ b, b < 2 ^ N → (q_P N D Bd b).1 ≤ 120 * q_cn b 14 := fun b hb => q_P_le hBd hN (b + 1) b (by omega) hb
    have ca : (nI a).toNatClampNeg = a := nI_clamp (by omega)
    have hva : vp_in (nI a) (z_l S aL) := vp_in_nI (by omega) (by omega)
    have hvo : vp_in (nI a) (z_l S aO) := vp_in_nI (by omega) (by omega)
    have known : ¬ v aL a = -1 → Q (some (.int (v aL a))) S v := fun c1 => by
      rcases hM a ha with w | ⟨w1, w2, w3⟩
      · exact absurd w c1
      · rw [w1]; exact h v hM w1 w2 (fun _ _ _ => rfl) (fun _ w => w)
    refine sg_X5_leastFor_0 hL raL kaL raO kaO ⟨fun c => absurd c (nI_ne0 z (by omega)), fun _ => ⟨fun _ => ⟨hva, fun c1 => ?_, fun c1 => ⟨hva, by rw [ca] at c1 ⊢; exact known c1⟩⟩, fun c => absurd (nI_le (b := 14) (by omega) (by omega)) c⟩⟩
    rw [q_tz z ha2, q_dropI z ha2]
    generalize hlo : q_lo a = i at *
    have hl := q_lt hb
    have hc1 := (q_cn_x hb 14).2 hi14
    have hcn := q_cn_le a 14
    refine sp_X5_toBorder hL hN hI hi ⟨_, rfl, rfl, ?_⟩
    rw [nI_1 dp, nI_1 i]
    have hB0 := hBd i hi
    have hP0 := hPle (a ^^^ 2 ^ i) (by omega)
    have hqf : ∀ j, (q_f D Bd (q_P N D Bd) a i j).1 ≤ 1680 := fun j => by
      have := q_f_le (D := D) (Bd := Bd) (f := q_P N D Bd) (a := a) (i := i) j
      omega
    refine ihc (q_cn (a ^^^ 2 ^ i) 14) (by omega) (a ^^^ 2 ^ i) (dp + 1) d v _ rfl (by omega) (by omega) (by omega) hI hM (fun v4 m4 r4 s4 f4 g4 => ⟨_, rfl, rfl, vp_in_nI (by omega) (by omega), ?_⟩)
    rw [nI_add, nI_clamp (n := a ^^^ 2 ^ i) (by omega), s4]
    have key : ∀ k j v5, j + k = N → i < j → e_Mm (2 ^ N) (q_P N D Bd) aL aO v5 → (∀ b, b ≠ aL → b ≠ aO → v5 b = v b) → (∀ b, ¬ v aL b = -1 → ¬ v5 aL b = -1) → ¬ v5 aL (a ^^^ 2 ^ i) = -1 → (∀ j', i < j' → j' < j → a / 2 ^ j' % 2 = 1 → ¬ v5 aL (a ^^^ 2 ^ i ^^^ 2 ^ j') = -1) →
        z_J G (d + 1) mX5_leastFor (86, [.ref 164, .int (nI a), .int (nI dp), .int (nI i), .int (nI (a ^^^ 2 ^ i)), .int (nI (q_f D Bd (q_P N D Bd) a i j).1), .int (nI (q_f D Bd (q_P N D Bd) a i j).2), .int (nI j), .null, .null], [], S, v5) Q := by
      intro k
      induction k with
      | zero =>
        intro j v5 hj hij m5 f5 g5 n5 p5
        have hj : j = N := by omega
        subst hj
        have I5 : e_In j D Bd sp v5 := hI.fr hN (fun b hb => f5 b (by omega) (by omega))
        refine sg_X5_leastFor_86 hL raL kaL raO kaO ⟨fun _ => ⟨hva, fun v6 e6 => ⟨hvo, fun v7 e7 => ?_⟩⟩, fun c => absurd ?_ c⟩
        · rw [ca] at e6 e7
          rw [← hPs] at e6 e7 ⊢
          have w1 : v7 aL a = nI (q_P j D Bd a).1 := by rw [e7, z_un (Or.inl hne), e6, z_ue rfl rfl]
          have w2 : v7 aO a = nI (q_P j D Bd a).2 := by rw [e7, z_ue rfl rfl]
          have wn : ∀ b, b ≠ a → v7 aL b = v5 aL b ∧ v7 aO b = v5 aO b := fun b hb => ⟨by rw [e7, z_un (Or.inl hne), e6, z_un (Or.inr hb)], by rw [e7, z_un (Or.inr hb), e6, z_un (Or.inr hb)]⟩
          have hPa := hPle a ha
          have mono : ∀ b, ¬ v5 aL b = -1 → ¬ v7 aL b = -1 := fun b hb => by
            by_cases e : b = a
            · rw [e, w1]; exact nI_n1 (by omega)
            · rw [(wn b e).1]; exact hb
          refine h v7 (fun b hb => ?_) w1 w2 (fun b b1 b2 => by rw [e7, z_u_ne b2, e6, z_u_ne b1]; exact f5 b b1 b2) (fun b hb => mono b (g5 b hb))
          by_cases e : b = a
          · subst e
            rw [hlo]
            refine Or.inr ⟨w1, w2, fun _ => ⟨mono _ n5, fun j' j1 j2 => mono _ (p5 j' ?_ (q_bN ha j2) j2)⟩⟩
            rcases Nat.lt_or_ge j' i with q | q
            · exact absurd j2 (hlow j' q)
            · omega
          · rcases m5 b hb with q | ⟨q1, q2, q3⟩
            · exact Or.inl ((wn b e).1.trans q)
            · exact Or.inr ⟨(wn b e).1.trans q1, (wn b e).2.trans q2, fun q0 => ⟨mono _ (q3 q0).1, fun j j1 j2 => mono _ ((q3 q0).2 j j1 j2)⟩⟩
        · rw [I5.1]; exact nI_le (Nat.le_refl _) (by omega)
      | succ k ihk =>
        intro j v5 hj hij m5 f5 g5 n5 p5
        have I5 : e_In N D Bd sp v5 := hI.fr hN (fun b hb => f5 b (by omega) (by omega))
        have hji : j ≠ i := by omega
        have hq := hqf j
        refine sg_X5_leastFor_86 hL raL kaL raO kaO ⟨fun c => ?_, fun _ => ⟨fun c => ?_, fun c => ?_⟩⟩
        · rw [I5.1] at c; exact absurd c (nI_ge (by omega) (by omega))
        · rw [zb_bit (by omega) (by omega)] at c
          have c : ¬ a / 2 ^ j % 2 = 1 := fun q => c (by rw [(q_xb hji).mpr q]; rfl)
          rw [nI_1 j]
          have e : q_f D Bd (q_P N D Bd) a i (j + 1) = q_f D Bd (q_P N D Bd) a i j := by rw [q_f, if_neg (fun z => c z.2)]
          rw [← e]
          refine ihk (j + 1) v5 (by omega) (by omega) m5 f5 g5 n5 (fun j' j1 j2 j3 => ?_)
          by_cases q : j' = j
          · subst q; exact absurd j3 c
          · exact p5 j' j1 (by omega) j3
        · rw [zb_bit (by omega) (by omega)] at c
          have c : (a ^^^ 2 ^ i) / 2 ^ j % 2 = 1 := (nI_eq (b := 1) (by omega) (by omega)).mp c
          have c2 : a / 2 ^ j % 2 = 1 := (q_xb hji).mp c
          have hl2 := q_lt c
          have hc2 := (q_cn_x c 14).2 (by omega)
          have hD := ((hI.2 i hi).2.2.2.2 j (by omega)).2
          have hP2 := hPle (a ^^^ 2 ^ i ^^^ 2 ^ j) (by omega)
          refine sp_X5_between hL hN I5 hi (by omega) ⟨_, rfl, rfl, ?_⟩
          rw [zb_1 (by omega), nx_xor, nI_1 dp, nI_1 j]
          have hvw : vp_in (nI (a ^^^ 2 ^ i ^^^ 2 ^ j)) (z_l S aO) := vp_in_nI (by omega) (by omega)
          have cw : (nI (a ^^^ 2 ^ i ^^^ 2 ^ j)).toNatClampNeg = a ^^^ 2 ^ i ^^^ 2 ^ j := nI_clamp (by omega)
          have hq1 : q_f D Bd (q_P N D Bd) a i (j + 1) = (if D i j + (q_P N D Bd (a ^^^ 2 ^ i ^^^ 2 ^ j)).1 < (q_f D Bd (q_P N D Bd) a i j).1 then (D i j + (q_P N D Bd (a ^^^ 2 ^ i ^^^ 2 ^ j)).1, (q_P N D Bd (a ^^^ 2 ^ i ^^^ 2 ^ j)).2)
       else if D i j + (q_P N D Bd (a ^^^ 2 ^ i ^^^ 2 ^ j)).1 = (q_f D Bd (q_P N D Bd) a i j).1 then ((q_f D Bd (q_P N D Bd) a i j).1, (q_f D Bd (q_P N D Bd) a i j).2 + (q_P N D Bd (a ^^^ 2 ^ i ^^^ 2 ^ j)).2) else q_f D Bd (q_P N D Bd) a i j) := by rw [q_f, if_pos ⟨hji, c2⟩]
          refine ihc (q_cn (a ^^^ 2 ^ i ^^^ 2 ^ j) 14) (by omega) (a ^^^ 2 ^ i ^^^ 2 ^ j) (dp + 1) d v5 _ rfl (by omega) (by omega) (by omega) I5 m5 (fun v6 m6 r6 s6 f6 g6 => ⟨_, rfl, rfl, ?_⟩)
          have f6' : ∀ b, b ≠ aL → b ≠ aO → v6 b = v b := fun b b1 b2 => (f6 b b1 b2).trans (f5 b b1 b2)
          have p6 : ∀ j', i < j' → j' < j + 1 → a / 2 ^ j' % 2 = 1 → ¬ v6 aL (a ^^^ 2 ^ i ^^^ 2 ^ j') = -1 := fun j' j1 j2 j3 => by
            by_cases q : j' = j
            · subst q; rw [r6]; exact nI_n1 (by omega)
            · exact g6 _ (p5 j' j1 (by omega) j3)
          rw [nI_add, cw, s6]
          refine ⟨fun c3 => ⟨fun c4 => ?_, fun c4 => ⟨hvw, ?_⟩⟩, fun c3 => ⟨fun c4 => absurd rfl c4, fun _ => ⟨hvw, ?_⟩⟩⟩
          · have c3 := (nI_leI (by omega) (by omega)).mp c3
            have c4 : ¬ D i j + (q_P N D Bd (a ^^^ 2 ^ i ^^^ 2 ^ j)).1 = (q_f D Bd (q_P N D Bd) a i j).1 := fun z => c4 (by rw [z])
            rw [if_neg (by omega), if_neg c4] at hq1
            rw [Int32.add_zero, ← hq1]
            exact ihk (j + 1) v6 (by omega) (by omega) m6 f6' (fun b hb => g6 b (g5 b hb)) (g6 _ n5) p6
          · have c3 := (nI_leI (by omega) (by omega)).mp c3
            have c4 := (nI_eq (by omega) (by omega)).mp c4
            rw [if_neg (by omega), if_pos c4] at hq1
            have := ihk (j + 1) v6 (by omega) (by omega) m6 f6' (fun b hb => g6 b (g5 b hb)) (g6 _ n5) p6
            rw [hq1] at this
            rw [nI_add]
            exact this
          · have c3 : D i j + (q_P N D Bd (a ^^^ 2 ^ i ^^^ 2 ^ j)).1 < (q_f D Bd (q_P N D Bd) a i j).1 := by
              rcases Nat.lt_or_ge (D i j + (q_P N D Bd (a ^^^ 2 ^ i ^^^ 2 ^ j)).1) (q_f D Bd (q_P N D Bd) a i j).1 with z | z
              · exact z
              · exact absurd (nI_le z (by omega)) c3
            rw [if_pos c3] at hq1
            have := ihk (j + 1) v6 (by omega) (by omega) m6 f6' (fun b hb => g6 b (g5 b hb)) (g6 _ n5) p6
            rw [hq1] at this
            rw [Int32.zero_add]
            exact this
    have k0 := q_f_lo (D := D) (Bd := Bd) (f := q_P N D Bd) hlow (i + 1) (Nat.le_refl _)
    have e0 : q_f D Bd (q_P N D Bd) a i (i + 1) = (Bd i + (q_P N D Bd (a ^^^ 2 ^ i)).1, (q_P N D Bd (a ^^^ 2 ^ i)).2) := k0
    have := key (N - (i + 1)) (i + 1) v4 (by omega) (by omega) m4 f4 g4 (by rw [r4]; exact nI_n1 (by omega)) (fun j' j1 j2 => by omega)
    rw [e0] at this
    exact this
end LF
