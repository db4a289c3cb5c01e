/-! THE CHOSEN PAIRING: the lowest one left takes its first partner that costs least; the reference's chooses -/
def q_fp (N : Nat) (D : Nat → Nat → Nat) (P : Nat → Nat × Nat) (a i : Nat) : Nat → Nat
  | 0 => N
  | k + 1 => if a / 2 ^ (N - (k + 1)) % 2 = 1 ∧ D i (N - (k + 1)) + (P (a ^^^ 2 ^ i ^^^ 2 ^ (N - (k + 1)))).1 = (P a).1 then N - (k + 1) else q_fp N D P a i k
def q_mt (N : Nat) (D : Nat → Nat → Nat) (P : Nat → Nat × Nat) : Nat → Nat → (Nat → Int32) → Nat → Int32
  | 0, _, m => m
  | k + 1, a, m => if a = 0 then m else
      (if q_fp N D P a (q_lo a) (N - (q_lo a + 1)) = N then q_mt N D P k (a ^^^ 2 ^ q_lo a) (upd m (q_lo a) (-2))
       else q_mt N D P k (a ^^^ 2 ^ q_lo a ^^^ 2 ^ q_fp N D P a (q_lo a) (N - (q_lo a + 1))) (upd (upd m (q_lo a) (nI (q_fp N D P a (q_lo a) (N - (q_lo a + 1))))) (q_fp N D P a (q_lo a) (N - (q_lo a + 1))) (nI (q_lo a))))
theorem upd_upd (m : Nat → Int32) (i : Nat) (x y : Int32) : upd (upd m i x) i y = upd m i y := by
  funext k
  by_cases e : k = i
  · simp [upd, e]
  · simp [upd, e]
theorem q_fp_ok {N : Nat} {D : Nat → Nat → Nat} {P : Nat → Nat × Nat} {a i : Nat} : ∀ k, k ≤ N → q_fp N D P a i k = N ∨ (N - k ≤ q_fp N D P a i k ∧ q_fp N D P a i k < N ∧ a / 2 ^ q_fp N D P a i k % 2 = 1)
  | 0, _ => Or.inl rfl
  | k + 1, h => by
    rw [q_fp]
    by_cases c : a / 2 ^ (N - (k + 1)) % 2 = 1 ∧ D i (N - (k + 1)) + (P (a ^^^ 2 ^ i ^^^ 2 ^ (N - (k + 1)))).1 = (P a).1
    · rw [if_pos c]; exact Or.inr ⟨Nat.le_refl _, by omega, c.1⟩
    · rw [if_neg c]
      rcases q_fp_ok (N := N) (D := D) (P := P) (a := a) (i := i) k (by omega) with z | ⟨z1, z2, z3⟩
      · exact Or.inl z
      · exact Or.inr ⟨by omega, z2, z3⟩
theorem q_cn_pos {a : Nat} (h : q_cn a 14 = 0) (ha : a < 16384) : a = 0 := by
  rcases Nat.eq_zero_or_pos a with z | z
  · exact z
  · have l := q_lo_ok z ha
    have := (q_cn_x l.1.1 14).2 l.2
    omega
section CH
variable {G : z_G} {d : Nat} {S : z_Shp} {v v0 : z_Dat} {Q : Option Value → z_Shp → z_Dat → Prop} {N : Nat} {D : Nat → Nat → Nat} {Bd : Nat → Nat} {P : Nat → Nat × Nat}
theorem sp_X11_chooses (hd : 3 ≤ d) (hL : z_L S) (hN : N ≤ 14) (hI : q_In N D Bd v) (hT : q_Tb P v (2 ^ N))
    (h : ∀ v1, v1 247 = q_mt N D P 14 (2 ^ N - 1) (v 247) → (∀ b, b ≠ 247 → v1 b = v b) → Q none S v1) : z_J G d mX11_chooses (0, [.ref 223, .null, .null, .null], [], S, v) Q := by
  obtain ⟨d, rfl⟩ : ∃ e, d = e + 1 := ⟨d - 1, by omega⟩
  have h2N : 2 ^ N ≤ 16384 := Nat.pow_le_pow_right (n := 2) (by omega) hN
  have h2p : 0 < 2 ^ N := Nat.pow_pos (by omega)
  have key : ∀ k a v1, q_cn a 14 ≤ k → a < 2 ^ N → (∀ b, b ≠ 247 → v1 b = v b) → q_mt N D P k a (v1 247) = q_mt N D P 14 (2 ^ N - 1) (v 247) → z_J G (d + 1) mX11_chooses (9, [.ref 223, .int (nI a), .null, .null], [], S, v1) Q := by
    intro k
    induction k with
    | zero =>
      intro a v1 hk ha k1 k2
      have : a = 0 := q_cn_pos (by omega) (by omega)
      subst this
      exact sg_X11_chooses_9 hL ⟨fun _ => h v1 k2 k1, fun c => absurd rfl c⟩
    | succ k ih =>
      intro a v1 hk ha k1 k2
      have I1 : q_In N D Bd v1 := by unfold q_In; rw [k1 223 (by omega), k1 246 (by omega)]; exact hI
      have T1 : q_Tb P v1 (2 ^ N) := by unfold q_Tb; rw [k1 244 (by omega), k1 245 (by omega)]; exact hT
      have T2 : q_Tb P v1 a := fun b hb => T1 b (by omega)
      by_cases e0 : a = 0
      · subst e0
        rw [q_mt, if_pos rfl] at k2
        exact sg_X11_chooses_9 hL ⟨fun _ => h v1 k2 k1, fun c => absurd rfl c⟩
      · rw [q_mt, if_neg e0] at k2
        obtain ⟨⟨hb, hlow⟩, hi14⟩ := q_lo_ok (a := a) (by omega) (by omega)
        have hi := q_bN ha hb
        refine sg_X11_chooses_9 hL ⟨fun c => absurd c (nI_ne0 (by omega) (by omega)), fun _ => sp_X11_lowest (by omega) (by omega) (by omega) ⟨_, rfl, rfl, ?_⟩⟩
        generalize q_lo a = i at *
        have ca : (nI a).toNatClampNeg = a := nI_clamp (by omega)
        have ci : (nI i).toNatClampNeg = i := nI_clamp (by omega)
        have hl := q_lt hb
        have hc1 := (q_cn_x hb 14).2 (by omega)
        have hvi : vp_in (nI i) 14 := vp_in_nI (by omega) (by omega)
        have scan : ∀ m, i + 1 + m ≤ N → q_fp N D P a i (N - (i + 1)) = q_fp N D P a i m → z_J G (d + 1) mX11_chooses (22, [.ref 223, .int (nI a), .int (nI i), .int (nI (N - m))], [], S, v1) Q := by
          intro m
          induction m with
          | zero =>
            intro hm hq
            rw [q_fp] at hq
            rw [hq, if_pos rfl] at k2
            refine sg_X11_chooses_22 hL ⟨fun _ => ⟨hvi, fun v2 e2 => ⟨fun c => ?_, fun _ => ?_⟩⟩, fun c => absurd ?_ c⟩
            · refine absurd ?_ c
              rw [e2, z_un (by omega), I1.1]; rfl
            · rw [q_clr (by omega) (by omega) hb]
              rw [ci] at e2
              refine ih (a ^^^ 2 ^ i) v2 (by omega) (by omega) (fun b b1 => by rw [e2, z_u_ne b1]; exact k1 b b1) ?_
              rw [e2, z_u_eq]; exact k2
            · rw [I1.1]; exact nI_le (Nat.le_refl _) (by omega)
          | succ m ihm =>
            intro hm hq
            rw [q_fp] at hq
            have hj : N - (m + 1) < N := by omega
            have hnx : nI (N - (m + 1)) + 1 = nI (N - m) := by rw [nI_1]; congr 1; omega
            generalize hjj : N - (m + 1) = j at *
            have hji : j ≠ i := by omega
            refine sg_X11_chooses_22 hL ⟨fun c => ?_, fun _ => ⟨fun c => ?_, fun c => ?_⟩⟩
            · rw [I1.1] at c; exact absurd c (nI_ge (by omega) (by omega))
            · rw [zb_bit (by omega) (by omega)] at c
              have c : a / 2 ^ j % 2 = 1 := (nI_eq (b := 1) (by omega) (by omega)).mp c
              have hb2 : (a ^^^ 2 ^ i) / 2 ^ j % 2 = 1 := (q_xb hji).mpr c
              have hl2 := q_lt hb2
              have hc2 := (q_cn_x hb2 14).2 (by omega)
              have t2 := T1 (a ^^^ 2 ^ i ^^^ 2 ^ j) (by omega)
              have t3 := T1 a ha
              have hcn := q_cn_le a 14
              have hD := ((I1.2 i hi).2.2 j hj).2
              refine sp_X11_costOf_j hL hN (by omega) hi hb hj hji c I1 T2 ⟨_, rfl, rfl, vp_in_nI (by omega) (by omega), fun c2 => ⟨hvi, fun v5 e5 => ⟨fun _ => ⟨hvi, fun v6 e6 => ⟨vp_in_nI (by omega) (by omega), fun v7 e7 => ?_⟩⟩, fun c3 => ?_⟩⟩, fun c2 => ?_⟩
              · rw [ca, t3.1] at c2
                have c2 := (nI_eq (by omega) (by omega)).mp c2
                rw [if_pos ⟨c, c2⟩] at hq
                rw [hq, if_neg (by omega)] at k2
                rw [q_clr (by omega) (by omega) hb, q_clr (by omega) (by omega) hb2]
                rw [ci] at e5 e6
                rw [nI_clamp (by omega)] at e7
                refine ih (a ^^^ 2 ^ i ^^^ 2 ^ j) v7 (by omega) (by omega) (fun b b1 => by rw [e7, z_u_ne b1, e6, z_u_ne b1, e5, z_u_ne b1]; exact k1 b b1) ?_
                rw [e7, z_u_eq, e6, z_u_eq, e5, z_u_eq, upd_upd]; exact k2
              · rw [e5, z_un (by omega), I1.1] at c3
                have := (nI_eq (by omega) (by omega)).mp c3
                omega
              · rw [ca, t3.1] at c2
                rw [if_neg (fun z => c2 (by rw [z.2]))] at hq
                rw [hnx]
                exact ihm (by omega) hq
            · rw [zb_bit (by omega) (by omega)] at c
              rw [if_neg (fun z => c (by rw [z.1]; rfl))] at hq
              rw [hnx]
              exact ihm (by omega) hq
        have := scan (N - (i + 1)) (by omega) rfl
        rw [show N - (N - (i + 1)) = i + 1 by omega] at this
        rw [nI_1]
        exact this
  refine sg_X11_chooses_0 hL ?_
  rw [hI.1, zb_1 (by omega), show nI (2 ^ N) - 1 = nI (2 ^ N - 1) by
    obtain ⟨p, hp⟩ : ∃ p, 2 ^ N = p + 1 := ⟨2 ^ N - 1, by omega⟩
    rw [hp, nI_pred]; rfl]
  exact key 14 (2 ^ N - 1) v (q_cn_le _ 14) (by omega) (fun _ _ => rfl) rfl
end CH
