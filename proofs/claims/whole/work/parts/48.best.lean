/-! THE BEST PAIRING of a set, from those of smaller sets; the reference's costOf and best -/
def q_f (D : Nat → Nat → Nat) (Bd : Nat → Nat) (f : Nat → Nat × Nat) (a i : Nat) : Nat → Nat × Nat
  | 0 => (Bd i + (f (a ^^^ 2 ^ i)).1, (f (a ^^^ 2 ^ i)).2)
  | j + 1 => if j ≠ i ∧ a / 2 ^ j % 2 = 1 then
      (if D i j + (f (a ^^^ 2 ^ i ^^^ 2 ^ j)).1 < (q_f D Bd f a i j).1 then (D i j + (f (a ^^^ 2 ^ i ^^^ 2 ^ j)).1, (f (a ^^^ 2 ^ i ^^^ 2 ^ j)).2)
       else if D i j + (f (a ^^^ 2 ^ i ^^^ 2 ^ j)).1 = (q_f D Bd f a i j).1 then ((q_f D Bd f a i j).1, (q_f D Bd f a i j).2 + (f (a ^^^ 2 ^ i ^^^ 2 ^ j)).2) else q_f D Bd f a i j)
      else q_f D Bd f a i j
theorem q_f_le {D : Nat → Nat → Nat} {Bd : Nat → Nat} {f : Nat → Nat × Nat} {a i : Nat} : ∀ j, (q_f D Bd f a i j).1 ≤ Bd i + (f (a ^^^ 2 ^ i)).1
  | 0 => Nat.le_refl _
  | j + 1 => by
    have ih := q_f_le (D := D) (Bd := Bd) (f := f) (a := a) (i := i) j
    rw [q_f]
    split
    · split
      · show D i j + (f (a ^^^ 2 ^ i ^^^ 2 ^ j)).1 ≤ _
        omega
      · split
        · exact ih
        · exact ih
    · exact ih
theorem q_cn_le (a : Nat) : ∀ n, q_cn a n ≤ n
  | 0 => Nat.le_refl _
  | n + 1 => by
    have := q_cn_le a n
    rw [q_cn]
    split <;> omega
theorem q_bN {a j N : Nat} (h : a < 2 ^ N) (hb : a / 2 ^ j % 2 = 1) : j < N := by
  rcases Nat.lt_or_ge j N with z | z
  · exact z
  · rw [Nat.div_eq_of_lt (Nat.lt_of_lt_of_le h (Nat.pow_le_pow_right (by omega) z))] at hb
    omega
def q_In (N : Nat) (D : Nat → Nat → Nat) (Bd : Nat → Nat) (v : z_Dat) : Prop := v 223 33 = nI N ∧ ∀ i, i < N → (v 246 (15 * i) = nI (Bd i) ∧ Bd i ≤ 120 ∧ ∀ j, j < N → (v 246 (15 * i + j + 1) = nI (D i j) ∧ D i j ≤ 120))
def q_Tb (f : Nat → Nat × Nat) (v : z_Dat) (a : Nat) : Prop := ∀ b, b < a → (v 244 b = nI (f b).1 ∧ v 245 b = nI (f b).2 ∧ (f b).1 ≤ 120 * q_cn b 14)
theorem i_m1 (x : Int32) : x + -1 + 1 = x := by rw [Int32.add_assoc, show (-1 : Int32) + 1 = 0 by decide, Int32.add_zero]
section BE
variable {G : z_G} {d : Nat} {S : z_Shp} {v v0 : z_Dat} {Q : Option Value → z_Shp → z_Dat → Prop} {N a i : Nat} {D : Nat → Nat → Nat} {Bd : Nat → Nat} {f : Nat → Nat × Nat}
theorem sp_X11_costOf_b (hL : z_L S) (hN : N ≤ 14) (ha : a < 16384) (hi : i < N) (hb : a / 2 ^ i % 2 = 1) (hI : q_In N D Bd v) (hT : q_Tb f v a) (h : Q (some (.int (nI (Bd i + (f (a ^^^ 2 ^ i)).1)))) S v) : z_J G d mX11_costOf (0, [.ref 223, .int (nI a), .int (nI i), .int (-1)], [], S, v) Q := by
  have hl := q_lt hb
  refine sg_X11_costOf_0 hL ?_
  rw [i_m1, show (15 : Int32) = nI 15 from rfl, pk_mul, q_clr (by omega) (by omega) hb, q_clr0 (by omega), nI_clamp (by omega), nI_clamp (by omega), (hI.2 i hi).1, (hT _ hl).1, nI_add]
  exact ⟨vp_in_nI (by omega) (by omega), fun c => absurd c (by decide), fun _ => ⟨vp_in_nI (by omega) (by omega), h⟩⟩
theorem sp_X11_costOf_j {j : Nat} (hL : z_L S) (hN : N ≤ 14) (ha : a < 16384) (hi : i < N) (hb : a / 2 ^ i % 2 = 1) (hj : j < N) (hne : j ≠ i) (hbj : a / 2 ^ j % 2 = 1) (hI : q_In N D Bd v) (hT : q_Tb f v a) (h : Q (some (.int (nI (D i j + (f (a ^^^ 2 ^ i ^^^ 2 ^ j)).1)))) S v) : z_J G d mX11_costOf (0, [.ref 223, .int (nI a), .int (nI i), .int (nI j)], [], S, v) Q := by
  have hl := q_lt hb
  have hb2 : (a ^^^ 2 ^ i) / 2 ^ j % 2 = 1 := (q_xb hne).mpr hbj
  have hl2 := q_lt hb2
  refine sg_X11_costOf_0 hL ?_
  rw [show (15 : Int32) = nI 15 from rfl, pk_mul, nI_add, nI_1, q_clr (by omega) (by omega) hb, q_clr (by omega) (by omega) hb2, nI_clamp (by omega), nI_clamp (by omega), ((hI.2 i hi).2.2 j hj).1, (hT _ (by omega)).1, nI_add]
  exact ⟨vp_in_nI (by omega) (by omega), fun _ => ⟨vp_in_nI (by omega) (by omega), h⟩, fun c => absurd (nI_pos' (by omega)) c⟩
theorem sp_X11_best (hd : 2 ≤ d) (hL : z_L S) (hN : N ≤ 14) (h0 : 0 < a) (ha : a < 2 ^ N) (hI : q_In N D Bd v) (hT : q_Tb f v a)
    (h : ∀ v1, v1 244 a = nI (q_f D Bd f a (q_lo a) N).1 → v1 245 a = nI (q_f D Bd f a (q_lo a) N).2 → (∀ b, b ≠ 244 → b ≠ 245 → v1 b = v b) → (∀ b, b ≠ a → v1 244 b = v 244 b ∧ v1 245 b = v 245 b) → Q none S v1) : z_J G d mX11_best (0, [.ref 223, .int (nI a), .null, .null, .null, .null], [], S, v) Q := by
  obtain ⟨d, rfl⟩ : ∃ e, d = e + 1 := ⟨d - 1, by omega⟩
  have ha2 : a < 16384 := Nat.lt_of_lt_of_le ha (Nat.pow_le_pow_right (n := 2) (by omega) hN)
  obtain ⟨⟨hb, hlow⟩, hi14⟩ := q_lo_ok h0 ha2
  have hi := q_bN ha hb
  generalize hlo : q_lo a = i at *
  have ca : (nI a).toNatClampNeg = a := nI_clamp (by omega)
  have hl := q_lt hb
  have hcn := q_cn_le a 14
  have hc1 := (q_cn_x hb 14).2 (by omega)
  have t1 := (hT _ hl).2.2
  have hBd := (hI.2 i hi).2.1
  have hqf : ∀ j, (q_f D Bd f a i j).1 ≤ 1680 := fun j => by
    have := q_f_le (D := D) (Bd := Bd) (f := f) (a := a) (i := i) j
    omega
  have tr : ∀ v1 : z_Dat, (∀ b, b ≠ 244 → b ≠ 245 → v1 b = v b) → (∀ b, b ≠ a → v1 244 b = v 244 b ∧ v1 245 b = v 245 b) → q_In N D Bd v1 ∧ q_Tb f v1 a := fun v1 k1 k2 => by
    constructor
    · unfold q_In; rw [k1 223 (by omega) (by omega), k1 246 (by omega) (by omega)]; exact hI
    · intro b hb2
      rw [(k2 b (by omega)).1, (k2 b (by omega)).2]; exact hT b hb2
  have key : ∀ k j v1, j + k = N → v1 244 a = nI (q_f D Bd f a i j).1 → v1 245 a = nI (q_f D Bd f a i j).2 → (∀ b, b ≠ 244 → b ≠ 245 → v1 b = v b) → (∀ b, b ≠ a → v1 244 b = v 244 b ∧ v1 245 b = v 245 b) → z_J G (d + 1) mX11_best (23, [.ref 223, .int (nI a), .int (nI i), .int (nI j), .null, .null], [], S, v1) Q := by
    intro k
    induction k with
    | zero =>
      intro j v1 hj w1 w2 k1 k2
      have hj : j = N := by omega
      subst hj
      refine sg_X11_best_23 hL ⟨fun _ => h v1 w1 w2 k1 k2, fun c => absurd ?_ c⟩
      rw [(tr v1 k1 k2).1.1]; exact nI_le (Nat.le_refl _) (by omega)
    | succ k ih =>
      intro j v1 hj w1 w2 k1 k2
      obtain ⟨I1, T1⟩ := tr v1 k1 k2
      have hq := hqf j
      refine sg_X11_best_23 hL ⟨fun c => ?_, fun _ => ⟨fun c => absurd c (nI_pos (by omega)), fun _ => ⟨fun c => ?_, fun c => ⟨fun c2 => ?_, fun c2 => ?_⟩⟩⟩⟩
      · rw [I1.1] at c; exact absurd c (nI_ge (by omega) (by omega))
      · have c := (nI_eq (by omega) (by omega)).mp c
        rw [nI_1]
        refine ih (j + 1) v1 (by omega) ?_ ?_ k1 k2
        · rw [q_f, if_neg (fun z => z.1 c)]; exact w1
        · rw [q_f, if_neg (fun z => z.1 c)]; exact w2
      · have c : j ≠ i := fun z => c (by rw [z])
        rw [zb_bit (by omega) (by omega)] at c2
        have c2 : a / 2 ^ j % 2 = 1 := (nI_eq (b := 1) (by omega) (by omega)).mp c2
        have hb2 : (a ^^^ 2 ^ i) / 2 ^ j % 2 = 1 := (q_xb c).mpr c2
        have hl2 := q_lt hb2
        have hc2 := (q_cn_x hb2 14).2 (by omega)
        have t2 := (T1 _ (show a ^^^ 2 ^ i ^^^ 2 ^ j < a by omega))
        have hD := ((I1.2 i hi).2.2 j (by omega)).2
        refine sp_X11_costOf_j hL hN ha2 hi hb (by omega) c c2 I1 T1 ⟨_, rfl, rfl, fun _ => ?_, fun c => absurd (nI_pos' (by omega)) c⟩
        rw [q_clr (by omega) (by omega) hb, q_clr (by omega) (by omega) hb2, ca, nI_clamp (n := a ^^^ 2 ^ i ^^^ 2 ^ j) (by omega), t2.2.1, w1, w2, nI_1]
        have hva : vp_in (nI a) 16384 := vp_in_nI (by omega) (by omega)
        have hq1 : q_f D Bd f a i (j + 1) = (if D i j + (f (a ^^^ 2 ^ i ^^^ 2 ^ j)).1 < (q_f D Bd f a i j).1 then (D i j + (f (a ^^^ 2 ^ i ^^^ 2 ^ j)).1, (f (a ^^^ 2 ^ i ^^^ 2 ^ j)).2)
       else if D i j + (f (a ^^^ 2 ^ i ^^^ 2 ^ j)).1 = (q_f D Bd f a i j).1 then ((q_f D Bd f a i j).1, (q_f D Bd f a i j).2 + (f (a ^^^ 2 ^ i ^^^ 2 ^ j)).2) else q_f D Bd f a i j) := by rw [q_f, if_pos ⟨c, c2⟩]
        refine ⟨vp_in_nI (by omega) (by omega), hva, fun c3 => ⟨hva, fun c4 => ?_, fun c4 => ⟨hva, hva, fun v9 e9 => ?_⟩⟩, fun c3 => ⟨hva, fun v10 e10 => ⟨hva, fun v11 e11 => ?_⟩⟩⟩
        · have c3 := (nI_leI (by omega) (by omega)).mp c3
          have c4 : ¬ D i j + (f (a ^^^ 2 ^ i ^^^ 2 ^ j)).1 = (q_f D Bd f a i j).1 := fun z => c4 (by rw [z])
          rw [if_neg (by omega), if_neg c4] at hq1
          exact ih (j + 1) v1 (by omega) (by rw [hq1]; exact w1) (by rw [hq1]; exact w2) k1 k2
        · have c3 := (nI_leI (by omega) (by omega)).mp c3
          have c4 := (nI_eq (by omega) (by omega)).mp c4
          rw [if_neg (by omega), if_pos c4] at hq1
          rw [nI_add] at e9
          refine ih (j + 1) v9 (by omega) ?_ ?_ (fun b b1 b2 => ?_) (fun b hb3 => ⟨?_, ?_⟩)
          · rw [hq1, e9, z_un (by omega)]; exact w1
          · rw [hq1, e9, z_ue rfl rfl]
          · rw [e9, z_u_ne b2]; exact k1 b b1 b2
          · rw [e9, z_un (by omega)]; exact (k2 b hb3).1
          · rw [e9, z_un (by omega)]; exact (k2 b hb3).2
        · have c3 : D i j + (f (a ^^^ 2 ^ i ^^^ 2 ^ j)).1 < (q_f D Bd f a i j).1 := by
            rcases Nat.lt_or_ge (D i j + (f (a ^^^ 2 ^ i ^^^ 2 ^ j)).1) (q_f D Bd f a i j).1 with z | z
            · exact z
            · exact absurd (nI_le z (by omega)) c3
          rw [if_pos c3] at hq1
          refine ih (j + 1) v11 (by omega) ?_ ?_ (fun b b1 b2 => ?_) (fun b hb3 => ⟨?_, ?_⟩)
          · rw [hq1, e11, z_un (by omega), e10, z_ue rfl rfl]
          · rw [hq1, e11, z_ue rfl rfl]
          · rw [e11, z_u_ne b2, e10, z_u_ne b1]; exact k1 b b1 b2
          · rw [e11, z_un (by omega), e10, z_un (by omega)]; exact (k2 b hb3).1
          · rw [e11, z_un (by omega), e10, z_un (by omega)]; exact (k2 b hb3).2
      · rw [zb_bit (by omega) (by omega)] at c2
        have c2 : ¬ a / 2 ^ j % 2 = 1 := fun z => c2 (by rw [z]; rfl)
        rw [nI_1]
        refine ih (j + 1) v1 (by omega) ?_ ?_ k1 k2
        · rw [q_f, if_neg (fun z => c2 z.2)]; exact w1
        · rw [q_f, if_neg (fun z => c2 z.2)]; exact w2
  have hva : vp_in (nI a) 16384 := vp_in_nI (by omega) (by omega)
  refine sg_X11_best_0 hL (sp_X11_lowest (by omega) h0 ha2 ⟨_, rfl, rfl, hva, fun v2 e2 => ⟨hva, fun v3 e3 => ?_⟩⟩)
  rw [hlo]
  rw [ca] at e2 e3
  have k1 : ∀ b, b ≠ 244 → b ≠ 245 → v3 b = v b := fun b b1 b2 => by rw [e3, z_u_ne b2, e2, z_u_ne b1]
  have k2 : ∀ b, b ≠ a → v3 244 b = v 244 b ∧ v3 245 b = v 245 b := fun b hb3 => ⟨by rw [e3, z_un (by omega), e2, z_un (by omega)], by rw [e3, z_un (by omega), e2, z_un (by omega)]⟩
  obtain ⟨I1, T1⟩ := tr v3 k1 k2
  have w1 : v3 244 a = nI 1000000 := by rw [e3, z_un (by omega), e2, z_ue rfl rfl]; rfl
  refine sg_X11_best_23 hL ⟨fun c => ?_, fun _ => ⟨fun _ => ?_, fun c => absurd (by decide) c⟩⟩
  · rw [I1.1] at c
    exact absurd (Int32.le_trans (nI_pos' (by omega)) c) (by decide)
  · refine sp_X11_costOf_b hL hN ha2 hi hb I1 T1 ⟨_, rfl, rfl, fun c => absurd c (by decide), fun _ => ?_⟩
    rw [q_clr (by omega) (by omega) hb, q_clr0 (by omega), ca, nI_clamp (n := a ^^^ 2 ^ i) (by omega), (T1 _ hl).2.1, w1]
    refine ⟨vp_in_nI (by omega) (by omega), hva, fun c => absurd c (nI_ge (by omega) (by omega)), fun _ => ⟨hva, fun v10 e10 => ⟨hva, fun v11 e11 => ?_⟩⟩⟩
    refine key N 0 v11 (by omega) ?_ ?_ (fun b b1 b2 => ?_) (fun b hb3 => ⟨?_, ?_⟩)
    · rw [e11, z_un (by omega), e10, z_ue rfl rfl]; rfl
    · rw [e11, z_ue rfl rfl]; rfl
    · rw [e11, z_u_ne b2, e10, z_u_ne b1]; exact k1 b b1 b2
    · rw [e11, z_un (by omega), e10, z_un (by omega)]; exact (k2 b hb3).1
    · rw [e11, z_un (by omega), e10, z_un (by omega)]; exact (k2 b hb3).2
end BE
