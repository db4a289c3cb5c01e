/-! a word on the tape; the reference's wordHere, kind -/
def t_wd (τ : Nat → Nat) : Nat → Nat → Nat
  | 0, p => p
  | f + 1, p => if 97 ≤ τ p ∧ τ p ≤ 122 then t_wd τ f (p + 1) else p
def t_w (τ : Nat → Nat) (L p : Nat) : Nat := t_wd τ (L - p) p
theorem t_w_e {τ : Nat → Nat} {L p : Nat} (h : L ≤ p) : t_w τ L p = p := by unfold t_w; rw [show L - p = 0 by omega]; rfl
theorem t_w_n {τ : Nat → Nat} {L p : Nat} (h : p < L) (h1 : 97 ≤ τ p ∧ τ p ≤ 122) : t_w τ L p = t_w τ L (p + 1) := by
  unfold t_w
  rw [show L - p = (L - (p + 1)) + 1 by omega, t_wd, if_pos h1]
theorem t_w_h {τ : Nat → Nat} {L p : Nat} (h : p < L) (h1 : ¬ (97 ≤ τ p ∧ τ p ≤ 122)) : t_w τ L p = p := by
  unfold t_w
  rw [show L - p = (L - (p + 1)) + 1 by omega, t_wd, if_neg h1]
theorem t_w_le {τ : Nat → Nat} {L : Nat} : ∀ f p, p + f = L → p ≤ t_w τ L p ∧ t_w τ L p ≤ L
  | 0, p, h => by rw [t_w_e (show L ≤ p by omega)]; omega
  | f + 1, p, h => by
    by_cases z : 97 ≤ τ p ∧ τ p ≤ 122
    · rw [t_w_n (by omega) z]
      have := t_w_le (τ := τ) (L := L) f (p + 1) (by omega)
      omega
    · rw [t_w_h (by omega) z]; omega
/-- the eight words -/
def t_W : List (List Nat) := [[98, 105, 116], [112, 104, 97, 115, 101], [98, 111, 116, 104], [109, 105, 115, 115], [114, 111, 117, 110, 100], [119, 101, 105, 103, 104], [108, 97, 116, 101], [97, 103, 97, 105, 110]]
def t_O : List Nat := [0, 4, 10, 15, 20, 26, 32, 37, 43]
/-- how far the letters from q fit a word -/
def t_ma (τ : Nat → Nat) (q e : Nat) (W : List Nat) : Nat → Bool
  | 0 => true
  | t + 1 => t_ma τ q e W t && (decide (q + t < e) && decide (τ (q + t) = W.getD t 0))
def t_m (τ : Nat → Nat) (q e : Nat) (W : List Nat) : Bool := t_ma τ q e W W.length && decide (q + W.length = e)
/-- the first of the words from the j-th on that stands there; 8: none -/
def t_wf (τ : Nat → Nat) (q e : Nat) : Nat → Nat → Nat
  | 0, _ => 8
  | f + 1, j => if t_m τ q e (t_W.getD j []) = true then j else t_wf τ q e f (j + 1)
def t_kw (τ : Nat → Nat) (q e : Nat) : Nat := t_wf τ q e 8 0
theorem t_wf_le {τ : Nat → Nat} {q e : Nat} : ∀ f j, j + f = 8 → t_wf τ q e f j ≤ 8
  | 0, j, _ => Nat.le_refl _
  | f + 1, j, h => by
    rw [t_wf]
    split
    · omega
    · exact t_wf_le f (j + 1) (by omega)
def t_wok (j : Nat) : Bool := (List.range (t_W.getD j []).length).all (fun t => decide (z_wd.getD (t_O.getD j 0 + t) 0 = nI ((t_W.getD j []).getD t 0)) && decide (97 ≤ (t_W.getD j []).getD t 0) && decide ((t_W.getD j []).getD t 0 ≤ 122)) && decide (z_wd.getD (t_O.getD j 0 + (t_W.getD j []).length) 0 = 32) && decide (t_O.getD j 0 + (t_W.getD j []).length + 1 = t_O.getD (j + 1) 0) && decide (t_O.getD (j + 1) 0 ≤ 43) && decide ((t_W.getD j []).length ≤ 5)
theorem t_wok_all : ∀ j, j < 8 → t_wok j = true := by decide
theorem t_wo {j : Nat} (h : j < 8) : (∀ t, t < (t_W.getD j []).length → z_wd.getD (t_O.getD j 0 + t) 0 = nI ((t_W.getD j []).getD t 0) ∧ 97 ≤ (t_W.getD j []).getD t 0 ∧ (t_W.getD j []).getD t 0 ≤ 122) ∧ z_wd.getD (t_O.getD j 0 + (t_W.getD j []).length) 0 = 32 ∧ t_O.getD j 0 + (t_W.getD j []).length + 1 = t_O.getD (j + 1) 0 ∧ t_O.getD (j + 1) 0 ≤ 43 ∧ (t_W.getD j []).length ≤ 5 := by
  have := t_wok_all j h
  unfold t_wok at this
  rw [Bool.and_eq_true, Bool.and_eq_true, Bool.and_eq_true, Bool.and_eq_true, List.all_eq_true] at this
  obtain ⟨⟨⟨⟨h1, h2⟩, h3⟩, h4⟩, h5⟩ := this
  refine ⟨fun t ht => ?_, of_decide_eq_true h2, of_decide_eq_true h3, of_decide_eq_true h4, of_decide_eq_true h5⟩
  have := h1 t (List.mem_range.mpr ht)
  rw [Bool.and_eq_true, Bool.and_eq_true] at this
  exact ⟨of_decide_eq_true this.1.1, of_decide_eq_true this.1.2, of_decide_eq_true this.2⟩
def t_bI (b : Bool) : Int32 := if b = true then 1 else 0
section WH
variable {G : z_G} {d : Nat} {S : z_Shp} {v v0 : z_Dat} {Q : Option Value → z_Shp → z_Dat → Prop} {τ : Nat → Nat} {L p q e : Nat}
theorem sp_X11_wordHere_64 (hL : z_L S) (hT : m_Ts2 v τ L) (hq : q ≤ e) (he : e ≤ L)
    (h1 : ∀ v1, t_kw τ q e < 8 → v1 = z_u v 223 23 (nI e) → Q (some (.int (nI (t_kw τ q e)))) S v1)
    (h0 : t_kw τ q e = 8 → Q (some (.int (-1))) S v) : z_J G d mX11_wordHere (64, [.ref 223, .int (nI q), .int (nI e), .int 0, .int (nI q), .int 1, .int 0], [], S, v) Q := by
  have hl := hT.2.1
  have key : ∀ f j, j + f = 8 → t_wf τ q e f j = t_kw τ q e → z_J G d mX11_wordHere (64, [.ref 223, .int (nI q), .int (nI e), .int (nI j), .int (nI q), .int 1, .int (nI (t_O.getD j 0))], [], S, v) Q := by
    intro f
    induction f with
    | zero =>
      intro j hj hk
      have hj : j = 8 := by omega
      subst hj
      refine sg_X11_wordHere_64 hL ⟨fun _ => h0 hk.symm, fun c => absurd (by decide) c⟩
    | succ f ih =>
      intro j hj hk
      obtain ⟨o1, o2, o3, o4, o5⟩ := t_wo (show j < 8 by omega)
      rw [t_wf] at hk
      have nx := ih (j + 1) (by omega)
      rw [← o3] at nx
      unfold t_m at hk
      generalize t_W.getD j [] = W at *
      generalize t_O.getD j 0 = o at *
      have inner : ∀ g t, t + g = W.length → z_J G d mX11_wordHere (64, [.ref 223, .int (nI q), .int (nI e), .int (nI j), .int (nI (q + t)), .int (t_bI (t_ma τ q e W t)), .int (nI (o + t))], [], S, v) Q := by
        intro g
        induction g with
        | zero =>
          intro t ht
          have ht : t = W.length := by omega
          subst ht
          refine sg_X11_wordHere_64 hL ?_
          rw [nI_clamp (n := o + W.length) (by omega), o2, nI_1 j, nI_1 (o + W.length)]
          refine ⟨fun c => absurd c (nI_ge (b := 43) (by omega) (by omega)), fun _ => ⟨vp_in_nI (by omega) (by omega), fun c => absurd rfl c, fun _ => ⟨fun c => ?_, fun c => ⟨fun c2 => ?_, fun c2 v1 e1 => ?_⟩⟩⟩⟩
          · have : t_ma τ q e W W.length = false := by
              cases hb : t_ma τ q e W W.length with
              | false => rfl
              | true => rw [hb] at c; exact absurd c (by decide)
            rw [this, Bool.false_and, if_neg (by decide)] at hk
            exact nx hk
          · have ne : ¬ (t_ma τ q e W W.length && decide (q + W.length = e)) = true := fun z => by
              rw [Bool.and_eq_true] at z
              have z2 : q + W.length = e := of_decide_eq_true z.2
              exact c2 (by rw [z2])
            rw [if_neg ne] at hk
            exact nx hk
          · have c2 := (nI_eq (by omega) (by omega)).mp c2
            have : t_ma τ q e W W.length = true := by
              cases hb : t_ma τ q e W W.length with
              | false => rw [hb] at c; exact absurd rfl c
              | true => rfl
            rw [this, Bool.true_and, if_pos (decide_eq_true c2)] at hk
            have := h1 v1 (by omega) e1
            rw [← hk] at this
            exact this
        | succ g ih2 =>
          intro t ht
          obtain ⟨w1, w2, w3⟩ := o1 t (by omega)
          have st := ih2 (t + 1) (by omega)
          rw [t_ma] at st
          have hb := hT.2.2.1 (q + t)
          refine sg_X11_wordHere_64 hL ?_
          rw [nI_clamp (n := o + t) (by omega), w1, nI_1 (q + t), nI_1 (o + t)]
          rw [← Nat.add_assoc, ← Nat.add_assoc] at st
          refine ⟨fun c => absurd c (nI_ge (b := 43) (by omega) (by omega)), fun _ => ⟨vp_in_nI (by omega) (by omega), fun _ => ⟨fun c => ?_, fun c => ?_⟩, fun c => ?_⟩⟩
          · have : t_ma τ q e W t = false := by
              cases hb : t_ma τ q e W t with
              | false => rfl
              | true => rw [hb] at c; exact absurd c (by decide)
            rw [this, Bool.false_and] at st
            exact st
          · have : t_ma τ q e W t = true := by
              cases hb : t_ma τ q e W t with
              | false => rw [hb] at c; exact absurd rfl c
              | true => rfl
            rw [this, Bool.true_and] at st
            refine ⟨fun c2 => ?_, fun c2 => ?_⟩
            · have c2 := (nI_leI (by omega) (by omega)).mp c2
              rw [decide_eq_false (by omega), Bool.false_and] at st
              exact st
            · have c2 : q + t < e := Nat.not_le.mp (fun z => c2 (nI_le z (by omega)))
              rw [decide_eq_true c2, Bool.true_and] at st
              rw [nI_clamp (n := q + t) (by omega), hT.2.2.2 (q + t) (by omega), b_s_eq hb (by omega)]
              refine ⟨vp_in_nI (by omega) (by omega), vp_in_nI (by omega) (by omega), fun c3 => ?_, fun c3 => ?_⟩
              · rw [decide_eq_false c3] at st; exact st
              · rw [decide_eq_true c3] at st; exact st
          · exact absurd ((nI_eq (b := 32) (by omega) (by omega)).mp c) (by omega)
      exact inner _ 0 (Nat.zero_add _)
  exact key 8 0 rfl rfl
end WH
