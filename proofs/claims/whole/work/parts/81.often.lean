/-! often: both sides -/
theorem p_sd_c {E X q : Nat} {ρ : Nat → Nat} : (p_sd E X q ρ).2 ≤ 2 := by
  unfold p_sd
  split
  · split
    · show 1 ≤ 2; omega
    · split
      · show 1 ≤ 2; omega
      · show 2 ≤ 2; omega
  · show 0 ≤ 2; omega
theorem p_qn_c {N : p_N} {E : Nat} {st : p_st} : ∀ q, (p_qn N E st q).2.2 ≤ st.2.2 + 2 * q
  | 0 => Nat.le_refl _
  | q + 1 => by
    have ih := p_qn_c (N := N) (E := E) (st := st) q
    have h2 := p_sd_c (E := E) (X := N.2 (N.1 (p_qn N E st q).2.1)) (q := q) (ρ := (p_qn N E st q).1)
    show (p_qn N E st q).2.2 + (p_sd E (N.2 (N.1 (p_qn N E st q).2.1)) q (p_qn N E st q).1).2 ≤ _
    omega
theorem p_mn_c {N : p_N} {E κ : Nat} {st : p_st} : ∀ k, (p_mn N E κ st k).2.2 = st.2.2
  | 0 => rfl
  | k + 1 => by
    show (p_mn N E κ st k).2.2 = _
    exact p_mn_c k
theorem p_rn_c {N : p_N} {E d : Nat} {st : p_st} : ∀ t, (p_rn N E d st t).2.2 ≤ st.2.2 + 2 * (d * d) * t
  | 0 => Nat.le_refl _
  | t + 1 => by
    have ih := p_rn_c (N := N) (E := E) (d := d) (st := st) t
    have h2 := p_qn_c (N := N) (E := E) (st := p_rn N E d st t) (d * d)
    show (p_mn N E 1 (p_mn N E 0 (p_qn N E (p_rn N E d st t) (d * d)) (t_K d)) (t_K d)).2.2 ≤ _
    rw [p_mn_c, p_mn_c, Nat.mul_add, Nat.mul_one]
    omega
theorem p_lg_le (d κ s : Nat) : p_lg d κ s ≤ 1 := by unfold p_lg; omega
/-- the row of a trial, its result, how many came out odd -/
def o_s (N : p_N) (ρ : Nat → Nat) (T E : Nat) (x5 : Int32) (i : Nat) : Nat → Nat := (p_rn N E (ρ 0) (ρ, x5 + nI i, 0) T).1
noncomputable def o_1 (σ : Nat → Nat) (κ hw : Nat) : Nat := if (hw = 0 → (n_evs σ κ).length ≤ 14) then p_lg (σ 0) κ (σ (2 + κ) ^^^ n_co σ κ hw) else 0
noncomputable def o_c (N : p_N) (ρ : Nat → Nat) (κ hw T E : Nat) (x5 : Int32) : Nat → Nat
  | 0 => 0
  | i + 1 => o_c N ρ κ hw T E x5 i + o_1 (o_s N ρ T E x5 i) κ hw
theorem o_1_le {σ : Nat → Nat} {κ hw : Nat} : o_1 σ κ hw ≤ 1 := by
  unfold o_1
  split
  · exact p_lg_le _ _ _
  · omega
theorem o_c_le {N : p_N} {ρ : Nat → Nat} {κ hw T E : Nat} {x5 : Int32} : ∀ i, o_c N ρ κ hw T E x5 i ≤ i
  | 0 => Nat.le_refl _
  | i + 1 => by
    have := o_c_le (N := N) (ρ := ρ) (κ := κ) (hw := hw) (T := T) (E := E) (x5 := x5) i
    have := o_1_le (σ := o_s N ρ T E x5 i) (κ := κ) (hw := hw)
    rw [o_c]; omega
theorem o_1_re {σ : Nat → Nat} {κ hw : Nat} {y : Int32} (hh : hw < 3) (h : a_re σ κ (nI hw) y) : (y = 1 ∧ o_1 σ κ hw = 1) ∨ (y ≠ 1 ∧ o_1 σ κ hw = 0) := by
  unfold o_1
  rcases h with ⟨i, q1, q2⟩ | ⟨q1, q2⟩
  · have e : hw = i := (nI_eq (by omega) (by have := q1.1; omega)).mp q1.2.1
    subst e
    rw [if_pos q1.2.2]
    have hl := p_lg_le (σ 0) κ (σ (2 + κ) ^^^ n_co σ κ hw)
    rcases (show p_lg (σ 0) κ (σ (2 + κ) ^^^ n_co σ κ hw) = 0 ∨ p_lg (σ 0) κ (σ (2 + κ) ^^^ n_co σ κ hw) = 1 by omega) with e | e
    · rw [e] at q2 ⊢
      exact Or.inr ⟨by rw [q2]; decide, rfl⟩
    · rw [e] at q2 ⊢
      exact Or.inl ⟨q2, rfl⟩
  · rw [if_neg (fun z => q1 ⟨hw, hh, rfl, z⟩)]
    exact Or.inr ⟨by rw [q2]; decide, rfl⟩
def a_ofc (ρ : Nat → Nat) (x1 x2 x3 x4 x6 : Int32) (i : Nat × Nat × (Nat × Nat) × Nat) : Prop := i.1 < 2 ∧ x1 = nI i.1 ∧ i.2.1 < 3 ∧ x2 = nI i.2.1 ∧ a_cd ρ x3 x4 i.2.2.1 ∧ 1 ≤ i.2.2.2 ∧ i.2.2.2 ≤ 8 ∧ x6 = nI i.2.2.2
theorem a_ofc_u {ρ : Nat → Nat} {x1 x2 x3 x4 x6 : Int32} (i j : Nat × Nat × (Nat × Nat) × Nat) (h : a_ofc ρ x1 x2 x3 x4 x6 i) (g : a_ofc ρ x1 x2 x3 x4 x6 j) : i = j := by
  obtain ⟨a1, a2, a3, a4, a5, a6, a7, a8⟩ := h
  obtain ⟨b1, b2, b3, b4, b5, b6, b7, b8⟩ := g
  have e1 := (nI_eq (by omega) (by omega)).mp (a2.symm.trans b2)
  have e2 := (nI_eq (by omega) (by omega)).mp (a4.symm.trans b4)
  have e3 := a_cd_u _ _ a5 b5
  have e4 := (nI_eq (by omega) (by omega)).mp (a8.symm.trans b8)
  exact Prod.ext e1 (Prod.ext e2 (Prod.ext e3 e4))
noncomputable def a_often (N : p_N) (ρ : Nat → Nat) (x1 x2 x3 x4 x5 x6 y : Int32) : Prop := a_o (a_ofc ρ x1 x2 x3 x4 x6) (fun i => nI (o_c N ρ i.1 i.2.1 i.2.2.1.1 i.2.2.1.2 x5 i.2.2.2)) (-1) y
section OF
variable {G : z_G} {d : Nat} {S : z_Shp} {v v0 : z_Dat} {Q : Option Value → z_Shp → z_Dat → Prop} {ρ : Nat → Nat} {B : Nat × Nat × Nat} {n : Nat} {r : Nat → Nat → Nat} {x1 x2 x3 x4 x5 x6 : Int32} {N : p_N}
theorem sp_X10_often (hN : p_Nok N) (hd : 21 ≤ d) (hI : e_I B S) (hB : B.1 ≤ 999000) (hV : p_V ρ) (hW : p_Ws v) (hF : p_F S v 37 ρ)
    (h : ∀ S1 v1 y, a_often N ρ x1 x2 x3 x4 x5 x6 y → e_T B 47 56 S S1 → c_pk v v1 → Q (some (.int y)) S1 v1) : z_J G d mX10_often (0, [.ref 0, .int x1, .int x2, .int x3, .int x4, .int x5, .int x6, .null, .null], [], S, v) Q := by
  obtain ⟨d, rfl⟩ : ∃ e, d = e + 1 := ⟨d - 1, by omega⟩
  have no : (¬ ∃ i, a_ofc ρ x1 x2 x3 x4 x6 i) → Q (some (.int (-1))) S v := fun hn => h S v _ (Or.inr ⟨hn, rfl⟩) (e_T.rf hI) c_pk.rf
  refine sg_X10_often_0 hI.1 ⟨fun c1 => ⟨fun c2 => no (fun ⟨i, q⟩ => nI_pos (n := i.2.1) (by have := q.2.2.1; omega) (by rw [← q.2.2.2.1]; exact c2)), fun c2 => ⟨fun c3 => ?_, fun c3 => no (fun ⟨i, q⟩ => c3 (by rw [q.2.2.2.1]; exact nI_le (b := 2) (by have := q.2.2.1; omega) (by omega)))⟩⟩, fun c1 => no (fun ⟨i, q⟩ => c1 (k_to q.1 q.2.1))⟩
  obtain ⟨κ, hκ, rfl⟩ := k_of c1
  obtain ⟨hw, hhw, rfl⟩ := nI_of c2
  have c3 := (nI_leI (b := 2) hhw (by omega)).mp c3
  refine sp_X10_canBeDrawn (ρ := ρ) hI.1 hF.2.1 hV.2.1 (fun ⟨i, q⟩ => ⟨_, rfl, rfl, fun c => absurd c (by decide), fun _ => ?_⟩) (fun hn => ⟨_, rfl, rfl, fun _ => no (fun ⟨i, q⟩ => hn ⟨i.2.2.1, q.2.2.2.2.1⟩), fun c => absurd rfl c⟩)
  refine ⟨fun c4 => no (fun ⟨i, q⟩ => absurd c4 (by rw [q.2.2.2.2.2.2.2]; exact nI_nlt (b := 1) q.2.2.2.2.2.1 (by have := q.2.2.2.2.2.2.1; omega))), fun c4 => ⟨fun c5 => ?_, fun c5 => no (fun ⟨i, q⟩ => c5 (by rw [q.2.2.2.2.2.2.2]; exact nI_le (b := 8) q.2.2.2.2.2.2.1 (by omega)))⟩⟩
  obtain ⟨m, m1, m2, rfl⟩ := (ix_1 (n := 8) (by omega)).mp ⟨Int32.not_lt.mp c4, c5⟩
  obtain ⟨T, E⟩ := i
  obtain ⟨t1, t2, t3, rfl, rfl⟩ := id q
  dsimp only at t1 t2 t3
  have key : ∀ j i S1 v1, i + j = m → e_T B 47 56 S S1 → c_pk v v1 → z_J G (d + 1) mX10_often (49, [.ref 0, .int (nI κ), .int (nI hw), .int (nI T), .int (nI E), .int x5, .int (nI m), .int (nI (o_c N ρ κ hw T E x5 i)), .int (nI i)], [], S1, v1) Q := by
    intro j
    induction j with
    | zero =>
      intro i S1 v1 hi k1 k2
      have hi : i = m := by omega
      subst hi
      refine sg_X10_often_49 k1.1.1 ⟨fun _ => ?_, fun c => absurd (nI_le (Nat.le_refl _) (by omega)) c⟩
      exact h S1 v1 _ (Or.inl ⟨(κ, hw, (T, E), i), ⟨hκ, rfl, by show hw < 3; omega, rfl, q, m1, m2, rfl⟩, rfl⟩) k1 k2
    | succ j ih =>
      intro i S1 v1 hi k1 k2
      have hF1 : p_F S1 v1 37 ρ := k1.F zF_37 (by omega) (hF.fr (fun a a1 a2 => k2 a (by omega)))
      refine sg_X10_often_49 k1.1.1 ⟨fun c => absurd c (nI_ge (by omega) (by omega)), fun _ => ?_⟩
      refine sp_X0_copyFrom (by omega) k1.1.1 zF_47 zF_37 (by omega) hF1 (fun v2 F2 f2 => ⟨rfl, ?_⟩)
      have T2 := k1.1.T (g := 37) (lo := 47) (hi := 56) zF_47 (by omega) (by omega)
      have hW2 : p_Ws v2 := hW.fr (fun a a1 a2 => by rw [f2 a (by omega)]; exact k2 a (by omega))
      refine sg_X10_often_67 T2.1.1 ?_
      refine sp_X0_drawRounds hN (by omega) T2.1.1 hW2 zF_47 F2 t3 t2 (fun v3 F3 f3 => ⟨_, rfl, rfl, ?_⟩)
      have hW3 : p_Ws v3 := hW2.fr (fun a a1 a2 => f3 a (by omega))
      have V3 : p_V (o_s N ρ T E x5 i) := p_V_rn (st := (ρ, x5 + nI i, 0)) hV T t2
      refine sp_X10_resultOf (ρ := o_s N ρ T E x5 i) (by omega) T2.1 hB V3 hW3 zF_47 (by omega) F3 hκ (fun S4 v4 y i4 r4 a4 f4 => ⟨_, rfl, ?_⟩)
      have k1' : e_T B 47 56 S S4 := k1.tr (T2.tr (r4.T i4))
      have k2' : c_pk v v4 := fun b hb => by rw [f4 b (by omega), f3 b (by omega), f2 b (by omega)]; exact k2 b hb
      have nx := ih (i + 1) S4 v4 (by omega) k1' k2'
      rw [o_c] at nx
      refine sg_X10_often_93 ?_
      rw [nI_1, nI_1]
      rcases o_1_re (by omega) a4 with ⟨e1, e2⟩ | ⟨e1, e2⟩
      · rw [e2] at nx
        exact ⟨fun c => absurd e1 c, fun _ => nx⟩
      · rw [e2, Nat.add_zero] at nx
        exact ⟨fun _ => nx, fun c => absurd c e1⟩
  exact key m 0 S v (Nat.zero_add _) (e_T.rf hI) c_pk.rf
theorem sp_X11_often (hN : p_Nok N) (hd : 10 ≤ d) (hL : z_L S) (hV : p_V ρ) (hM : p_M v ρ) (hT : p_MT v (ρ 0)) (hH : m_H v n r)
    (h : ∀ v1 y, a_often N ρ x1 x2 x3 x4 x5 x6 y → m_Ks ρ n r v none v1 → Q (some (.int y)) S v1) : z_J G d mX11_often (0, [.ref 223, .int x1, .int x2, .int x3, .int x4, .int x5, .int x6, .null, .null, .null], [], S, v) Q := by
  obtain ⟨d, rfl⟩ : ∃ e, d = e + 1 := ⟨d - 1, by omega⟩
  have l1 : z_l S 224 = 71 := zl_224 hL
  have l2 : z_l S 227 = 71 := zl_227 hL
  have hd25 : ρ 0 * ρ 0 ≤ 25 := by rcases hV.1 with e | e <;> rw [e] <;> decide
  refine sg_X11_often_0 hL (fun v1 e1 => ?_)
  have f0 : m_f6 v v1 := by rw [e1]; exact m_f6.u0
  have hM1 := f0.M hM
  have no : (¬ ∃ i, a_ofc ρ x1 x2 x3 x4 x6 i) → Q (some (.int (-1))) S v1 := fun hn => h v1 _ (Or.inr ⟨hn, rfl⟩) (m_Ks_no hM hH f0.pk)
  refine ⟨fun c1 => ?_, fun c1 => no (fun ⟨i, q⟩ => c1 (k_to q.1 q.2.1))⟩
  obtain ⟨κ, hκ, rfl⟩ := k_of c1
  rw [show (0 ≤ x2 ∧ x2 ≤ 2) ↔ ∃ i, i < 3 ∧ x2 = nI i from ix_le (n := 3) (by omega)]
  refine ⟨fun ⟨hw, hhw, e⟩ => ?_, fun c2 => no (fun ⟨i, q⟩ => c2 ⟨i.2.1, q.2.2.1, q.2.2.2.1⟩)⟩
  subst e
  refine sp_X11_canDraw (ρ := ρ) (by omega) hL (hM1 1 (by omega)) hV.2.1 (fun ⟨i, q⟩ => ⟨_, rfl, rfl, fun c => absurd c (by decide), fun _ => ?_⟩) (fun hn => ⟨_, rfl, rfl, fun _ => no (fun ⟨i, q⟩ => hn ⟨i.2.2.1, q.2.2.2.2.1⟩), fun c => absurd rfl c⟩)
  rw [show (1 ≤ x6 ∧ x6 ≤ 8) ↔ ∃ T, 1 ≤ T ∧ T ≤ 8 ∧ x6 = nI T from ix_1 (n := 8) (by omega)]
  refine ⟨fun ⟨m, m1, m2, e⟩ => ?_, fun c5 => no (fun ⟨i, q⟩ => c5 ⟨i.2.2.2, q.2.2.2.2.2⟩)⟩
  subst e
  obtain ⟨T, E⟩ := i
  obtain ⟨t1, t2, t3, rfl, rfl⟩ := id q
  dsimp only at t1 t2 t3
  have key : ∀ j i v2, i + j = m → (∀ t, t < 71 → v2 227 t = nI (ρ t)) → m_Ks ρ n r v none v2 → z_J G (d + 1) mX11_often (64, [.ref 223, .int (nI κ), .int (nI hw), .int (nI T), .int (nI E), .int x5, .int (nI m), .int (nI (o_c N ρ κ hw T E x5 i)), .int (nI i), .null], [], S, v2) Q := by
    intro j
    induction j with
    | zero =>
      intro i v2 hi k1 k2
      have hi : i = m := by omega
      subst hi
      refine sg_X11_often_64 hL ⟨fun _ => ?_, fun c => absurd (nI_le (Nat.le_refl _) (by omega)) c⟩
      exact h v2 _ (Or.inl ⟨(κ, hw, (T, E), i), ⟨hκ, rfl, hhw, rfl, q, m1, m2, rfl⟩, rfl⟩) k2
    | succ j ih =>
      intro i v2 hi k1 k2
      refine sg_X11_often_64 hL ⟨fun c => absurd c (nI_ge (by omega) (by omega)), fun _ => ?_⟩
      have hT2 : p_MT v2 (ρ 0) := k2.2.2.T hT
      refine sp_X11_draws hN (by omega) hL k2.1 hT2 hV.1 t3 t2 (fun v3 D3 => ⟨_, rfl, rfl, fun c => ?_, fun _ => ?_⟩)
      · refine absurd c (nI_pos ?_)
        have := p_rn_c (N := N) (E := E) (d := ρ 0) (st := (ρ, x5 + nI i, 0)) T
        have h2 : 2 * (ρ 0 * ρ 0) * T ≤ 50 * 8 := Nat.mul_le_mul (by omega) (by omega)
        have h3 : ((ρ, x5 + nI i, 0) : p_st).2.2 = 0 := rfl
        show (p_rn N E (ρ 0) (ρ, x5 + nI i, 0) T).2.2 < _
        omega
      have V3 : p_V (o_s N ρ T E x5 i) := p_V_rn (st := (ρ, x5 + nI i, 0)) hV T t2
      have e0 : o_s N ρ T E x5 i 0 = ρ 0 := p_rn_0 T
      have M3 : p_M v3 (o_s N ρ T E x5 i) := D3.1
      have T3 : p_MT v3 (o_s N ρ T E x5 i 0) := by
        rw [e0]; exact hT2.fr (D3.2.2.1 14 (by omega)) (fun a a1 a2 => D3.2.2.2 a (by omega))
      have back : ∀ v4 : z_Dat, m_pk v3 v4 → ∀ c, c = nI (o_c N ρ κ hw T E x5 (i + 1)) → z_J G d mX11_copies (0, [.ref 223, .ref 227, .int 0, .ref 224, .int 0, .null], [], S, v4) (fun r S1 v2 => r = none ∧ S1 = S ∧ (z_J G (d + 1) mX11_often (64, [.ref 223, .int (nI κ), .int (nI hw), .int (nI T), .int (nI E), .int x5, .int (nI m), .int c, .int (nI (i + 1)), .null], [], S, v2) Q)) := by
        intro v4 f4 c hc
        subst hc
        have e227 : ∀ t, t < 71 → v4 227 t = nI (ρ t) := fun t ht => by rw [f4.1 227 (by omega), D3.2.2.2 227 (by omega)]; exact k1 t ht
        rw [show (0 : Int32) = nI 0 from rfl]
        refine sp_X11_copies (zk_227 hL) (zk_224 hL) (by omega) (by omega) (by omega) (by omega) (by omega) (fun g g1 g2 => ⟨rfl, rfl, ?_⟩)
        refine ih (i + 1) _ (by omega) (fun t ht => by rw [z_uan (by omega)]; exact e227 t ht) ⟨fun t ht => ?_, ?_, ?_⟩
        · have := g1 t ht
          rw [Nat.zero_add] at this
          rw [z_uae rfl, this]; exact e227 t ht
        · refine k2.2.1.fr ?_ ?_
          · rw [z_uan (by omega), f4.2 6 (by unfold m_pf; omega)]; exact D3.2.2.1 6 (by omega)
          · rw [z_ua_ne (by omega), f4.1 226 (by omega)]; exact D3.2.2.2 226 (by omega)
        · refine k2.2.2.tr ⟨fun b hb => ?_, fun j hj => ?_⟩
          · rw [z_ua_ne (by omega), f4.1 b (by omega)]; exact D3.2.2.2 b (by omega)
          · unfold m_hf at hj
            rw [z_uan (by omega), f4.2 j (by unfold m_pf; omega)]; exact D3.2.2.1 j (by omega)
      refine sp_X11_corrects (ρ := o_s N ρ T E x5 i) (by omega) hL V3 M3 T3 (fun v4 κ' i' a1 a2 a3 a4 f4 => ⟨_, rfl, rfl, fun c => absurd c (by decide), fun _ => ?_⟩) (fun v4 hn f4 => ⟨_, rfl, rfl, fun _ => ?_, fun c => absurd rfl c⟩)
      · have ek : κ = κ' := (nI_eq (by omega) (by omega)).mp a2
        subst ek
        have eh : hw = i' := (nI_eq (by omega) (by have := a3.1; omega)).mp a3.2.1
        subst eh
        have M4 := f4.M M3
        rw [a4, nI_2, nI_clamp (by omega), M4 (2 + κ) (by omega), nx_xor, nI_1]
        refine ⟨vp_in_nI (by omega) (by omega), sp_X11_logical (by omega) hL (M4 0 (by omega)) V3.1 hκ ⟨_, rfl, rfl, back v4 f4 _ ?_⟩⟩
        rw [nI_add, o_c]
        unfold o_1
        rw [if_pos a3.2.2]
      · rw [nI_1]
        refine back v4 f4 _ ?_
        rw [o_c]
        unfold o_1
        rw [if_neg (fun z => hn ⟨κ, hw, hκ, rfl, hhw, rfl, z⟩), Nat.add_zero]
  rw [show (0 : Int32) = nI 0 from rfl]
  refine sp_X11_copies (zk_224 hL) (zk_227 hL) (by omega) (by omega) (by omega) (by omega) (by omega) (fun g g1 g2 => ⟨rfl, rfl, ?_⟩)
  refine key m 0 _ (Nat.zero_add _) (fun t ht => ?_) ⟨hM1.fr (by rw [z_ua_ne (by omega)]), hH.fr ?_ ?_, f0.pk.hk.tr ⟨fun b hb => by rw [z_ua_ne (by omega)], fun j hj => by rw [z_uan (by omega)]⟩⟩
  · have := g1 t ht
    rw [Nat.zero_add] at this
    rw [z_uae rfl, this]; exact hM1 t ht
  · rw [z_uan (by omega)]; exact f0.pk.2 6 (by unfold m_pf; omega)
  · rw [z_ua_ne (by omega)]; exact f0.pk.1 226 (by omega)
end OF
