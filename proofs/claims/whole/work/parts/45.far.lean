/-! events, edges, findWay: both sides' answers as functions of the row -/
theorem ix_lt {x : Int32} {n : Nat} (hn : n < 2 ^ 31) : (0 ≤ x ∧ x < nI n) ↔ ∃ i, i < n ∧ x = nI i := by
  constructor
  · rintro ⟨h1, h2⟩
    obtain ⟨i, hi, rfl⟩ := nI_of (Int32.not_lt.mpr h1)
    exact ⟨i, (nI_ltI hi hn).mp h2, rfl⟩
  · rintro ⟨i, hi, rfl⟩
    exact ⟨nI_pos' (by omega), nI_lt hi hn⟩
theorem ix_le {x : Int32} {n : Nat} (hn : n < 2 ^ 31) : (0 ≤ x ∧ x ≤ nI n - 1) ↔ ∃ i, i < n ∧ x = nI i := by
  cases n with
  | zero =>
    constructor
    · rintro ⟨h1, h2⟩
      exact absurd (Int32.le_trans h1 h2) (by decide)
    · rintro ⟨i, hi, -⟩; omega
  | succ m =>
    rw [nI_pred]
    constructor
    · rintro ⟨h1, h2⟩
      obtain ⟨i, hi, rfl⟩ := nI_of (Int32.not_lt.mpr h1)
      exact ⟨i, by have := (nI_leI hi (by omega)).mp h2; omega, rfl⟩
    · rintro ⟨i, hi, rfl⟩
      exact ⟨nI_pos' (by omega), nI_le (by omega) (by omega)⟩
theorem ix_m {x : Int32} {n : Nat} (hn : n < 2 ^ 31) : (-1 ≤ x ∧ x ≤ nI n - 1) ↔ (x = -1 ∨ ∃ i, i < n ∧ x = nI i) := by
  have hm : (-1 : Int32).toInt = -1 := by decide
  constructor
  · rintro ⟨h1, h2⟩
    by_cases z : 0 ≤ x
    · exact Or.inr ((ix_le hn).mp ⟨z, h2⟩)
    · left
      rw [Int32.le_iff_toInt_le] at h1 z
      rw [hm] at h1
      have h0 : (0 : Int32).toInt = 0 := by decide
      rw [h0] at z
      exact Int32.toInt_inj.mp (by rw [hm]; omega)
  · rintro (rfl | h)
    · refine ⟨Int32.le_refl _, ?_⟩
      cases n with
      | zero => decide
      | succ m =>
        rw [nI_pred, Int32.le_iff_toInt_le, hm, nI_toInt (by omega)]
        omega
    · obtain ⟨h1, h2⟩ := (ix_le hn).mpr h
      exact ⟨Int32.le_trans (by decide) h1, h2⟩
/-- kind, event and aim are told rightly -/
def a_ok (ρ : Nat → Nat) (x1 x2 x3 : Int32) (κ i T : Nat) : Prop := κ < 2 ∧ x1 = nI κ ∧ x2 = nI i ∧ i < (n_evs ρ κ).length ∧ x2 ≠ x3 ∧ ((x3 = -1 ∧ T = n_B ρ) ∨ ∃ j, x3 = nI j ∧ j < (n_evs ρ κ).length ∧ T = (n_evs ρ κ).getD j 0)
theorem n_evs_lt {ρ : Nat → Nat} {κ i : Nat} (h : i < (n_evs ρ κ).length) : (n_evs ρ κ).getD i 0 < n_B ρ := (n_ev_lt (n_B ρ)).2 _ (l_mem h)
theorem n_evs_len {ρ : Nat → Nat} {κ : Nat} : (n_evs ρ κ).length ≤ n_B ρ := (n_ev_lt (n_B ρ)).1
theorem a_ok_T {ρ : Nat → Nat} {x1 x2 x3 : Int32} {κ i T : Nat} (h : a_ok ρ x1 x2 x3 κ i T) : T ≤ n_B ρ := by
  rcases h.2.2.2.2.2 with ⟨_, e⟩ | ⟨j, _, hj, e⟩
  · omega
  · have := n_evs_lt hj; omega
theorem a_ok_u {ρ : Nat → Nat} {x1 x2 x3 : Int32} {κ i T κ' i' T' : Nat} (hB : n_B ρ ≤ 108) (h : a_ok ρ x1 x2 x3 κ i T) (h' : a_ok ρ x1 x2 x3 κ' i' T') : κ = κ' ∧ i = i' ∧ T = T' := by
  obtain ⟨a1, a2, a3, a4, a5, a6⟩ := h
  obtain ⟨b1, b2, b3, b4, b5, b6⟩ := h'
  have l1 := n_evs_len (ρ := ρ) (κ := κ)
  have l2 := n_evs_len (ρ := ρ) (κ := κ')
  have e1 : κ = κ' := (nI_eq (by omega) (by omega)).mp (a2.symm.trans b2)
  subst e1
  have e2 : i = i' := (nI_eq (by omega) (by omega)).mp (a3.symm.trans b3)
  refine ⟨rfl, e2, ?_⟩
  rcases a6 with ⟨c1, c2⟩ | ⟨j, c1, c2, c3⟩ <;> rcases b6 with ⟨d1, d2⟩ | ⟨j', d1, d2, d3⟩
  · rw [c2, d2]
  · exact absurd (d1.symm.trans c1) (nI_n1 (by omega))
  · exact absurd (c1.symm.trans d1) (nI_n1 (by omega))
  · have : j = j' := (nI_eq (by omega) (by omega)).mp (c1.symm.trans d1)
    rw [c3, d3, this]
theorem k_of {x : Int32} (h : x = 0 ∨ x = 1) : ∃ κ, κ < 2 ∧ x = nI κ := by
  rcases h with e | e
  · exact ⟨0, by omega, e⟩
  · exact ⟨1, by omega, e⟩
theorem k_to {x : Int32} {κ : Nat} (h : κ < 2) (e : x = nI κ) : x = 0 ∨ x = 1 := by
  rcases (show κ = 0 ∨ κ = 1 by omega) with rfl | rfl
  · exact Or.inl e
  · exact Or.inr e
section FA
variable {G : z_G} {d : Nat} {S : z_Shp} {v v0 : z_Dat} {Q : Option Value → z_Shp → z_Dat → Prop} {ρ : Nat → Nat} {x1 x2 x3 : Int32}
theorem sp_X10_findWay (hd : 5 ≤ d) (hL : z_L S) (hV : p_V ρ) (hW : p_Ws v) (hF : p_F S v 37 ρ)
    (h1 : ∀ κ i T v1, a_ok ρ x1 x2 x3 κ i T → z_fr 149 163 v v1 → n_isD ρ κ T (n_ds ρ κ T) → v1 158 0 = nI (n_ds ρ κ T ((n_evs ρ κ).getD i 0)) → v1 158 1 = nI (n_wy ρ κ T 120 ((n_evs ρ κ).getD i 0)).length → (∀ q, q < (n_wy ρ κ T 120 ((n_evs ρ κ).getD i 0)).length → v1 159 q = nI ((n_wy ρ κ T 120 ((n_evs ρ κ).getD i 0)).getD q 0)) → (n_wy ρ κ T 120 ((n_evs ρ κ).getD i 0)).length ≤ 120 → Q (some (.int 1)) S v1)
    (h0 : ∀ v1, (¬ ∃ κ i T, a_ok ρ x1 x2 x3 κ i T) → z_fr 149 163 v v1 → Q (some (.int 0)) S v1) : z_J G d mX10_findWay (0, [.ref 0, .int x1, .int x2, .int x3], [], S, v) Q := by
  obtain ⟨d, rfl⟩ : ∃ e, d = e + 1 := ⟨d - 1, by omega⟩
  have hB := n_B_le hV.1 hV.2.1
  refine sg_X10_findWay_0 hL ⟨fun c => ⟨fun c2 => ?_, fun c2 => h0 v (fun ⟨κ, i, T, q⟩ => q.2.2.2.2.1 c2) (z_fr.rf)⟩, fun c => h0 v (fun ⟨κ, i, T, q⟩ => c (k_to q.1 q.2.1)) (z_fr.rf)⟩
  obtain ⟨κ, hκ, rfl⟩ := k_of c
  refine sp_X4_spread (by omega) hL hV hW zF_37 hF hκ (fun v1 hN hE => ⟨rfl, rfl, ?_⟩)
  have hlen := n_evs_len (ρ := ρ) (κ := κ)
  have hR := hN.R hV.1
  have hfr : z_fr 149 163 v v1 := fun b hb => hN.2.2.2 b (by omega)
  have e3 : v1 149 3 = nI (n_evs ρ κ).length := hE.1
  rw [e3, ix_lt (by omega), ix_lt (by omega)]
  have go : ∀ i T, i < (n_evs ρ κ).length → a_ok ρ (nI κ) x2 x3 κ i T → x2 = nI i → z_J G d mX8_seek (0, [.ref 158, .ref 149, .int (v1 157 x2.toNatClampNeg), .int (nI T)], [], S, v1) (fun r S1 v2 => r = none ∧ S1 = S ∧ Q (some (.int 1)) S v2) := by
    intro i T hi hok e
    subst e
    rw [nI_clamp (by omega), (hE.2 i hi).1]
    refine sp_X8_seek (by omega) hL hV hκ hR (a_ok_T hok) (n_evs_lt hi) (fun v2 hD b1 b2 b3 b4 b5 b6 b7 => ⟨rfl, rfl, h1 κ i T v2 hok (fun b hb => (b4 b (by omega)).trans (hfr b (by omega))) hD b1 b2 b3 b6⟩)
  refine ⟨fun ⟨i, hi, e⟩ => ?_, fun c3 => h0 v1 (fun ⟨κ', i, T, q⟩ => ?_) hfr⟩
  · have hin : vp_in x2 108 := by rw [e]; exact vp_in_nI (by omega) (by omega)
    refine ⟨fun c4 => ⟨hin, fun c5 => absurd c4 c5, fun _ => ?_⟩, fun c4 => ⟨fun ⟨j, hj, e4⟩ => ⟨hin, fun _ => ⟨by rw [e4]; exact vp_in_nI (by omega) (by omega), ?_⟩, fun c5 => absurd c5 c4⟩, fun c5 => h0 v1 (fun ⟨κ', i', T, q⟩ => ?_) hfr⟩⟩
    · rw [hR.1.2.1]
      exact go i (n_B ρ) hi ⟨hκ, rfl, e, hi, c2, Or.inl ⟨c4, rfl⟩⟩ e
    · have e5 : v1 157 x3.toNatClampNeg = nI ((n_evs ρ κ).getD j 0) := by rw [e4, nI_clamp (by omega)]; exact (hE.2 j hj).1
      rw [e5]
      exact go i _ hi ⟨hκ, rfl, e, hi, c2, Or.inr ⟨j, e4, hj, rfl⟩⟩ e
    · obtain ⟨q1, q2, q3, q4, q5, q6⟩ := q
      have ek : κ = κ' := (nI_eq (by omega) (by omega)).mp q2
      subst ek
      rcases q6 with ⟨q6, -⟩ | ⟨j, q6, q7, -⟩
      · exact c4 q6
      · exact c5 ⟨j, q7, q6⟩
  · obtain ⟨q1, q2, q3, q4, q5, q6⟩ := q
    have ek : κ = κ' := (nI_eq (by omega) (by omega)).mp q2
    subst ek
    exact c3 ⟨i, q4, q3⟩
end FA
