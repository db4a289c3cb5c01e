/-! pair, partner, pairings: both sides; what stays over a call that only reads -/
def c_pk (v v1 : z_Dat) : Prop := ∀ b, b < 47 ∨ (57 ≤ b ∧ b < 149) ∨ (198 ≤ b ∧ b < 262) → v1 b = v b
def m_pf (j : Nat) : Prop := j = 6 ∨ j = 8 ∨ j = 14 ∨ j = 20 ∨ j = 42 ∨ j = 56 ∨ j = 65
def m_pk (v v1 : z_Dat) : Prop := (∀ b, b < 223 ∨ (224 ≤ b ∧ b ≤ 233) ∨ b = 248 ∨ b = 256 ∨ b = 257 ∨ 260 ≤ b → v1 b = v b) ∧ ∀ j, m_pf j → v1 223 j = v 223 j
def e_R2 (S S1 : z_Shp) : Prop := ∀ a, a < 262 → a ≠ 164 → a ≠ 47 → z_r S1 a = z_r S a
theorem c_pk.rf {v : z_Dat} : c_pk v v := fun _ _ => rfl
theorem c_pk.tr {v v1 v2 : z_Dat} (h1 : c_pk v v1) (h2 : c_pk v1 v2) : c_pk v v2 := fun b hb => (h2 b hb).trans (h1 b hb)
theorem m_pk.rf {v : z_Dat} : m_pk v v := ⟨fun _ _ => rfl, fun _ _ => rfl⟩
theorem m_pk.tr {v v1 v2 : z_Dat} (h1 : m_pk v v1) (h2 : m_pk v1 v2) : m_pk v v2 := ⟨fun b hb => (h2.1 b hb).trans (h1.1 b hb), fun b hb => (h2.2 b hb).trans (h1.2 b hb)⟩
theorem e_R2.rf {S : z_Shp} : e_R2 S S := fun _ _ _ _ => rfl
theorem e_R2.tr {S S1 S2 : z_Shp} (h1 : e_R2 S S1) (h2 : e_R2 S1 S2) : e_R2 S S2 := fun a h3 h4 h5 => (h2 a h3 h4 h5).trans (h1 a h3 h4 h5)
theorem e_R.r2 {S S1 : z_Shp} (h : e_R S S1) : e_R2 S S1 := fun a h1 h2 _ => h a h1 h2
theorem z_fr.pk {lo hi : Nat} {v v1 : z_Dat} (h : z_fr lo hi v v1) (h1 : 149 ≤ lo) (h2 : hi < 198) : c_pk v v1 := fun b hb => h b (by omega)
theorem m_f7.pk {v v1 : z_Dat} (h : m_f7 v v1) : m_pk v v1 := ⟨fun b hb => h.1 b (by omega) (by omega), fun j hj => by unfold m_pf at hj; exact h.2 j (by omega) (by omega) (by omega)⟩
theorem m_f6.pk {v v1 : z_Dat} (h : m_f6 v v1) : m_pk v v1 := h.f7.pk
theorem m_f7.tr {v v1 v2 : z_Dat} (h1 : m_f7 v v1) (h2 : m_f7 v1 v2) : m_f7 v v2 := ⟨fun b a1 a2 => (h2.1 b a1 a2).trans (h1.1 b a1 a2), fun j a1 a2 a3 => (h2.2 j a1 a2 a3).trans (h1.2 j a1 a2 a3)⟩
/-- the chosen partners of all events -/
noncomputable def n_mt (ρ : Nat → Nat) (κ : Nat) : Nat → Int32 := q_mt (n_evs ρ κ).length (n_D ρ κ) (n_PP ρ κ) 14 (2 ^ (n_evs ρ κ).length - 1) (fun _ => 0)
theorem q_all {N i : Nat} (h : i < N) : (2 ^ N - 1) / 2 ^ i % 2 = 1 := by
  have := Nat.testBit_two_pow_sub_one N i
  rw [decide_eq_true h, q_tb] at this
  exact of_decide_eq_true this
theorem n_mt_eq {ρ : Nat → Nat} {κ i : Nat} {m : Nat → Int32} (h14 : (n_evs ρ κ).length ≤ 14) (hi : i < (n_evs ρ κ).length) : q_mt (n_evs ρ κ).length (n_D ρ κ) (n_PP ρ κ) 14 (2 ^ (n_evs ρ κ).length - 1) m i = n_mt ρ κ i :=
  q_mt_in h14 14 _ _ _ i (q_cn_le _ 14) (by have := Nat.pow_pos (n := (n_evs ρ κ).length) (show 0 < 2 by omega); omega) (Or.inl (q_all hi))
theorem n_mt_rg {ρ : Nat → Nat} {κ i : Nat} (h14 : (n_evs ρ κ).length ≤ 14) (hi : i < (n_evs ρ κ).length) : q_rg (n_evs ρ κ).length i (n_mt ρ κ i) :=
  q_mt_rg h14 14 _ _ (q_cn_le _ 14) (by have := Nat.pow_pos (n := (n_evs ρ κ).length) (show 0 < 2 by omega); omega) (fun i hi hn => absurd (q_all hi) hn) i hi
def c_To (v : z_Dat) (n : Nat) (m : Nat → Int32) : Prop := v 198 0 = nI n ∧ n ≤ 14 ∧ ∀ i, i < n → v 199 i = m i
def m_To (v : z_Dat) (n : Nat) (m : Nat → Int32) : Prop := v 223 42 = nI n ∧ n ≤ 14 ∧ ∀ i, i < n → v 248 i = m i
def a_pok (ρ : Nat → Nat) (x1 : Int32) (κ : Nat) : Prop := κ < 2 ∧ x1 = nI κ ∧ (n_evs ρ κ).length ≤ 14
theorem a_pok_u {ρ : Nat → Nat} {x1 : Int32} {κ κ' : Nat} (h : a_pok ρ x1 κ) (h' : a_pok ρ x1 κ') : κ = κ' := (nI_eq (by have := h.1; omega) (by have := h'.1; omega)).mp (h.2.1.symm.trans h'.2.1)
/-- what pair answers and tells -/
def a_pair (ρ : Nat → Nat) (x1 y : Int32) (n : Nat) (m : Nat → Int32) (n' : Nat) (m' : Nat → Int32) : Prop := (∃ κ, a_pok ρ x1 κ ∧ y = nI (n_PP ρ κ (2 ^ (n_evs ρ κ).length - 1)).1 ∧ n' = (n_evs ρ κ).length ∧ m' = n_mt ρ κ) ∨ ((¬ ∃ κ, a_pok ρ x1 κ) ∧ y = -1 ∧ n' = n ∧ m' = m)
theorem a_pair_u {ρ : Nat → Nat} {x1 y y' : Int32} {n n' n'' : Nat} {m m' m'' : Nat → Int32} (h : a_pair ρ x1 y n m n' m') (h' : a_pair ρ x1 y' n m n'' m'') : y = y' ∧ n' = n'' ∧ m' = m'' := by
  rcases h with ⟨κ, h1, h2, h3, h4⟩ | ⟨h1, h2, h3, h4⟩ <;> rcases h' with ⟨κ', g1, g2, g3, g4⟩ | ⟨g1, g2, g3, g4⟩
  · have e := a_pok_u h1 g1
    subst e
    rw [h2, g2, h3, g3, h4, g4]; exact ⟨rfl, rfl, rfl⟩
  · exact absurd ⟨κ, h1⟩ g1
  · exact absurd ⟨κ', g1⟩ h1
  · rw [h2, g2, h3, g3, h4, g4]; exact ⟨rfl, rfl, rfl⟩
def a_prs (ρ : Nat → Nat) (x1 y : Int32) : Prop := (∃ κ, a_pok ρ x1 κ ∧ y = nI (n_PP ρ κ (2 ^ (n_evs ρ κ).length - 1)).2) ∨ ((¬ ∃ κ, a_pok ρ x1 κ) ∧ y = -1)
theorem a_prs_u {ρ : Nat → Nat} {x1 y y' : Int32} (h : a_prs ρ x1 y) (h' : a_prs ρ x1 y') : y = y' := by
  rcases h with ⟨κ, h1, h2⟩ | ⟨h1, h2⟩ <;> rcases h' with ⟨κ', g1, g2⟩ | ⟨g1, g2⟩
  · have e := a_pok_u h1 g1
    subst e
    rw [h2, g2]
  · exact absurd ⟨κ, h1⟩ g1
  · exact absurd ⟨κ', g1⟩ h1
  · rw [h2, g2]
/-- a row of int32 read by an index -/
def a_ix (n : Nat) (m : Nat → Int32) (x y : Int32) : Prop := (∃ i, i < n ∧ x = nI i ∧ y = m i) ∨ ((¬ ∃ i, i < n ∧ x = nI i) ∧ y = -1)
theorem a_ix_u {n : Nat} {m : Nat → Int32} {x y y' : Int32} (hn : n < 2 ^ 31) (h : a_ix n m x y) (h' : a_ix n m x y') : y = y' := by
  rcases h with ⟨i, h1, h2, h3⟩ | ⟨h1, h2⟩ <;> rcases h' with ⟨j, g1, g2, g3⟩ | ⟨g1, g2⟩
  · have e : i = j := (nI_eq (by omega) (by omega)).mp (h2.symm.trans g2)
    rw [h3, g3, e]
  · exact absurd ⟨i, h1, h2⟩ g1
  · exact absurd ⟨j, g1, g2⟩ h1
  · rw [h2, g2]
section PR
variable {G : z_G} {d : Nat} {S : z_Shp} {v v0 : z_Dat} {Q : Option Value → z_Shp → z_Dat → Prop} {ρ : Nat → Nat} {B : Nat × Nat × Nat} {x1 : Int32} {n : Nat} {m : Nat → Int32}
theorem sp_X10_pair (hd : 19 ≤ d) (hI : e_I B S) (hB : B.1 ≤ 999000) (hV : p_V ρ) (hW : p_Ws v) (hF : p_F S v 37 ρ) (hTo : c_To v n m)
    (h : ∀ S1 v1 y n' m', e_I B S1 → e_R S S1 → a_pair ρ x1 y n m n' m' → c_To v1 n' m' → (∀ b, b < 149 ∨ (186 ≤ b ∧ b < 198) ∨ (200 ≤ b ∧ b < 262) → v1 b = v b) → (∀ j, j ≠ 0 → v1 198 j = v 198 j) → Q (some (.int y)) S1 v1) : z_J G d mX10_pair (0, [.ref 0, .int x1], [], S, v) Q := by
  obtain ⟨d, rfl⟩ : ∃ e, d = e + 1 + 1 := ⟨d - 2, by omega⟩
  refine sg_X10_pair_0 hI.1 ⟨fun c => ?_, fun c => h S v _ n m hI e_R.rf (Or.inr ⟨fun ⟨κ, q⟩ => c (k_to q.1 q.2.1), rfl, rfl, rfl⟩) hTo (fun _ _ => rfl) (fun _ _ => rfl)⟩
  obtain ⟨κ, hκ, rfl⟩ := k_of c
  refine sp_X10_paired (by omega) hI hB hV hW zF_37 hF hκ (fun S1 v1 h14 i1 r1 R1 s1 t1 f1 => ⟨_, rfl, ?_⟩) (fun v1 h14 f1 => ⟨_, rfl, ?_⟩)
  · refine sg_X10_pair_16 i1.1 ⟨fun _ => ?_, fun c => absurd c (by decide)⟩
    refine sg_X7_keepPairing_0 i1.1 (fun v2 e2 => ⟨by unfold z_cpOk; decide, fun v3 e3 => ?_⟩)
    refine ⟨rfl, rfl, ?_⟩
    have e1 : v3 164 1 = nI (n_PP ρ κ (2 ^ (n_evs ρ κ).length - 1)).1 := by rw [e3, z_uan (by omega), e2, z_un (by omega)]; exact s1.2.1
    rw [e1]
    refine h S1 v3 _ _ _ i1 r1 (Or.inl ⟨κ, ⟨hκ, rfl, h14⟩, rfl, rfl, rfl⟩) ⟨?_, h14, fun i hi => ?_⟩ (fun b hb => ?_) (fun j hj => ?_)
    · rw [e3, z_uan (by omega), e2, z_ue rfl rfl]; exact s1.1
    · rw [e3, z_uae rfl, pk_cpy_in (by omega) (by omega), e2, z_u_ne (by omega), t1, Nat.sub_zero, Nat.zero_add]
      exact n_mt_eq h14 hi
    · rw [e3, z_ua_ne (by omega), e2, z_u_ne (by omega)]; exact f1 b (by omega)
    · rw [e3, z_uan (by omega), e2, z_un (Or.inr hj), f1 198 (by omega)]
  · refine sg_X10_pair_16 hI.1 ⟨fun c => absurd rfl c, fun _ => h S v1 _ n m hI e_R.rf (Or.inr ⟨fun ⟨κ', q⟩ => h14 ?_, rfl, rfl, rfl⟩) ?_ (fun b hb => f1 b (by omega)) (fun j hj => by rw [f1 198 (by omega)])⟩
    · have e : κ = κ' := (nI_eq (by omega) (by have := q.1; omega)).mp q.2.1
      rw [e]; exact q.2.2
    · unfold c_To
      rw [f1 198 (by omega), f1 199 (by omega)]; exact hTo
theorem sp_X10_pairings (hd : 19 ≤ d) (hI : e_I B S) (hB : B.1 ≤ 999000) (hV : p_V ρ) (hW : p_Ws v) (hF : p_F S v 37 ρ)
    (h : ∀ S1 v1 y, e_I B S1 → e_R S S1 → a_prs ρ x1 y → c_pk v v1 → Q (some (.int y)) S1 v1) : z_J G d mX10_pairings (0, [.ref 0, .int x1], [], S, v) Q := by
  obtain ⟨d, rfl⟩ : ∃ e, d = e + 1 := ⟨d - 1, by omega⟩
  refine sg_X10_pairings_0 hI.1 ⟨fun c => ?_, fun c => h S v _ hI e_R.rf (Or.inr ⟨fun ⟨κ, q⟩ => c (k_to q.1 q.2.1), rfl⟩) c_pk.rf⟩
  obtain ⟨κ, hκ, rfl⟩ := k_of c
  refine sp_X10_paired (by omega) hI hB hV hW zF_37 hF hκ (fun S1 v1 h14 i1 r1 R1 s1 t1 f1 => ⟨_, rfl, ?_⟩) (fun v1 h14 f1 => ⟨_, rfl, ?_⟩)
  · refine sg_X10_pairings_16 i1.1 ⟨fun _ => ?_, fun c => absurd c (by decide)⟩
    rw [s1.2.2.1]
    exact h S1 v1 _ i1 r1 (Or.inl ⟨κ, ⟨hκ, rfl, h14⟩, rfl⟩) (fun b hb => f1 b (by omega))
  · refine sg_X10_pairings_16 hI.1 ⟨fun c => absurd rfl c, fun _ => h S v1 _ hI e_R.rf (Or.inr ⟨fun ⟨κ', q⟩ => h14 ?_, rfl⟩) (f1.pk (by omega) (by omega))⟩
    have e : κ = κ' := (nI_eq (by omega) (by have := q.1; omega)).mp q.2.1
    rw [e]; exact q.2.2
theorem sp_X10_partner (hL : z_L S) (hTo : c_To v n m) (h : ∀ y, a_ix n m x1 y → Q (some (.int y)) S v) : z_J G d mX10_partner (0, [.ref 0, .int x1], [], S, v) Q := by
  have h14 := hTo.2.1
  refine sg_X10_partner_0 hL ⟨fun c => h _ (Or.inr ⟨fun ⟨i, hi, e⟩ => nI_pos (n := i) (by omega) (by rw [← e]; exact c), rfl⟩), fun c => ⟨fun c2 => ?_, fun c2 => h _ (Or.inr ⟨fun ⟨i, hi, e⟩ => c2 (by rw [hTo.1, e]; exact nI_lt hi (by omega)), rfl⟩)⟩⟩
  obtain ⟨i, hi, rfl⟩ := nI_of c
  rw [hTo.1] at c2
  have c2 := (nI_ltI hi (by omega)).mp c2
  refine ⟨vp_in_nI (by omega) (by omega), ?_⟩
  rw [nI_clamp hi]
  exact h _ (Or.inl ⟨i, c2, rfl, hTo.2.2 i c2⟩)
theorem sp_X11_partner (hd : 1 ≤ d) (hL : z_L S) (hTo : m_To v n m) (h : ∀ v1 y, a_ix n m x1 y → v1 = z_u v 223 0 0 → Q (some (.int y)) S v1) : z_J G d mX11_partner (0, [.ref 223, .int x1], [], S, v) Q := by
  obtain ⟨d, rfl⟩ : ∃ e, d = e + 1 := ⟨d - 1, by omega⟩
  have h14 := hTo.2.1
  refine sg_X11_partner_0 hL (fun v1 e1 => ?_)
  have e42 : v1 223 42 = nI n := by rw [e1, z_un (by omega)]; exact hTo.1
  rw [e42, ix_le (by omega)]
  refine ⟨fun ⟨i, hi, e⟩ => ⟨by rw [e]; exact vp_in_nI (by omega) (by omega), ?_⟩, fun c => h v1 _ (Or.inr ⟨c, rfl⟩) e1⟩
  refine h v1 _ (Or.inl ⟨i, hi, e, ?_⟩) e1
  rw [e, nI_clamp (by omega), e1, z_un (by omega)]
  exact hTo.2.2 i hi
theorem sp_X11_pairings (hd : 7 ≤ d) (hL : z_L S) (hV : p_V ρ) (hM : p_M v ρ) (hT : p_MT v (ρ 0)) (h : ∀ v1 y, m_pk v v1 → a_prs ρ x1 y → Q (some (.int y)) S v1) : z_J G d mX11_pairings (0, [.ref 223, .int x1], [], S, v) Q := by
  obtain ⟨d, rfl⟩ : ∃ e, d = e + 1 := ⟨d - 1, by omega⟩
  refine sg_X11_pairings_0 hL (fun v1 e1 => ?_)
  have f1 : m_f6 v v1 := by rw [e1]; exact m_f6.u0
  refine ⟨fun c => ?_, fun c => h v1 _ f1.pk (Or.inr ⟨fun ⟨κ, q⟩ => c (k_to q.1 q.2.1), rfl⟩)⟩
  obtain ⟨κ, hκ, rfl⟩ := k_of c
  have hBn := n_B_le hV.1 hV.2.1
  have hlen := n_evs_len (ρ := ρ) (κ := κ)
  refine sp_X11_pairs (by omega) hL hV (f1.M hM) (f1.T hT) hκ (fun v2 h14 T2 I2 N2 E2 D2 f2 => ⟨_, rfl, rfl, fun c => absurd c (by decide), fun _ => ?_⟩) (fun v2 h14 f2 => ⟨_, rfl, rfl, fun _ => ?_, fun c => absurd rfl c⟩)
  · have h2N : 2 ^ (n_evs ρ κ).length ≤ 16384 := Nat.pow_le_pow_right (n := 2) (by omega) h14
    have h2p : 0 < 2 ^ (n_evs ρ κ).length := Nat.pow_pos (by omega)
    rw [I2.1, zb_1 (by omega), show nI (2 ^ (n_evs ρ κ).length) - 1 = nI (2 ^ (n_evs ρ κ).length - 1) by
      obtain ⟨p, hp⟩ : ∃ p, 2 ^ (n_evs ρ κ).length = p + 1 := ⟨2 ^ (n_evs ρ κ).length - 1, by omega⟩
      rw [hp, nI_pred]; rfl, nI_clamp (by omega)]
    refine ⟨vp_in_nI (by omega) (by omega), h v2 _ (f1.pk.tr f2.pk) (Or.inl ⟨κ, ⟨hκ, rfl, h14⟩, ?_⟩)⟩
    exact (T2 _ (by omega)).2.1
  · refine h v2 _ (f1.pk.tr f2.pk) (Or.inr ⟨fun ⟨κ', q⟩ => h14 ?_, rfl⟩)
    have e : κ = κ' := (nI_eq (by omega) (by have := q.1; omega)).mp q.2.1
    rw [e]; exact q.2.2
theorem sp_X11_pair (hd : 7 ≤ d) (hL : z_L S) (hV : p_V ρ) (hM : p_M v ρ) (hT : p_MT v (ρ 0)) (hTo : m_To v n m)
    (h : ∀ v1 y n' m', a_pair ρ x1 y n m n' m' → m_To v1 n' m' → (∀ b, b < 223 ∨ (224 ≤ b ∧ b ≤ 233) ∨ 249 ≤ b → v1 b = v b) → (∀ j, m_pf j → j ≠ 42 → v1 223 j = v 223 j) → Q (some (.int y)) S v1) : z_J G d mX11_pair (0, [.ref 223, .int x1, .null], [], S, v) Q := by
  obtain ⟨d, rfl⟩ : ∃ e, d = e + 1 := ⟨d - 1, by omega⟩
  refine sg_X11_pair_0 hL (fun v1 e1 => ?_)
  have f1 : m_f6 v v1 := by rw [e1]; exact m_f6.u0
  have stay : ∀ v2 : z_Dat, m_f7 v v2 → (¬ ∃ κ, a_pok ρ x1 κ) → Q (some (.int (-1))) S v2 := fun v2 f2 hn => by
    refine h v2 _ n m (Or.inr ⟨hn, rfl, rfl, rfl⟩) ?_ (fun b hb => f2.1 b (by omega) (by omega)) (fun j hj _ => f2.pk.2 j hj)
    unfold m_To
    rw [f2.pk.2 42 (by unfold m_pf; omega), f2.1 248 (by omega) (by omega)]; exact hTo
  refine ⟨fun c => ?_, fun c => stay v1 f1.f7 (fun ⟨κ, q⟩ => c (k_to q.1 q.2.1))⟩
  obtain ⟨κ, hκ, rfl⟩ := k_of c
  have hBn := n_B_le hV.1 hV.2.1
  have hlen := n_evs_len (ρ := ρ) (κ := κ)
  refine sp_X11_pairs (by omega) hL hV (f1.M hM) (f1.T hT) hκ (fun v2 h14 T2 I2 N2 E2 D2 f2 => ⟨_, rfl, rfl, fun _ => ?_, fun c => absurd c (by decide)⟩) (fun v2 h14 f2 => ⟨_, rfl, rfl, fun c => absurd rfl c, fun _ => ?_⟩)
  · refine sp_X11_chooses (by omega) hL h14 I2 T2 (fun v3 m3 k3 => ⟨rfl, rfl, fun v4 e4 => ?_⟩)
    have e33 : v3 223 33 = nI (n_evs ρ κ).length := by rw [k3 223 (by omega)]; exact I2.1
    have key : ∀ j i v5, i + j = (n_evs ρ κ).length → (∀ i', i' < i → v5 248 i' = n_mt ρ κ i') → (∀ b, b ≠ 248 → v5 b = v4 b) → z_J G (d + 1) mX11_pair (36, [.ref 223, .int (nI κ), .int (nI i)], [], S, v5) Q := by
      intro j
      induction j with
      | zero =>
        intro i v5 hi k1 k2
        have hi : i = (n_evs ρ κ).length := by omega
        have h2N : 2 ^ (n_evs ρ κ).length ≤ 16384 := Nat.pow_le_pow_right (n := 2) (by omega) h14
        have h2p : 0 < 2 ^ (n_evs ρ κ).length := Nat.pow_pos (by omega)
        have g33 : v5 223 33 = nI (n_evs ρ κ).length := by rw [k2 223 (by omega), e4, z_un (by omega)]; exact e33
        refine sg_X11_pair_36 hL ⟨fun _ => ?_, fun c => absurd (by rw [g33, hi]; exact nI_le (Nat.le_refl _) (by omega)) c⟩
        rw [g33, zb_1 (by omega), show nI (2 ^ (n_evs ρ κ).length) - 1 = nI (2 ^ (n_evs ρ κ).length - 1) by
          obtain ⟨p, hp⟩ : ∃ p, 2 ^ (n_evs ρ κ).length = p + 1 := ⟨2 ^ (n_evs ρ κ).length - 1, by omega⟩
          rw [hp, nI_pred]; rfl, nI_clamp (by omega)]
        refine ⟨vp_in_nI (by omega) (by omega), ?_⟩
        have e244 : v5 244 (2 ^ (n_evs ρ κ).length - 1) = nI (n_PP ρ κ (2 ^ (n_evs ρ κ).length - 1)).1 := by
          rw [k2 244 (by omega), e4, z_u_ne (by omega), k3 244 (by omega)]; exact (T2 _ (by omega)).1
        rw [e244]
        refine h v5 _ _ _ (Or.inl ⟨κ, ⟨hκ, rfl, h14⟩, rfl, rfl, rfl⟩) ⟨?_, h14, fun i' hi' => k1 i' (by omega)⟩ (fun b hb => ?_) (fun j hj hj2 => ?_)
        · rw [k2 223 (by omega), e4, z_ue rfl rfl]; exact e33
        · rw [k2 b (by omega), e4, z_u_ne (by omega), k3 b (by omega), f2.1 b (by omega) (by omega)]
          exact f1.1 b (by omega) (by omega)
        · rw [k2 223 (by omega), e4, z_un (Or.inr hj2), k3 223 (by omega), f2.pk.2 j hj]
          exact f1.pk.2 j hj
      | succ j ih =>
        intro i v5 hi k1 k2
        have g33 : v5 223 33 = nI (n_evs ρ κ).length := by rw [k2 223 (by omega), e4, z_un (by omega)]; exact e33
        have hin : vp_in (nI i) 14 := vp_in_nI (by omega) (by omega)
        refine sg_X11_pair_36 hL ⟨fun c => absurd c (by rw [g33]; exact nI_ge (by omega) (by omega)), fun _ => ⟨hin, hin, fun v6 e6 => ?_⟩⟩
        rw [nI_clamp (by omega)] at e6
        rw [nI_1]
        refine ih (i + 1) v6 (by omega) (fun i' hi' => ?_) (fun b hb => by rw [e6, z_u_ne hb]; exact k2 b hb)
        by_cases z : i' = i
        · rw [z, e6, z_ue rfl rfl, k2 247 (by omega), e4, z_u_ne (by omega), m3]
          exact n_mt_eq h14 (by omega)
        · rw [e6, z_un (Or.inr z)]; exact k1 i' (by omega)
    exact key _ 0 v4 (Nat.zero_add _) (fun i' hi' => by omega) (fun _ _ => rfl)
  · refine stay v2 (f1.f7.tr f2) (fun ⟨κ', q⟩ => h14 ?_)
    have e : κ = κ' := (nI_eq (by omega) (by have := q.1; omega)).mp q.2.1
    rw [e]; exact q.2.2
end PR
