/-! event: both sides -/
def a_evo (ρ : Nat → Nat) (x1 x2 x3 : Int32) (κ i : Nat) : Prop := κ < 2 ∧ x1 = nI κ ∧ i < (n_evs ρ κ).length ∧ x2 = nI i ∧ (x3 = 0 ∨ x3 = 1)
def a_evn (ρ : Nat → Nat) (x1 x2 x3 y : Int32) : Prop := (∃ κ i, a_evo ρ x1 x2 x3 κ i ∧ y = (if x3 = 0 then nI ((n_evs ρ κ).getD i 0 % t_K (ρ 0)) else nI ((n_evs ρ κ).getD i 0 / t_K (ρ 0)))) ∨ ((¬ ∃ κ i, a_evo ρ x1 x2 x3 κ i) ∧ y = -1)
theorem a_evn_u {ρ : Nat → Nat} {x1 x2 x3 y y' : Int32} (hB : n_B ρ ≤ 108) (h : a_evn ρ x1 x2 x3 y) (h' : a_evn ρ x1 x2 x3 y') : y = y' := by
  rcases h with ⟨κ, i, h1, h2⟩ | ⟨h1, h2⟩ <;> rcases h' with ⟨κ', i', h3, h4⟩ | ⟨h3, h4⟩
  · have l1 := n_evs_len (ρ := ρ) (κ := κ)
    have l2 := n_evs_len (ρ := ρ) (κ := κ')
    obtain ⟨a1, a2, a3, a4, a5⟩ := h1
    obtain ⟨b1, b2, b3, b4, b5⟩ := h3
    have e1 : κ = κ' := (nI_eq (by omega) (by omega)).mp (a2.symm.trans b2)
    subst e1
    have e2 : i = i' := (nI_eq (by omega) (by omega)).mp (a4.symm.trans b4)
    rw [h2, h4, e2]
  · exact absurd ⟨κ, i, h1⟩ h3
  · exact absurd ⟨κ', i', h3⟩ h1
  · rw [h2, h4]
theorem x_01 {x : Int32} (h1 : ¬ x < 0) (h2 : x ≤ 1) : x = 0 ∨ x = 1 := by
  obtain ⟨j, hj, rfl⟩ := nI_of h1
  have := (nI_leI (b := 1) hj (by omega)).mp h2
  exact k_to (κ := j) (by omega) rfl
section EV
variable {G : z_G} {d : Nat} {S : z_Shp} {v v0 : z_Dat} {Q : Option Value → z_Shp → z_Dat → Prop} {ρ : Nat → Nat} {x1 x2 x3 : Int32}
theorem sp_X10_event (hd : 4 ≤ d) (hL : z_L S) (hV : p_V ρ) (hW : p_Ws v) (hF : p_F S v 37 ρ) (h : ∀ v1 y, z_fr 149 163 v v1 → a_evn ρ x1 x2 x3 y → Q (some (.int y)) S v1) : z_J G d mX10_event (0, [.ref 0, .int x1, .int x2, .int x3], [], S, v) Q := by
  obtain ⟨d, rfl⟩ : ∃ e, d = e + 1 := ⟨d - 1, by omega⟩
  have hB := n_B_le hV.1 hV.2.1
  refine sg_X10_event_0 hL ⟨fun c => ?_, fun c => h v _ z_fr.rf (Or.inr ⟨fun ⟨κ, i, q⟩ => c (k_to q.1 q.2.1), rfl⟩)⟩
  obtain ⟨κ, hκ, rfl⟩ := k_of c
  refine sp_X4_spread (by omega) hL hV hW zF_37 hF hκ (fun v1 hN hE => ⟨rfl, rfl, ?_⟩)
  have hlen := n_evs_len (ρ := ρ) (κ := κ)
  have e3 : v1 149 3 = nI (n_evs ρ κ).length := hE.1
  have hfr : z_fr 149 163 v v1 := fun b hb => hN.2.2.2 b (by omega)
  rw [e3, ix_lt (by omega)]
  refine ⟨fun ⟨i, hi, e⟩ => ⟨fun c2 => h v1 _ hfr (Or.inr ⟨fun ⟨κ', i', q⟩ => ?_, rfl⟩), fun c2 => ⟨fun c3 => ⟨fun c4 => ?_, fun c4 => ?_⟩, fun c3 => h v1 _ hfr (Or.inr ⟨fun ⟨κ', i', q⟩ => ?_, rfl⟩)⟩⟩, fun c2 => h v1 _ hfr (Or.inr ⟨fun ⟨κ', i', q⟩ => ?_, rfl⟩)⟩
  · rcases q.2.2.2.2 with z | z <;> rw [z] at c2 <;> exact absurd c2 (by decide)
  · refine ⟨by rw [e]; exact vp_in_nI (by omega) (by omega), h v1 _ hfr (Or.inl ⟨κ, i, ⟨hκ, rfl, hi, e, x_01 c2 c3⟩, ?_⟩)⟩
    rw [if_neg c4, e, nI_clamp (by omega)]; exact (hE.2 i hi).2.2
  · refine ⟨by rw [e]; exact vp_in_nI (by omega) (by omega), h v1 _ hfr (Or.inl ⟨κ, i, ⟨hκ, rfl, hi, e, x_01 c2 c3⟩, ?_⟩)⟩
    rw [if_pos c4, e, nI_clamp (by omega)]; exact (hE.2 i hi).2.1
  · rcases q.2.2.2.2 with z | z <;> rw [z] at c3 <;> exact absurd (by decide) c3
  · have ek : κ = κ' := (nI_eq (by omega) (by have := q.1; omega)).mp q.2.1
    subst ek
    exact c2 ⟨i', q.2.2.1, q.2.2.2.1⟩
theorem sp_X11_event (hd : 5 ≤ d) (hL : z_L S) (hV : p_V ρ) (hM : p_M v ρ) (hT : p_MT v (ρ 0)) (h : ∀ v1 y, m_f6 v v1 → a_evn ρ x1 x2 x3 y → Q (some (.int y)) S v1) : z_J G d mX11_event (0, [.ref 223, .int x1, .int x2, .int x3], [], S, v) Q := by
  obtain ⟨d, rfl⟩ : ∃ e, d = e + 1 := ⟨d - 1, by omega⟩
  have hB := n_B_le hV.1 hV.2.1
  have hK0 : 0 < t_K (ρ 0) := by rcases hV.1 with e | e <;> rw [e] <;> decide
  have hK := t_Kle hV.1
  refine sg_X11_event_0 hL (fun v1 e1 => ?_)
  have f1 : m_f6 v v1 := by rw [e1]; exact m_f6.u0
  have h01 : ∀ {x : Int32}, (0 ≤ x ∧ x ≤ 1) ↔ (x = 0 ∨ x = 1) := fun {x} => ⟨fun z => x_01 (Int32.not_lt.mpr z.1) z.2, fun z => by rcases z with z | z <;> rw [z] <;> decide⟩
  rw [h01]
  refine ⟨fun c => ⟨fun c0 => ?_, fun c0 => h v1 _ f1 (Or.inr ⟨fun ⟨κ, i, q⟩ => c0 q.2.2.2.2, rfl⟩)⟩, fun c => h v1 _ f1 (Or.inr ⟨fun ⟨κ, i, q⟩ => c (k_to q.1 q.2.1), rfl⟩)⟩
  obtain ⟨κ, hκ, rfl⟩ := k_of c
  refine sp_X11_laysNet (by omega) hL hV (f1.M hM) (f1.T hT) hκ (fun v2 hN hE => ⟨rfl, rfl, ?_⟩)
  have hlen := n_evs_len (ρ := ρ) (κ := κ)
  have e3 : v2 223 33 = nI (n_evs ρ κ).length := hE.1
  have f2 := f1.tr hN.2.2.f6
  have e14 := (f2.T hT).1
  rw [e3, ix_le (by omega), e14]
  refine ⟨fun ⟨i, hi, e⟩ => ?_, fun c2 => h v2 _ f2 (Or.inr ⟨fun ⟨κ', i', q⟩ => ?_, rfl⟩)⟩
  · have hlt := n_evs_lt hi
    have e242 : v2 242 i = nI ((n_evs ρ κ).getD i 0) := hE.2 i hi
    have hin : vp_in x2 108 := by rw [e]; exact vp_in_nI (by omega) (by omega)
    have hne : ¬ nI (t_K (ρ 0)) = 0 := nI_ne0 hK0 (by omega)
    have ex : v2 242 x2.toNatClampNeg = nI ((n_evs ρ κ).getD i 0) := by rw [e, nI_clamp (by omega)]; exact e242
    rw [ex, pk_rem (by omega) hK0 (by omega), pk_div (by omega) hK0 (by omega)]
    refine ⟨fun c4 => ⟨hin, hne, h v2 _ f2 (Or.inl ⟨κ, i, ⟨hκ, rfl, hi, e, c0⟩, by rw [if_neg c4]⟩)⟩, fun c4 => ⟨hin, hne, h v2 _ f2 (Or.inl ⟨κ, i, ⟨hκ, rfl, hi, e, c0⟩, by rw [if_pos c4]⟩)⟩⟩
  · have ek : κ = κ' := (nI_eq (by omega) (by have := q.1; omega)).mp q.2.1
    subst ek
    exact c2 ⟨i', q.2.2.1, q.2.2.2.1⟩
end EV
