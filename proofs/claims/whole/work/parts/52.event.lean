/-! event: both sides -/
def a_evo (ρ : Nat → Nat) (x1 x2 x3 : Int32) (κ i : Nat) : Prop := κ < 2 ∧ x1 = nI κ ∧ i < (n_evs ρ κ).length ∧ x2 = nI i ∧ (x3 = 0 ∨ x3 = 1)
def a_evn (ρ : Nat → Nat) (x1 x2 x3 y : Int32) : Prop := (∃ κ i, a_evo ρ x1 x2 x3 κ i ∧ y = (if x3 = 0 then nI ((n_evs ρ κ).getD i 0 % t_K (ρ 0)) else nI ((n_evs ρ κ).getD i 0 / t_K (ρ 0)))) ∨ ((¬ ∃ κ i, a_evo ρ x1 x2 x3 κ i) ∧ y = -1)
theorem a_evn_u {ρ : Nat → Nat} {x1 x2 x3 y y' : Int32} (hB : n_B ρ ≤ 108) (h : a_evn ρ x1 x2 x3 y) (h' : a_evn ρ x1 x2 x3 y') : y = y' := by
  rcases h with ⟨κ, i, h1, h2⟩ | ⟨h1, h2⟩ <;> rcases h' with ⟨κ', i', h3, h4⟩ | ⟨h3, h4⟩
  · have l1 := n_evs_len (ρ := ρ) (κ := κ)
    have l2 := n_evs_len (ρ := ρ) (κ := κ')
    obtain ⟨a1, a2, a3, a4, a5⟩ := h1
    obtain ⟨b1, b2, b3, b4, b5⟩ := h3
    have e1 : κ = κ' := (nI_eq (by omega) (by omega)).mp (a2.symm.trans b2)
    subst e1
    have e2 : i = i' := (nI_eq (by omega) (by omega)).mp (a4.symm.trans b4)
    rw [h2, h4, e2]
  · exact absurd ⟨κ, i, h1⟩ h3
  · exact absurd ⟨κ', i', h3⟩ h1
  · rw [h2, h4]
theorem x_01 {x : Int32} (h1 : ¬ x < 0) (h2 : x ≤ 1) : x = 0 ∨ x = 1 := by
  obtain ⟨j, hj, rfl⟩ := nI_of h1
  have := (nI_leI (b := 1) hj (by omega)).mp h2
  exact k_to (κ := j) (by omega) rfl
section EV
variable {G : z_G} {d : Nat} {S : z_Shp} {v v0 : z_Dat} {Q : Option Value → z_Shp → z_Dat → Prop} {ρ : Nat → Nat} {x1 x2 x3 : Int32}
theorem sp_X10_event (hd : 4 ≤ d) (hL : z_L S) (hV : p_V ρ) (hW : p_Ws v) (hF : p_F S v 37 ρ) (h : ∀ v1 y, z_fr 149 163 v v1 → a_evn ρ x1 x2 x3 y → Q (some (.int y)) S v1) : z_J G d mX10_event (0, [.ref 0, .int x1, .int x2, .int x3], [], S, v) Q := by
  obtain ⟨d, rfl⟩ : ∃ e, d = e + 1 := ⟨d - 1, by omega⟩
  have hB := n_B_le hV.1 hV.2.1
  refine sg_X10_event_0 hL ⟨fun c => ?_, fun c => h v _ z_fr.rf (Or.inr ⟨fun ⟨κ, i, q⟩ => c (k_to q.1 q.2.1), rfl⟩)⟩
  obtain ⟨κ, hκ, rfl⟩ := k_of c
  refine sp_X4_spread (by omega) hL hV hW zF_37 hF hκ (fun v1 hN hE => ⟨rfl, rfl, ?_⟩)
  have hlen := n_evs_len (ρ := ρ) (κ := κ)
  have e3 : v1 149 3 = nI (n_evs ρ κ).length := hE.1
  have hfr : z_fr 149 163 v v1 := fun b hb => hN.2.2.2 b (by omega)
  rw [e3, ix_lt (by omega)]
  refine ⟨fun ⟨i, hi, e⟩ => ⟨fun c2 => h v1 _ hfr (Or.inr ⟨fun ⟨κ', i', q⟩ => ?_, rfl⟩), fun c2 => ⟨fun c3 => ⟨fun c4 => ?_, fun c4 => ?_⟩, fun c3 => h v1 _ hfr (Or.inr ⟨fun ⟨κ', i', q⟩ => ?_, rfl⟩)⟩⟩, fun c2 => h v1 _ hfr (Or.inr ⟨fun ⟨κ', i', q⟩ => ?_, rfl⟩)⟩
  · rcases q.2.2.2.2 with z | z <;> rw [z] at c2 <;> exact absurd c2 (by decide)
  · refine ⟨by rw [e]; exact vp_in_nI (by omega) (by omega), h v1 _ hfr (Or.inl ⟨κ, i, ⟨hκ, rfl, hi, e, x_01 c2 c3⟩, ?_⟩)⟩
    rw [if_neg c4, e, nI_clamp (by omega)]; exact (hE.2 i hi).2.2
  · refine ⟨by rw [e]; exact vp_in_nI (by omega) (by omega), h v1 _ hfr (Or.inl ⟨κ, i, ⟨hκ, rfl, hi, e, x_01 c2 c3⟩, ?_⟩)⟩
    rw [if_pos c4, e, nI_clamp (by omega)]; exact (hE.2 i hi).2.1
  · rcases q.2.2.2.2 with z | z <;> rw [z] at c3 <;> exact absurd (by decide) c3
  · have ek : κ = κ' := (nI_eq (by omega) (by have := q.1; omega)).mp q.2.1
    subst ek
    exact c2 ⟨i', q.2.2.1, q.2.2.2.1⟩
end EV
