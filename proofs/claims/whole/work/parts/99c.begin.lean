/-! the class begins a step: at most 100 -/
/-- row, how many begun, how many done -/
abbrev d_S : Type := (Nat → Nat) × Nat × Nat
def d_b (st : d_S) (s : Nat × Nat × Nat × Nat) : d_S := if st.2.1 < 100 then (d_r st.1 s, st.2.1 + 1, st.2.2 + d_f st.1 s) else st
theorem d_f_le {ρ : Nat → Nat} {s : Nat × Nat × Nat × Nat} : d_f ρ s = 0 ∨ d_f ρ s = 1 := by
  unfold d_f
  split
  · split
    · exact Or.inr rfl
    · exact Or.inl rfl
  · exact Or.inr rfl
def c_dS (S : z_Shp) (v : z_Dat) (st : d_S) : Prop := p_F S v 37 st.1 ∧ v 141 15 = nI st.2.1 ∧ st.2.1 ≤ 100 ∧ v 141 16 = nI st.2.2 ∧ st.2.2 ≤ st.2.1
def c_df (v v1 : z_Dat) : Prop := (∀ b, b < 37 ∨ 46 < b → b ≠ 141 → v1 b = v b) ∧ ∀ j, j ≠ 15 → j ≠ 16 → v1 141 j = v 141 j
section BG
variable {G : z_G} {d : Nat} {S : z_Shp} {v v0 : z_Dat} {Q : Option Value → z_Shp → z_Dat → Prop} {i : Nat} {s : Nat × Nat × Nat × Nat} {st : d_S}
theorem sp_X6_beginStep (hd : 4 ≤ d) (hL : z_L S) (hV : p_V st.1) (hW : p_Ws v) (hS : c_dS S v st) (h13 : v 141 13 = nI (st.1 0)) (hi : i < 30) (hs : d_ok (st.1 0) s) (hp : c_sp v i s)
    (h : ∀ v1, c_dS S v1 (d_b st s) → c_df v v1 → Q none S v1) : z_J G d mX6_beginStep (0, [.ref 141, .ref 37, .int (nI i)], [], S, v) Q := by
  obtain ⟨d, rfl⟩ : ∃ e, d = e + 1 := ⟨d - 1, by omega⟩
  obtain ⟨F, b1, b2, d1, d2⟩ := hS
  refine sg_X6_beginStep_0 hL zF_37 ?_
  rw [b1]
  unfold d_b at h
  refine ⟨fun c v1 e1 => ?_, fun c => ?_⟩
  · have c := (nI_ltI (b := 100) (by omega) (by omega)).mp c
    rw [if_pos c] at h
    rw [nI_1] at e1
    have w1 : ∀ b, b ≠ 141 → v1 b = v b := fun b hb => by rw [e1, z_u_ne hb]
    have q1 : ∀ j, j ≠ 15 → v1 141 j = v 141 j := fun j hj => by rw [e1, z_un (Or.inr hj)]
    have sp1 : c_sp v1 i s := by
      unfold c_sp
      rw [w1 143 (by omega), w1 144 (by omega), w1 145 (by omega), w1 146 (by omega)]; exact hp
    refine sp_X6_doStep (by omega) hL hV (hW.fr (fun a a1 a2 => w1 a (by omega))) (F.fr (fun a a1 a2 => w1 a (by omega))) (by rw [q1 13 (by omega)]; exact h13) hi hs sp1 (fun v2 F2 f2 => ⟨_, rfl, rfl, ?_⟩)
    have e15 : v2 141 15 = nI (st.2.1 + 1) := by rw [f2 141 (by omega), e1, z_ue rfl rfl]
    have e16 : v2 141 16 = nI st.2.2 := by rw [f2 141 (by omega), q1 16 (by omega)]; exact d1
    have fr2 : c_df v v2 := ⟨fun b hb hb2 => by rw [f2 b (by omega)]; exact w1 b hb2, fun j j1 _ => by rw [f2 141 (by omega)]; exact q1 j j1⟩
    rw [e16, nI_1]
    rcases d_f_le (ρ := st.1) (s := s) with z | z
    · rw [z] at h ⊢
      refine ⟨fun _ => h v2 ⟨F2, e15, by show st.2.1 + 1 ≤ 100; omega, e16, by show st.2.2 + 0 ≤ st.2.1 + 1; omega⟩ fr2, fun c => absurd rfl c⟩
    · rw [z] at h ⊢
      refine ⟨fun c => absurd c (by decide), fun _ v3 e3 => h v3 ⟨F2.fr (fun a a1 a2 => by rw [e3, z_u_ne (by omega)]), by rw [e3, z_un (by omega)]; exact e15, by show st.2.1 + 1 ≤ 100; omega, by rw [e3, z_ue rfl rfl], by show st.2.2 + 1 ≤ st.2.1 + 1; omega⟩ ⟨fun b hb hb2 => by rw [e3, z_u_ne hb2]; exact fr2.1 b hb hb2, fun j j1 j2 => by rw [e3, z_un (Or.inr j2)]; exact fr2.2 j j1 j2⟩⟩
  · have c : ¬ st.2.1 < 100 := fun z => c (nI_lt (b := 100) z (by omega))
    rw [if_neg c] at h
    exact h v ⟨F, b1, b2, d1, d2⟩ ⟨fun _ _ _ => rfl, fun _ _ _ => rfl⟩
end BG
