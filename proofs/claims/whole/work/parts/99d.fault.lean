/-! fault: both sides; steps behind the hundredth do nothing -/
section FT
variable {G : z_G} {d : Nat} {S : z_Shp} {v : z_Dat} {Q : Option Value → z_Shp → z_Dat → Prop} {fk : Nat}
theorem sp_X10_fault (hL : z_L S) (hf : v 141 1 = nI fk) (h : Q (some (.int (nI fk))) S v) : z_J G d mX10_fault (0, [.ref 0], [], S, v) Q :=
  sg_X10_fault_0 hL (by rw [hf]; exact h)
theorem sp_X11_fault (hL : z_L S) (hf : v 223 20 = nI fk) (h : ∀ v1, v1 = z_u v 223 0 0 → Q (some (.int (nI fk))) S v1) : z_J G d mX11_fault (0, [.ref 223], [], S, v) Q :=
  sg_X11_fault_0 hL (fun v1 e1 => by rw [show v1 223 20 = nI fk by rw [e1, z_un (by omega)]; exact hf]; exact h v1 e1)
end FT
theorem d_b_100 {st : d_S} {s : Nat × Nat × Nat × Nat} (h : ¬ st.2.1 < 100) : d_b st s = st := by unfold d_b; rw [if_neg h]
theorem d_b_V {st : d_S} {s : Nat × Nat × Nat × Nat} (hV : p_V st.1) (hs : d_ok (st.1 0) s) : p_V (d_b st s).1 ∧ (d_b st s).1 0 = st.1 0 := by
  unfold d_b
  split
  · exact d_r_V hV hs
  · exact ⟨hV, rfl⟩
