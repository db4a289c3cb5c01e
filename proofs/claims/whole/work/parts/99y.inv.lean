/-! THE INVARIANT of the law's loop: what the class' cells and the reference's cells hold of one state -/
/-- tape, its length, the last fault, pairs told, growth told, signs told -/
abbrev g_T : Type := (Nat → Nat) × Nat × Nat × (Nat × (Nat → Int32)) × (Nat × (Nat → Int32) × List Nat) × List Nat
/-- the row, rows to undo, images, the rest -/
abbrev g_S : Type := (Nat → Nat) × (Nat × (Nat → Nat → Nat)) × ((Nat → Nat) × (Nat → Nat → Nat)) × g_T
def c_TT (T : g_T) (v : z_Dat) : Prop := c_Tp v T.1 T.2.1 ∧ v 141 1 = nI T.2.2.1 ∧ c_To v T.2.2.2.1.1 T.2.2.2.1.2 ∧ c_Tg v T.2.2.2.2.1.1 T.2.2.2.2.1.2.1 T.2.2.2.2.1.2.2 ∧ c_Ts v T.2.2.2.2.2
def m_TT (T : g_T) (v : z_Dat) : Prop := m_Tp v T.1 T.2.1 ∧ v 223 20 = nI T.2.2.1 ∧ m_To v T.2.2.2.1.1 T.2.2.2.1.2 ∧ m_Tg v T.2.2.2.2.1.1 T.2.2.2.2.1.2.1 T.2.2.2.2.1.2.2 ∧ m_Ts v T.2.2.2.2.2
def CI (B : Nat × Nat × Nat) (σ : g_S) (S : z_Shp) (v : z_Dat) : Prop := e_I B S ∧ p_Ws v ∧ p_F S v 37 σ.1 ∧ c_H S v σ.2.1.1 σ.2.1.2 ∧ c_Im S v σ.2.2.1.1 σ.2.2.1.2 ∧ c_TT σ.2.2.2 v
def MI (σ : g_S) (v : z_Dat) : Prop := p_M v σ.1 ∧ p_MT v (σ.1 0) ∧ m_H v σ.2.1.1 σ.2.1.2 ∧ m_Im v σ.2.2.1.1 σ.2.2.1.2 ∧ m_TT σ.2.2.2 v
def PI (σ : g_S) : Prop := p_V σ.1 ∧ (∀ i, i < σ.2.1.1 → p_V (σ.2.1.2 i) ∧ σ.2.1.2 i 0 = σ.1 0) ∧ (∀ k, k < 2 → σ.2.2.1.1 k ≤ 1 ∧ (σ.2.2.1.1 k = 1 → p_V (σ.2.2.1.2 k))) ∧ ∀ i, σ.2.2.2.1 i < 256
def g_I (B : Nat × Nat × Nat) (S : z_Shp) (v : z_Dat) : Prop := ∃ σ : g_S, CI B σ S v ∧ MI σ v ∧ PI σ
theorem c_Tp.fr {v v1 : z_Dat} {τ : Nat → Nat} {L : Nat} (h : c_Tp v τ L) (h0 : v1 141 0 = v 141 0) (h1 : v1 142 = v 142) : c_Tp v1 τ L := by
  unfold c_Tp
  rw [h0, h1]; exact h
theorem m_Tp.fr {v v1 : z_Dat} {τ : Nat → Nat} {L : Nat} (h : m_Tp v τ L) (h0 : v1 223 8 = v 223 8) (h1 : v1 229 = v 229) : m_Tp v1 τ L := by
  unfold m_Tp
  rw [h0, h1]; exact h
theorem c_To.fr {v v1 : z_Dat} {n : Nat} {m : Nat → Int32} (h : c_To v n m) (h0 : v1 198 0 = v 198 0) (h1 : v1 199 = v 199) : c_To v1 n m := by
  unfold c_To
  rw [h0, h1]; exact h
theorem m_To.fr {v v1 : z_Dat} {n : Nat} {m : Nat → Int32} (h : m_To v n m) (h0 : v1 223 42 = v 223 42) (h1 : v1 248 = v 248) : m_To v1 n m := by
  unfold m_To
  rw [h0, h1]; exact h
theorem c_Tg.fr {v v1 : z_Dat} {g : Nat} {t : Nat → Int32} {l : List Nat} (h : c_Tg v g t l) (h0 : v1 198 2 = v 198 2) (h4 : v1 198 4 = v 198 4) (h1 : v1 200 = v 200) (h2 : v1 201 = v 201) : c_Tg v1 g t l := by
  unfold c_Tg
  rw [h0, h4, h1, h2]; exact h
theorem m_Tg.fr {v v1 : z_Dat} {g : Nat} {t : Nat → Int32} {l : List Nat} (h : m_Tg v g t l) (h0 : v1 223 56 = v 223 56) (h1 : v1 256 = v 256) (h2 : v1 257 = v 257) : m_Tg v1 g t l := by
  unfold m_Tg
  rw [h0, h1, h2]; exact h
theorem c_Ts.fr {v v1 : z_Dat} {l : List Nat} (h : c_Ts v l) (h0 : v1 198 6 = v 198 6) (h1 : v1 202 = v 202) : c_Ts v1 l := by
  unfold c_Ts
  rw [h0, h1]; exact h
theorem m_Ts.fr {v v1 : z_Dat} {l : List Nat} (h : m_Ts v l) (h0 : v1 223 65 = v 223 65) (h1 : v1 260 = v 260) : m_Ts v1 l := by
  unfold m_Ts
  rw [h0, h1]; exact h
theorem c_TT.fr {v v1 : z_Dat} {T : g_T} (h : c_TT T v) (hv : ∀ b, b = 141 ∨ b = 142 ∨ (198 ≤ b ∧ b ≤ 202) → v1 b = v b) : c_TT T v1 := by
  obtain ⟨h1, h2, h3, h4, h5⟩ := h
  have e1 := hv 141 (by omega)
  have e2 := hv 198 (by omega)
  exact ⟨h1.fr (by rw [e1]) (hv _ (by omega)), by rw [e1]; exact h2, h3.fr (by rw [e2]) (hv _ (by omega)), h4.fr (by rw [e2]) (by rw [e2]) (hv _ (by omega)) (hv _ (by omega)), h5.fr (by rw [e2]) (hv _ (by omega))⟩
theorem m_TT.fr {v v1 : z_Dat} {T : g_T} (h : m_TT T v) (hv : ∀ b, b = 229 ∨ b = 248 ∨ b = 256 ∨ b = 257 ∨ b = 260 → v1 b = v b) (hj : ∀ j, j = 8 ∨ j = 20 ∨ j = 42 ∨ j = 56 ∨ j = 65 → v1 223 j = v 223 j) : m_TT T v1 := by
  obtain ⟨h1, h2, h3, h4, h5⟩ := h
  exact ⟨h1.fr (hj _ (by omega)) (hv _ (by omega)), by rw [hj 20 (by omega)]; exact h2, h3.fr (hj _ (by omega)) (hv _ (by omega)), h4.fr (hj _ (by omega)) (hv _ (by omega)) (hv _ (by omega)), h5.fr (hj _ (by omega)) (hv _ (by omega))⟩
theorem c_Im.fr {B : Nat × Nat × Nat} {lo hi : Nat} {S S1 : z_Shp} {v v1 : z_Dat} {ik : Nat → Nat} {ir : Nat → Nat → Nat} (h : c_Im S v ik ir) (hT : e_T B lo hi S S1) (hhi : hi < 203) (hv : ∀ a, a = 58 ∨ (203 ≤ a ∧ a < 223) → v1 a = v a) : c_Im S1 v1 ik ir := fun k hk => by
  obtain ⟨h1, h2, h3⟩ := h k hk
  exact ⟨h1, by rw [hv 58 (by omega)]; exact h2, fun e => hT.F (zF_img hk) (by omega) ((h3 e).fr (fun a a1 a2 => hv a (by omega)))⟩
theorem m_Im.fr {v v1 : z_Dat} {ik : Nat → Nat} {ir : Nat → Nat → Nat} (h : m_Im v ik ir) (h1 : v1 225 = v 225) (h2 : v1 228 = v 228) : m_Im v1 ik ir := by
  unfold m_Im
  rw [h1, h2]; exact h
section GI
variable {B : Nat × Nat × Nat} {σ : g_S} {S S1 : z_Shp} {v v1 v2 : z_Dat} {ρ' : Nat → Nat} {n' : Nat} {r' : Nat → Nat → Nat}
theorem CI.pk (h : CI B σ S v) (hT : e_T B 47 56 S S1) (hv : c_pk v v1) : CI B σ S1 v1 := by
  obtain ⟨h1, h2, h3, h4, h5, h6⟩ := h
  exact ⟨hT.1, h2.fr (fun a _ _ => hv a (by omega)), hT.F zF_37 (by omega) (h3.fr (fun a _ _ => hv a (by omega))), h4.fr hT (by omega) (fun a _ _ => hv a (by omega)), h5.fr hT (by omega) (fun a _ => hv a (by omega)), h6.fr (fun b _ => hv b (by omega))⟩
theorem CI.of_m (h : CI B σ S v) (hv : ∀ b, b < 223 → v1 b = v b) : CI B σ S v1 := by
  obtain ⟨h1, h2, h3, h4, h5, h6⟩ := h
  have hT : e_T B 300 200 S S := e_T.rf h1
  exact ⟨h1, h2.fr (fun a _ _ => hv a (by omega)), h3.fr (fun a _ _ => hv a (by omega)), h4.fr hT (by omega) (fun a _ _ => hv a (by omega)), h5.fr hT (by omega) (fun a _ => hv a (by omega)), h6.fr (fun b _ => hv b (by omega))⟩
theorem CI.hk (h : CI B σ S v) (hF : p_F S1 v1 37 ρ') (hH : c_H S1 v1 n' r') (hT : e_T B 37 140 S S1) (hv : ∀ b, b < 37 ∨ b = 58 ∨ b = 141 ∨ b = 142 ∨ (198 ≤ b ∧ b < 223) → v1 b = v b) : CI B (ρ', (n', r'), σ.2.2) S1 v1 := by
  obtain ⟨h1, h2, h3, h4, h5, h6⟩ := h
  exact ⟨hT.1, h2.fr (fun a _ _ => hv a (by omega)), hF, hH, h5.fr hT (by omega) (fun a _ => hv a (by omega)), h6.fr (fun b _ => hv b (by omega))⟩
theorem MI.pk (h : MI σ v) (hv : m_pk v v1) : MI σ v1 := by
  obtain ⟨h1, h2, h3, h4, h5⟩ := h
  exact ⟨hv.M h1, hv.T h2, h3.fr (hv.2 6 (by unfold m_pf; omega)) (hv.1 226 (by omega)), h4.fr (hv.1 225 (by omega)) (hv.1 228 (by omega)), h5.fr (fun b _ => hv.1 b (by omega)) (fun j _ => hv.2 j (by unfold m_pf; omega))⟩
theorem MI.of_c (h : MI σ v) (hv : ∀ b, 223 ≤ b → b < 262 → v1 b = v b) : MI σ v1 := by
  obtain ⟨h1, h2, h3, h4, h5⟩ := h
  have e := hv 223 (by omega) (by omega)
  exact ⟨h1.fr (hv 224 (by omega) (by omega)), h2.fr (by rw [e]) (fun a _ _ => hv a (by omega) (by omega)), h3.fr (by rw [e]) (hv 226 (by omega) (by omega)), h4.fr (hv 225 (by omega) (by omega)) (hv 228 (by omega) (by omega)), h5.fr (fun b _ => hv b (by omega) (by omega)) (fun j _ => by rw [e])⟩
theorem MI.hk (h : MI σ v) (hM : p_M v1 ρ') (h0 : ρ' 0 = σ.1 0) (hH : m_H v1 n' r') (hv : m_hk v v1) : MI (ρ', (n', r'), σ.2.2) v1 := by
  obtain ⟨h1, h2, h3, h4, h5⟩ := h
  refine ⟨hM, ?_, hH, h4.fr (hv.1 225 (by omega)) (hv.1 228 (by omega)), h5.fr (fun b _ => hv.1 b (by omega)) (fun j _ => hv.2 j (by unfold m_hf; omega))⟩
  show p_MT v1 (ρ' 0)
  rw [h0]; exact hv.T h2
theorem MI.ck (h : MI σ v) (hM : p_M v1 ρ') (hT : p_MT v1 (ρ' 0)) (hH : m_H v1 n' r') (hv : m_ck v v1) : MI (ρ', (n', r'), σ.2.2) v1 := by
  obtain ⟨h1, h2, h3, h4, h5⟩ := h
  exact ⟨hM, hT, hH, h4.fr (hv.1 225 (by omega)) (hv.1 228 (by omega)), h5.fr (fun b _ => hv.1 b (by omega)) (fun j _ => hv.2 j (by unfold m_cf; omega))⟩
theorem PI.ks {P : k_P} (h : PI σ) (hV : p_V (k_ρ P σ.1)) (h0 : k_ρ P σ.1 0 = σ.1 0) : PI (k_ρ P σ.1, (k_n P σ.2.1.1, k_r P σ.1 σ.2.1.2), σ.2.2) := by
  obtain ⟨h1, h2, h3, h4⟩ := h
  refine ⟨hV, fun i hi => ?_, h3, h4⟩
  show p_V (k_r P σ.1 σ.2.1.2 i) ∧ k_r P σ.1 σ.2.1.2 i 0 = k_ρ P σ.1 0
  rw [h0]
  have hi : i < k_n P σ.2.1.1 := hi
  cases P with
  | none => exact h2 i hi
  | some a =>
    have hi : i < h_n σ.2.1.1 := hi
    show p_V (if i = 0 then σ.1 else σ.2.1.2 (i - 1)) ∧ (if i = 0 then σ.1 else σ.2.1.2 (i - 1)) 0 = σ.1 0
    by_cases e : i = 0
    · rw [if_pos e]; exact ⟨h1, rfl⟩
    · rw [if_neg e]
      refine h2 (i - 1) ?_
      unfold h_n at hi
      split at hi <;> omega
theorem g_pk (hC : CI B σ S v) (hM : MI σ v) (hP : PI σ) (hT : e_T B 47 56 S S1) (h1 : c_pk v v1) (h2 : m_pk v1 v2) : g_I B S1 v2 := ⟨σ, (hC.pk hT h1).of_m (fun b hb => h2.1 b (by omega)), (hM.of_c (fun b b1 b2 => h1 b (by omega))).pk h2, hP⟩
theorem g_ks {P : k_P} (hC : CI B σ S v) (hM : MI σ v) (hP : PI σ) (hV : p_V (k_ρ P σ.1)) (h0 : k_ρ P σ.1 0 = σ.1 0) (h1 : c_Ks B σ.1 σ.2.1.1 σ.2.1.2 S v P S1 v1) (h2 : m_Ks σ.1 σ.2.1.1 σ.2.1.2 v1 P v2) : g_I B S1 v2 :=
  ⟨(k_ρ P σ.1, (k_n P σ.2.1.1, k_r P σ.1 σ.2.1.2), σ.2.2), (hC.hk h1.1 h1.2.1 h1.2.2.1 (fun b hb => h1.2.2.2 b (by omega))).of_m (fun b hb => h2.2.2.1 b (by omega)), (hM.of_c (fun b b1 b2 => h1.2.2.2 b (by omega))).hk h2.1 h0 h2.2.1 h2.2.2, hP.ks hV h0⟩
/-- a throw is counted -/
theorem g_I.ct (h : g_I B S v) : g_I (B.1, B.2.1 + 1, B.2.2 + 6) (z_ct S 1 6) v := by
  obtain ⟨σ, ⟨⟨i1, aL, aO, L, p1, p2, p3, p4⟩, h2, h3, h4, h5, h6⟩, hM, hP⟩ := h
  exact ⟨σ, ⟨⟨i1, aL, aO, L, p1, p2, by show z_c S + 1 + _ ≤ B.2.1 + 1; omega, by show z_s S + 6 + _ ≤ B.2.2 + 6; omega⟩, h2, h3, h4, h5, h6⟩, hM, hP⟩
theorem g_I.sw {x : Int64} (h : g_I B S v) : g_I B (z_sw S 261 0 x) v := h
theorem g_I.up {B1 : Nat × Nat × Nat} (h : g_I B S v) (h1 : B.1 ≤ B1.1) (h2 : B.2.1 ≤ B1.2.1) (h3 : B.2.2 ≤ B1.2.2) : g_I B1 S v := by
  obtain ⟨σ, ⟨⟨i1, aL, aO, L, p1, p2, p3, p4⟩, h9⟩, hM, hP⟩ := h
  exact ⟨σ, ⟨⟨i1, aL, aO, L, p1, by omega, by omega, by omega⟩, h9⟩, hM, hP⟩
theorem g_I.L (h : g_I B S v) : z_L S := by
  obtain ⟨σ, hC, -⟩ := h
  exact hC.1.1
end GI
