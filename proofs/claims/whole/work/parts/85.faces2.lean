/-! kindOn, bitsOn of the reference; kindAt, bitsAt of the class -/
theorem l_par {s : Nat} (h : s ≤ 10) : (nI s - nI s / 2 * 2 = 0) ↔ s % 2 = 0 := by
  rcases (show s = 0 ∨ s = 1 ∨ s = 2 ∨ s = 3 ∨ s = 4 ∨ s = 5 ∨ s = 6 ∨ s = 7 ∨ s = 8 ∨ s = 9 ∨ s = 10 by omega) with rfl | rfl | rfl | rfl | rfl | rfl | rfl | rfl | rfl | rfl | rfl <;> decide
theorem l_35 {D : Nat} (h : D = 3 ∨ D = 5) : D ≤ 5 ∧ 3 ≤ D := by omega
theorem l_in1 {i D : Nat} (hi : i ≤ 5) (hD : D = 3 ∨ D = 5) : (1 ≤ nI i ∧ nI i ≤ nI D - 1) ↔ (1 ≤ i ∧ i < D) := by
  rcases hD with rfl | rfl <;> rcases (show i = 0 ∨ i = 1 ∨ i = 2 ∨ i = 3 ∨ i = 4 ∨ i = 5 by omega) with rfl | rfl | rfl | rfl | rfl | rfl <;> decide
theorem l_in0 {r D : Nat} (hr : r ≤ 6) (hD : D = 3 ∨ D = 5) : (0 ≤ nI r - 1 ∧ nI r - 1 ≤ nI D - 1) ↔ (1 ≤ r ∧ r ≤ D) := by
  rcases hD with rfl | rfl <;> rcases (show r = 0 ∨ r = 1 ∨ r = 2 ∨ r = 3 ∨ r = 4 ∨ r = 5 ∨ r = 6 by omega) with rfl | rfl | rfl | rfl | rfl | rfl | rfl <;> decide
theorem l_c0 {r : Nat} (hr : r ≤ 6) : (nI r - 1 < 0) ↔ r = 0 := by
  rcases (show r = 0 ∨ r = 1 ∨ r = 2 ∨ r = 3 ∨ r = 4 ∨ r = 5 ∨ r = 6 by omega) with rfl | rfl | rfl | rfl | rfl | rfl | rfl <;> decide
theorem l_c1 {r D : Nat} (hr : r ≤ 6) (hD : D = 3 ∨ D = 5) : (nI D ≤ nI r - 1) ↔ D < r := by
  rcases hD with rfl | rfl <;> rcases (show r = 0 ∨ r = 1 ∨ r = 2 ∨ r = 3 ∨ r = 4 ∨ r = 5 ∨ r = 6 by omega) with rfl | rfl | rfl | rfl | rfl | rfl | rfl <;> decide
theorem l_ex {j c : Nat} (hj : j ≤ 5) (hc : c ≤ 7) : (nI j < nI c - 1) ↔ j + 1 < c := by
  cases c with
  | zero => rcases (show j = 0 ∨ j = 1 ∨ j = 2 ∨ j = 3 ∨ j = 4 ∨ j = 5 by omega) with rfl | rfl | rfl | rfl | rfl | rfl <;> decide
  | succ c => rw [nI_pred, nI_ltI (by omega) (by omega)]; omega
theorem l_nx1 (c : Nat) : nI c - 1 + 1 = nI (c + 1) - 1 := by rw [nI_pred, Int32.sub_add_cancel]
theorem l_d1 {r : Nat} (h : 1 ≤ r) : nI r - 1 = nI (r - 1) := by
  obtain ⟨s, rfl⟩ : ∃ s, r = s + 1 := ⟨r - 1, by omega⟩
  rw [nI_pred]; rfl
theorem l_sh {D r c : Nat} (hD : D = 3 ∨ D = 5) (hr : r ≤ D) (hc : c ≤ D) : D * (r - 1) + (c - 1) < 31 := by
  rcases hD with rfl | rfl <;> omega
theorem l_k_o {D i j : Nat} (h : ¬ (i + j) % 2 = 0) (b : 1 ≤ j ∧ j < D) : l_kI (l_kd D i j) = 1 := by unfold l_kd; rw [if_neg h, if_pos b]; rfl
theorem l_k_on {D i j : Nat} (h : ¬ (i + j) % 2 = 0) (b : ¬ (1 ≤ j ∧ j < D)) : l_kI (l_kd D i j) = -1 := by unfold l_kd; rw [if_neg h, if_neg b]; rfl
theorem l_k_e {D i j : Nat} (h : (i + j) % 2 = 0) (b : 1 ≤ i ∧ i < D) : l_kI (l_kd D i j) = 0 := by unfold l_kd; rw [if_pos h, if_pos b]; rfl
theorem l_k_en {D i j : Nat} (h : (i + j) % 2 = 0) (b : ¬ (1 ≤ i ∧ i < D)) : l_kI (l_kd D i j) = -1 := by unfold l_kd; rw [if_pos h, if_neg b]; rfl
section FC
variable {G : z_G} {d nn : Nat} {S : z_Shp} {v v0 : z_Dat} {Q : Option Value → z_Shp → z_Dat → Prop} {D i j r c a w : Nat} {x1 : Int32}
theorem sp_X11_kindOn (hd : 1 ≤ d) (hL : z_Lk nn S) (hn : 261 ≤ nn) (h0 : v 224 0 = nI D) (hD : D = 3 ∨ D = 5) (hi : i ≤ D) (hj : j ≤ D) (h : Q (some (.int (l_kI (l_kd D i j)))) S v) : z_J G d mX11_kindOn (0, [.ref 223, .int (nI i), .int (nI j), .null, .null, .null], [], S, v) Q := by
  obtain ⟨d, rfl⟩ : ∃ e, d = e + 1 := ⟨d - 1, by omega⟩
  have h5 := l_35 hD
  refine ysg_X11_kindOn_0 hL hn ?_
  rw [h0, nI_add, l_par (by omega), l_in1 (by omega) hD, l_in1 (by omega) hD]
  refine ⟨fun c => ⟨fun a => ⟨fun b => ?_, fun b => ?_⟩, fun a => ⟨fun b => ?_, fun b => ?_⟩⟩, fun c => ⟨fun a => ⟨fun b => ?_, fun b => ?_⟩, fun a => ⟨fun b => ?_, fun b => ?_⟩⟩⟩
  · rw [l_k_o c b] at h; exact h
  · rw [l_k_on c b] at h; exact h
  · rw [l_k_o c b] at h; exact h
  · rw [l_k_on c b] at h; exact h
  · rw [l_k_e c a] at h; exact h
  · rw [l_k_e c a] at h; exact h
  · rw [l_k_en c a] at h; exact h
  · rw [l_k_en c a] at h; exact h
theorem sp_X11_bitsOn_st (hL : z_Lk nn S) (hn : 261 ≤ nn) (h0 : v 224 0 = nI D) (hD : D = 3 ∨ D = 5) (hj : j ≤ D) (hr : r ≤ 6) (hc : c ≤ j + 1) (h : z_J G (d + 1) mX11_bitsOn (18, [.ref 223, .int x1, .int (nI j), .int (nI (l_b1 D a r c)), .int (nI r - 1), .int (nI (c + 1) - 1)], [], S, v) Q) :
    z_J G (d + 1) mX11_bitsOn (18, [.ref 223, .int x1, .int (nI j), .int (nI a), .int (nI r - 1), .int (nI c - 1)], [], S, v) Q := by
  have h5 := l_35 hD
  refine ysg_X11_bitsOn_18 hL hn ?_
  rw [h0, l_ex (by omega) (by omega), l_in0 hr hD, l_in0 (by omega) hD, l_nx1 c]
  refine ⟨fun c => absurd c (by omega), fun _ => ⟨fun c1 => ⟨fun c2 => ?_, fun c2 => ?_⟩, fun c1 => ?_⟩⟩
  · rw [l_d1 c1.1, l_d1 c2.1, pk_mul, nI_add, zb_1 (by have := l_sh hD c1.2 c2.2; omega), zb_or]
    unfold l_b1 at h
    rw [if_pos ⟨c1.1, c1.2, c2.1, c2.2⟩, l_d1 c1.1] at h
    exact h
  · unfold l_b1 at h
    rw [if_neg (fun z => c2 ⟨z.2.2.1, z.2.2.2⟩)] at h
    exact h
  · unfold l_b1 at h
    rw [if_neg (fun z => c1 ⟨z.1, z.2.1⟩)] at h
    exact h
theorem sp_X11_bitsOn_rw (hL : z_Lk nn S) (hn : 261 ≤ nn) (h0 : v 224 0 = nI D) (hD : D = 3 ∨ D = 5) (hi : i ≤ D) (hj : j ≤ D) (hr : r ≤ i + 1) (h : z_J G (d + 1) mX11_bitsOn (7, [.ref 223, .int (nI i), .int (nI j), .int (nI (l_b1 D (l_b1 D a r j) r (j + 1))), .int (nI (r + 1) - 1), .null], [], S, v) Q) :
    z_J G (d + 1) mX11_bitsOn (7, [.ref 223, .int (nI i), .int (nI j), .int (nI a), .int (nI r - 1), .null], [], S, v) Q := by
  have h5 := l_35 hD
  refine sg_X11_bitsOn_7 ?_
  rw [l_ex (by omega) (by omega)]
  refine ⟨fun c => absurd c (by omega), fun _ => ?_⟩
  refine sp_X11_bitsOn_st hL hn h0 hD hj (by omega) (by omega) ?_
  refine sp_X11_bitsOn_st hL hn h0 hD hj (by omega) (by omega) ?_
  refine ysg_X11_bitsOn_18 hL hn ?_
  rw [l_ex (by omega) (by omega), l_nx1]
  exact ⟨fun _ => h, fun c => absurd (by omega) c⟩
theorem sp_X11_bitsOn (hd : 1 ≤ d) (hL : z_Lk nn S) (hn : 261 ≤ nn) (h0 : v 224 0 = nI D) (hD : D = 3 ∨ D = 5) (hi : i ≤ D) (hj : j ≤ D) (h : Q (some (.int (nI (l_bt D i j)))) S v) : z_J G d mX11_bitsOn (0, [.ref 223, .int (nI i), .int (nI j), .null, .null, .null], [], S, v) Q := by
  obtain ⟨d, rfl⟩ : ∃ e, d = e + 1 := ⟨d - 1, by omega⟩
  have h5 := l_35 hD
  refine sg_X11_bitsOn_0 ?_
  refine sp_X11_bitsOn_rw (a := 0) hL hn h0 hD hi hj (by omega) ?_
  refine sp_X11_bitsOn_rw hL hn h0 hD hi hj (by omega) ?_
  refine sg_X11_bitsOn_7 ?_
  rw [l_ex (by omega) (by omega)]
  exact ⟨fun _ => h, fun c => absurd (by omega) c⟩
theorem sp_X9_kindAt (hL : z_Lk nn S) (hn : w + 18 ≤ nn) (hw : z_isW w) (h0 : v w 0 = nI D) (hD : D = 3 ∨ D = 5) (hi : i ≤ D) (hj : j ≤ D) (h : Q (some (.int (l_kI (l_kd D i j)))) S v) : z_J G d mX9_kindAt (0, [.ref w, .int (nI i), .int (nI j), .null, .null, .null], [], S, v) Q := by
  have h5 := l_35 hD
  have e1 : ∀ i, i ≤ D → ((nI i < 1) ↔ ¬ 1 ≤ i) := fun i hi => by
    rw [show (1 : Int32) = nI 1 from rfl, nI_ltI (by omega) (by omega)]; omega
  have e2 : ∀ i, i ≤ D → ((nI D ≤ nI i) ↔ ¬ i < D) := fun i hi => by
    rw [nI_leI (by omega) (by omega)]; omega
  refine ysg_X9_kindAt_0 hL hn hw ?_
  rw [h0, nI_add, l_par (by omega), e1 i hi, e1 j hj, e2 i hi, e2 j hj]
  have o1 : ¬ (i + j) % 2 = 0 → 1 ≤ j ∧ j < D → Q (some (.int 1)) S v := fun c b => by rw [l_k_o c b] at h; exact h
  have o2 : ¬ (i + j) % 2 = 0 → ¬ (1 ≤ j ∧ j < D) → Q (some (.int (-1))) S v := fun c b => by rw [l_k_on c b] at h; exact h
  have o3 : (i + j) % 2 = 0 → 1 ≤ i ∧ i < D → Q (some (.int 0)) S v := fun c b => by rw [l_k_e c b] at h; exact h
  have o4 : (i + j) % 2 = 0 → ¬ (1 ≤ i ∧ i < D) → Q (some (.int (-1))) S v := fun c b => by rw [l_k_en c b] at h; exact h
  refine ⟨fun a => ⟨fun b => ⟨fun c => o2 c (by omega), fun c => o4 c (by omega)⟩, fun b => ⟨fun b2 => ⟨fun c => o2 c (by omega), fun c => o4 c (by omega)⟩, fun b2 => ⟨fun c => o1 c (by omega), fun c => o4 c (by omega)⟩⟩⟩, fun a => ⟨fun a2 => ⟨fun b => ⟨fun c => o2 c (by omega), fun c => o4 c (by omega)⟩, fun b => ⟨fun b2 => ⟨fun c => o2 c (by omega), fun c => o4 c (by omega)⟩, fun b2 => ⟨fun c => o1 c (by omega), fun c => o4 c (by omega)⟩⟩⟩, fun a2 => ⟨fun b => ⟨fun c => o2 c (by omega), fun c => o3 c (by omega)⟩, fun b => ⟨fun b2 => ⟨fun c => o2 c (by omega), fun c => o3 c (by omega)⟩, fun b2 => ⟨fun c => o1 c (by omega), fun c => o3 c (by omega)⟩⟩⟩⟩⟩
theorem sp_X9_bitsAt_st (hL : z_Lk nn S) (hn : w + 18 ≤ nn) (hw : z_isW w) (h0 : v w 0 = nI D) (hD : D = 3 ∨ D = 5) (hj : j ≤ D) (hr : r ≤ 6) (hc : c ≤ j + 1) (h : z_J G d mX9_bitsAt (18, [.ref w, .int x1, .int (nI j), .int (nI (l_b1 D a r c)), .int (nI r - 1), .int (nI (c + 1) - 1)], [], S, v) Q) :
    z_J G d mX9_bitsAt (18, [.ref w, .int x1, .int (nI j), .int (nI a), .int (nI r - 1), .int (nI c - 1)], [], S, v) Q := by
  have h5 := l_35 hD
  refine ysg_X9_bitsAt_18 hL hn hw ?_
  rw [h0, l_ex (by omega) (by omega), l_c0 hr, l_c0 (by omega), l_c1 hr hD, l_c1 (by omega) hD, l_nx1 c]
  have no : ¬ (1 ≤ r ∧ r ≤ D ∧ 1 ≤ c ∧ c ≤ D) → z_J G d mX9_bitsAt (18, [.ref w, .int x1, .int (nI j), .int (nI a), .int (nI r - 1), .int (nI (c + 1) - 1)], [], S, v) Q := fun z => by
    unfold l_b1 at h
    rw [if_neg z] at h
    exact h
  refine ⟨fun c => absurd c (by omega), fun _ => ⟨fun c1 => no (by omega), fun c1 => ⟨fun c2 => no (by omega), fun c2 => ⟨fun c3 => no (by omega), fun c3 => ⟨fun c4 => no (by omega), fun c4 => ?_⟩⟩⟩⟩⟩
  rw [l_d1 (show 1 ≤ r by omega), l_d1 (show 1 ≤ c by omega), pk_mul, nI_add, Nat.mul_comm, zb_1 (by have := l_sh hD (show r ≤ D by omega) (show c ≤ D by omega); omega), zb_or]
  unfold l_b1 at h
  rw [if_pos ⟨by omega, by omega, by omega, by omega⟩, l_d1 (show 1 ≤ r by omega)] at h
  exact h
theorem sp_X9_bitsAt_rw (hL : z_Lk nn S) (hn : w + 18 ≤ nn) (hw : z_isW w) (h0 : v w 0 = nI D) (hD : D = 3 ∨ D = 5) (hi : i ≤ D) (hj : j ≤ D) (hr : r ≤ i + 1) (h : z_J G d mX9_bitsAt (7, [.ref w, .int (nI i), .int (nI j), .int (nI (l_b1 D (l_b1 D a r j) r (j + 1))), .int (nI (r + 1) - 1), .null], [], S, v) Q) :
    z_J G d mX9_bitsAt (7, [.ref w, .int (nI i), .int (nI j), .int (nI a), .int (nI r - 1), .null], [], S, v) Q := by
  have h5 := l_35 hD
  refine sg_X9_bitsAt_7 hw ?_
  rw [l_ex (by omega) (by omega)]
  refine ⟨fun c => absurd c (by omega), fun _ => ?_⟩
  refine sp_X9_bitsAt_st hL hn hw h0 hD hj (by omega) (by omega) ?_
  refine sp_X9_bitsAt_st hL hn hw h0 hD hj (by omega) (by omega) ?_
  refine ysg_X9_bitsAt_18 hL hn hw ?_
  rw [l_ex (by omega) (by omega), l_nx1]
  exact ⟨fun _ => h, fun c => absurd (by omega) c⟩
theorem sp_X9_bitsAt (hL : z_Lk nn S) (hn : w + 18 ≤ nn) (hw : z_isW w) (h0 : v w 0 = nI D) (hD : D = 3 ∨ D = 5) (hi : i ≤ D) (hj : j ≤ D) (h : Q (some (.int (nI (l_bt D i j)))) S v) : z_J G d mX9_bitsAt (0, [.ref w, .int (nI i), .int (nI j), .null, .null, .null], [], S, v) Q := by
  have h5 := l_35 hD
  refine sg_X9_bitsAt_0 hw ?_
  refine sp_X9_bitsAt_rw (a := 0) hL hn hw h0 hD hi hj (by omega) ?_
  refine sp_X9_bitsAt_rw hL hn hw h0 hD hi hj (by omega) ?_
  refine sg_X9_bitsAt_7 hw ?_
  rw [l_ex (by omega) (by omega)]
  exact ⟨fun _ => h, fun c => absurd (by omega) c⟩
end FC
