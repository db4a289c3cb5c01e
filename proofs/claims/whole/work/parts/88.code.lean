/-! code, restore: both sides -/
theorem sg_X10_code_0 {G : z_G} {d : Nat} {S : z_Shp} {v : z_Dat} {Q : Option Value → z_Shp → z_Dat → Prop} {x1 : Int32} (hL : z_L S)
    (h : (x1 = (v 1 0) → ((¬ x1 = (v 1 0) → (z_J G d mX0_startAnew (0, [.ref 37, .ref 19, .null], [], S, v) (fun r S1 v1 => r = none ∧ z_J G (d + 1) mX10_code (53, [.ref 0, .int x1], [], S1, v1) Q))) ∧ (x1 = (v 1 0) → (z_J G d mX0_startAnew (0, [.ref 37, .ref 1, .null], [], S, v) (fun r S1 v2 => r = none ∧ z_J G (d + 1) mX10_code (53, [.ref 0, .int x1], [], S1, v2) Q))))) ∧ (¬ x1 = (v 1 0) → ((x1 = (v 19 0) → ((¬ x1 = (v 1 0) → (z_J G d mX0_startAnew (0, [.ref 37, .ref 19, .null], [], S, v) (fun r S1 v3 => r = none ∧ z_J G (d + 1) mX10_code (53, [.ref 0, .int x1], [], S1, v3) Q))) ∧ (x1 = (v 1 0) → (z_J G d mX0_startAnew (0, [.ref 37, .ref 1, .null], [], S, v) (fun r S1 v4 => r = none ∧ z_J G (d + 1) mX10_code (53, [.ref 0, .int x1], [], S1, v4) Q))))) ∧ (¬ x1 = (v 19 0) → (Q (some (.int (-1))) S v))))) :
    z_J G (d + 1) mX10_code (0, [.ref 0, .int x1], [], S, v) Q := by
  refine zj_iload_n dX10_code_0 rfl rfl ?_
  refine zj_aload_n dX10_code_1 rfl rfl ?_
  refine zj_getR (ci := 10) (j := 0) dX10_code_2 wf_X10_14 (by decide) (by decide) (zk_0 hL) rfl (zr_0_0 hL) ?_
  refine zj_getI (ci := 9) (j := 0) dX10_code_5 wf_X10_104 (by decide) (by decide) (zk_1 hL) rfl ?_
  refine zj_icmp_eq (tgt := 24) dX10_code_8 (by decide) (fun c => ?_) (fun c => ?_)
  · replace h := h.1 c
    refine zj_aload_n dX10_code_24 rfl rfl ?_
    refine zj_getR (ci := 10) (j := 2) dX10_code_25 wf_X10_26 (by decide) (by decide) (zk_0 hL) rfl (zr_0_2 hL) ?_
    refine zj_iload_n dX10_code_28 rfl rfl ?_
    refine zj_aload_n dX10_code_29 rfl rfl ?_
    refine zj_getR (ci := 10) (j := 0) dX10_code_30 wf_X10_14 (by decide) (by decide) (zk_0 hL) rfl (zr_0_0 hL) ?_
    refine zj_getI (ci := 9) (j := 0) dX10_code_33 wf_X10_104 (by decide) (by decide) (zk_1 hL) rfl ?_
    refine zj_icmp_ne (tgt := 46) dX10_code_36 (by decide) (fun c => ?_) (fun c => ?_)
    · replace h := h.1 c
      refine zj_aload_n dX10_code_46 rfl rfl ?_
      refine zj_getR (ci := 10) (j := 1) dX10_code_47 wf_X10_18 (by decide) (by decide) (zk_0 hL) rfl (zr_0_1 hL) ?_
      refine zj_callVN (M' := mX0_startAnew) (avs := [.ref 19]) (st := []) (ci := 0) dX10_code_50 wm_X0_startAnew (by simp [z_nw, mX0_startAnew]) rfl wi_X0_startAnew ws_X0_startAnew (by decide) (zk_37 hL) rfl rfl (by decide) rfl (Nat.le_of_ble_eq_true rfl) (Nat.le_of_ble_eq_true rfl) ⟨Or.inl (z_k0 (zk_0 hL)), trivial⟩ trivial (z_J.mono h (fun r S1 v1 hq => ?_))
      obtain ⟨rfl, h⟩ := hq
      exact h
    · replace h := h.2 c
      refine zj_aload_n dX10_code_39 rfl rfl ?_
      refine zj_getR (ci := 10) (j := 0) dX10_code_40 wf_X10_14 (by decide) (by decide) (zk_0 hL) rfl (zr_0_0 hL) ?_
      refine zj_goto (tgt := 50) dX10_code_43 (by decide) ?_
      refine zj_callVN (M' := mX0_startAnew) (avs := [.ref 1]) (st := []) (ci := 0) dX10_code_50 wm_X0_startAnew (by simp [z_nw, mX0_startAnew]) rfl wi_X0_startAnew ws_X0_startAnew (by decide) (zk_37 hL) rfl rfl (by decide) rfl (Nat.le_of_ble_eq_true rfl) (Nat.le_of_ble_eq_true rfl) ⟨Or.inl (z_k0 (zk_0 hL)), trivial⟩ trivial (z_J.mono h (fun r S1 v2 hq => ?_))
      obtain ⟨rfl, h⟩ := hq
      exact h
  · replace h := h.2 c
    refine zj_iload_n dX10_code_11 rfl rfl ?_
    refine zj_aload_n dX10_code_12 rfl rfl ?_
    refine zj_getR (ci := 10) (j := 1) dX10_code_13 wf_X10_18 (by decide) (by decide) (zk_0 hL) rfl (zr_0_1 hL) ?_
    refine zj_getI (ci := 9) (j := 0) dX10_code_16 wf_X10_104 (by decide) (by decide) (zk_19 hL) rfl ?_
    refine zj_icmp_eq (tgt := 24) dX10_code_19 (by decide) (fun c => ?_) (fun c => ?_)
    · replace h := h.1 c
      refine zj_aload_n dX10_code_24 rfl rfl ?_
      refine zj_getR (ci := 10) (j := 2) dX10_code_25 wf_X10_26 (by decide) (by decide) (zk_0 hL) rfl (zr_0_2 hL) ?_
      refine zj_iload_n dX10_code_28 rfl rfl ?_
      refine zj_aload_n dX10_code_29 rfl rfl ?_
      refine zj_getR (ci := 10) (j := 0) dX10_code_30 wf_X10_14 (by decide) (by decide) (zk_0 hL) rfl (zr_0_0 hL) ?_
      refine zj_getI (ci := 9) (j := 0) dX10_code_33 wf_X10_104 (by decide) (by decide) (zk_1 hL) rfl ?_
      refine zj_icmp_ne (tgt := 46) dX10_code_36 (by decide) (fun c => ?_) (fun c => ?_)
      · replace h := h.1 c
        refine zj_aload_n dX10_code_46 rfl rfl ?_
        refine zj_getR (ci := 10) (j := 1) dX10_code_47 wf_X10_18 (by decide) (by decide) (zk_0 hL) rfl (zr_0_1 hL) ?_
        refine zj_callVN (M' := mX0_startAnew) (avs := [.ref 19]) (st := []) (ci := 0) dX10_code_50 wm_X0_startAnew (by simp [z_nw, mX0_startAnew]) rfl wi_X0_startAnew ws_X0_startAnew (by decide) (zk_37 hL) rfl rfl (by decide) rfl (Nat.le_of_ble_eq_true rfl) (Nat.le_of_ble_eq_true rfl) ⟨Or.inl (z_k0 (zk_0 hL)), trivial⟩ trivial (z_J.mono h (fun r S1 v3 hq => ?_))
        obtain ⟨rfl, h⟩ := hq
        exact h
      · replace h := h.2 c
        refine zj_aload_n dX10_code_39 rfl rfl ?_
        refine zj_getR (ci := 10) (j := 0) dX10_code_40 wf_X10_14 (by decide) (by decide) (zk_0 hL) rfl (zr_0_0 hL) ?_
        refine zj_goto (tgt := 50) dX10_code_43 (by decide) ?_
        refine zj_callVN (M' := mX0_startAnew) (avs := [.ref 1]) (st := []) (ci := 0) dX10_code_50 wm_X0_startAnew (by simp [z_nw, mX0_startAnew]) rfl wi_X0_startAnew ws_X0_startAnew (by decide) (zk_37 hL) rfl rfl (by decide) rfl (Nat.le_of_ble_eq_true rfl) (Nat.le_of_ble_eq_true rfl) ⟨Or.inl (z_k0 (zk_0 hL)), trivial⟩ trivial (z_J.mono h (fun r S1 v4 hq => ?_))
        obtain ⟨rfl, h⟩ := hq
        exact h
    · replace h := h.2 c
      refine zj_iconst (x := (-1)) dX10_code_22 rfl ?_
      exact zj_iret dX10_code_23 rfl rfl h
theorem sg_X10_code_53 {G : z_G} {d : Nat} {S : z_Shp} {v : z_Dat} {Q : Option Value → z_Shp → z_Dat → Prop} {x1 : Int32} {w_37 : Nat} (hL : z_L S) (rw_37 : z_r S 37 0 = some w_37) (hw_37 : z_isW w_37)
    (h : ∀ v1, v1 = z_u v 59 0 0 → (Q (some (.int (v1 w_37 1))) S v1)) :
    z_J G d mX10_code (53, [.ref 0, .int x1], [], S, v) Q := by
  refine zj_aload_n dX10_code_53 rfl rfl ?_
  refine zj_getR (ci := 10) (j := 6) dX10_code_54 wf_X10_44 (by decide) (by decide) (zk_0 hL) rfl (zr_0_6 hL) ?_
  refine zj_iconst (x := 0) dX10_code_57 rfl ?_
  refine zj_putI (ci := 2) (j := 0) dX10_code_58 wf_X10_110 (by decide) (by decide) (zk_59 hL) rfl rfl rfl rfl (fun v1 ev1 => ?_)
  replace h := h v1 ev1
  refine zj_aload_n dX10_code_61 rfl rfl ?_
  refine zj_getR (ci := 10) (j := 2) dX10_code_62 wf_X10_26 (by decide) (by decide) (zk_0 hL) rfl (zr_0_2 hL) ?_
  refine zj_getR (ci := 0) (j := 0) dX10_code_65 wf_X10_113 (by decide) (by decide) (zk_37 hL) rfl rw_37 ?_
  refine zj_getI (ci := 9) (j := 1) dX10_code_68 wf_X10_116 (by decide) (by decide) (zWk0 hL hw_37) rfl ?_
  exact zj_iret dX10_code_71 rfl rfl h
/-- what stays over code and restore -/
def m_cf (j : Nat) : Prop := j = 8 ∨ j = 20 ∨ j = 42 ∨ j = 56 ∨ j = 65
def m_ck (v v1 : z_Dat) : Prop := (∀ b, b < 223 ∨ b = 225 ∨ b = 228 ∨ b = 229 ∨ b = 248 ∨ b = 256 ∨ b = 257 ∨ 260 ≤ b → v1 b = v b) ∧ ∀ j, m_cf j → v1 223 j = v 223 j
theorem m_hk.ck {v v1 : z_Dat} (h : m_hk v v1) : m_ck v v1 := ⟨fun b hb => h.1 b (by omega), fun j hj => by unfold m_cf at hj; exact h.2 j (by unfold m_hf; omega)⟩
theorem m_ck.tr {v v1 v2 : z_Dat} (h1 : m_ck v v1) (h2 : m_ck v1 v2) : m_ck v v2 := ⟨fun b hb => (h2.1 b hb).trans (h1.1 b hb), fun b hb => (h2.2 b hb).trans (h1.2 b hb)⟩
def a_szs (x1 : Int32) (D : Nat) : Prop := (D = 3 ∨ D = 5) ∧ x1 = nI D
theorem a_szs_u {x1 : Int32} (i j : Nat) (h : a_szs x1 i) (g : a_szs x1 j) : i = j := (nI_eq (by have := h.1; omega) (by have := g.1; omega)).mp (h.2.symm.trans g.2)
def c_Im (S : z_Shp) (v : z_Dat) (ik : Nat → Nat) (ir : Nat → Nat → Nat) : Prop := ∀ k, k < 2 → (ik k ≤ 1 ∧ v 58 k = nI (ik k) ∧ (ik k = 1 → p_F S v (203 + 10 * k) (ir k)))
def m_Im (v : z_Dat) (ik : Nat → Nat) (ir : Nat → Nat → Nat) : Prop := ∀ k, k < 2 → (v 228 k = nI (ik k) ∧ (ik k = 1 → ∀ j, j < 71 → v 225 (71 * k + j) = nI (ir k j)))
def a_rs (ik : Nat → Nat) (x1 : Int32) (k : Nat) : Prop := k < 2 ∧ x1 = nI k ∧ ik k = 1
section CD
variable {G : z_G} {d : Nat} {S : z_Shp} {v v0 : z_Dat} {Q : Option Value → z_Shp → z_Dat → Prop} {ρ : Nat → Nat} {B : Nat × Nat × Nat} {n : Nat} {r ir : Nat → Nat → Nat} {ik : Nat → Nat} {x1 : Int32}
theorem sp_X10_code (hd : 2 ≤ d) (hI : e_I B S) (hW : p_Ws v) (hH : c_H S v n r)
    (h1 : ∀ S1 v1 D, a_szs x1 D → p_F S1 v1 37 (p_nw D) → c_H S1 v1 0 r → e_T B 37 140 S S1 → c_hk v v1 → Q (some (.int (nI (D * D)))) S1 v1)
    (h0 : (¬ ∃ D, a_szs x1 D) → Q (some (.int (-1))) S v) : z_J G d mX10_code (0, [.ref 0, .int x1], [], S, v) Q := by
  obtain ⟨d, rfl⟩ : ∃ e, d = e + 1 := ⟨d - 1, by omega⟩
  have go : ∀ w D, p_wd w D → x1 = nI D → z_J G d mX0_startAnew (0, [.ref 37, .ref w, .null], [], S, v) (fun r S1 v1 => r = none ∧ z_J G (d + 1) mX10_code (53, [.ref 0, .int x1], [], S1, v1) Q) := by
    intro w D hwd e
    have hwl : w = 1 ∨ w = 19 := p_wdW hwd
    refine sp_X0_startAnew (by omega) hI.1.k (by omega) zF_37 hwd (fun v1 F1 f1 => ⟨rfl, ?_⟩)
    have hT : e_T B 37 140 S (z_sr S 37 0 (some w)) := by
      obtain ⟨hL, aL, aO, L, q1, q2⟩ := hI
      have hne : ∀ a, a ≠ 37 → z_r (z_sr S 37 0 (some w)) a = z_r S a := fun a ha => by
        funext i
        show (if a = 37 ∧ i = 0 then _ else z_r S a i) = _
        rw [if_neg (fun z => ha z.1)]
      refine ⟨⟨hL.sr (zF_lr zF_37), aL, aO, L, ?_, q2⟩, fun a _ _ a3 => hne a (by omega)⟩
      unfold e_Pa
      rw [hne 164 (by omega)]
      exact q1
    have F0 := F1
    obtain ⟨⟨w', hw', hwd'⟩, -⟩ := F1
    have hW1 : p_Ws v1 := hW.fr (fun a a1 a2 => f1 a (by omega))
    refine sg_X10_code_53 hT.1.1 hw' (p_wdW hwd') (fun v2 e2 => ?_)
    have hwl' : w' = 1 ∨ w' = 19 := p_wdW hwd'
    rw [show v2 w' = v1 w' by rw [e2, z_u_ne (by omega)], (p_wdP hW1 hwd').2.1]
    obtain ⟨q1, q2, t, ht, q3, q4⟩ := hH
    exact h1 _ v2 D ⟨p_wdd hwd, e⟩ (F0.fr (fun a a1 a2 => by rw [e2, z_u_ne (by omega)])) ⟨by rw [e2, z_ue rfl rfl]; rfl, by omega, t, ht, by rw [e2, z_un (by omega), f1 59 (by omega)]; exact q3, fun i hi => absurd hi (Nat.not_lt_zero i)⟩ hT (fun b hb => by rw [e2, z_u_ne (by omega)]; exact f1 b (by omega))
  refine sg_X10_code_0 hI.1 ?_
  rw [hW.1.1, hW.2.1]
  refine ⟨fun c => ⟨fun c2 => absurd c c2, fun _ => go 1 3 (Or.inl ⟨rfl, rfl⟩) c⟩, fun c => ⟨fun c2 => ⟨fun _ => go 19 5 (Or.inr ⟨rfl, rfl⟩) c2, fun c3 => absurd c3 c⟩, fun c2 => h0 (fun ⟨D, hD, e⟩ => ?_)⟩⟩
  rcases hD with rfl | rfl
  · exact c e
  · exact c2 e
theorem sp_X11_code (hd : 4 ≤ d) (hL : z_L S) (hH : m_H v n r)
    (h1 : ∀ v1 D, a_szs x1 D → p_M v1 (p_nw D) → p_MT v1 D → m_H v1 0 r → m_ck v v1 → Q (some (.int (nI (D * D)))) S v1)
    (h0 : ∀ v1, (¬ ∃ D, a_szs x1 D) → m_pk v v1 → Q (some (.int (-1))) S v1) : z_J G d mX11_code (0, [.ref 223, .int x1], [], S, v) Q := by
  obtain ⟨d, rfl⟩ : ∃ e, d = e + 1 := ⟨d - 1, by omega⟩
  refine sg_X11_code_0 hL (fun v1 e1 => ?_)
  have f0 : m_f6 v v1 := by rw [e1]; exact m_f6.u0
  have go : ∀ D, (D = 3 ∨ D = 5) → x1 = nI D → z_J G d mX11_begins (0, [.ref 223, .int x1, .null], [], S, v1) (fun r S1 v2 => r = none ∧ S1 = S ∧ (∀ v3, v3 = z_u v2 223 6 0 → (Q (some (.int ((v3 224 0) * (v3 224 0)))) S v3))) := by
    intro D hD e
    subst e
    refine sp_X11_begins (by omega) hL.k (by omega) hD (fun v2 M2 T2 f2 g2 => ⟨rfl, rfl, fun v3 e3 => ?_⟩)
    have M3 : p_M v3 (p_nw D) := M2.fr (by rw [e3, z_u_ne (by omega)])
    rw [M3 0 (by omega), p_nw_0, pk_mul]
    refine h1 v3 D ⟨hD, rfl⟩ M3 (T2.fr (by rw [e3, z_un (by omega)]) (fun a a1 a2 => by rw [e3, z_u_ne (by omega)])) ⟨by rw [e3, z_ue rfl rfl]; rfl, by omega, fun i hi => absurd hi (Nat.not_lt_zero i)⟩ (f0.pk.hk.ck.tr ⟨fun b hb => ?_, fun j hj => ?_⟩)
    · rw [e3, z_u_ne (by omega)]; exact f2 b (by omega) (by omega) (by omega)
    · unfold m_cf at hj
      rw [e3, z_un (by omega)]; exact g2 j (by omega)
  refine ⟨fun c => go 3 (Or.inl rfl) c, fun c => ⟨fun c2 => go 5 (Or.inr rfl) c2, fun c2 => h0 v1 (fun ⟨D, hD, e⟩ => ?_) f0.pk⟩⟩
  rcases hD with rfl | rfl
  · exact c e
  · exact c2 e
theorem sp_X10_restore (hd : 2 ≤ d) (hI : e_I B S) (hH : c_H S v n r) (hM : c_Im S v ik ir)
    (h1 : ∀ S1 v1 k, a_rs ik x1 k → p_F S1 v1 37 (ir k) → c_H S1 v1 0 r → e_T B 37 140 S S1 → c_hk v v1 → Q (some (.int 1)) S1 v1)
    (h0 : (¬ ∃ k, a_rs ik x1 k) → Q (some (.int 0)) S v) : z_J G d mX10_restore (0, [.ref 0, .int x1], [], S, v) Q := by
  obtain ⟨d, rfl⟩ : ∃ e, d = e + 1 := ⟨d - 1, by omega⟩
  refine sg_X10_restore_0 hI.1 ⟨fun c => h0 (fun ⟨k, hk, e, _⟩ => nI_pos (n := k) (by omega) (by rw [← e]; exact c)), fun c => ?_⟩
  obtain ⟨k, hk, rfl⟩ := nI_of c
  refine ⟨fun c2 => h0 (fun ⟨k', hk', e, _⟩ => absurd c2 (by rw [e]; exact nI_ge (b := 2) hk' (by omega))), fun c2 => ?_⟩
  have c2 : k < 2 := Nat.not_le.mp (fun z => c2 (nI_le (a := 2) z hk))
  obtain ⟨m1, m2, m3⟩ := hM k c2
  have hin : vp_in (nI k) 2 := vp_in_nI (by omega) (by omega)
  rw [nI_clamp (by omega), m2]
  refine ⟨hin, fun c3 => ?_, fun c3 => h0 (fun ⟨k', hk', e, q⟩ => ?_)⟩
  · have e1 : ik k = 1 := by
      rcases (show ik k = 0 ∨ ik k = 1 by omega) with z | z
      · rw [z] at c3; exact absurd rfl c3
      · exact z
    refine ⟨hin, sp_X0_copyFrom (by omega) hI.1 zF_37 (zF_img c2) (by omega) (m3 e1) (fun v1 F1 f1 => ⟨rfl, ?_⟩)⟩
    have hT := hI.T (g := 203 + 10 * k) (lo := 37) (hi := 140) zF_37 (by omega) (by omega)
    refine sg_X10_restore_33 hT.1.1 (fun v2 e2 => ?_)
    obtain ⟨q1, q2, t, ht, q3, q4⟩ := hH
    exact h1 _ v2 k ⟨c2, rfl, e1⟩ (F1.fr (fun a a1 a2 => by rw [e2, z_u_ne (by omega)])) ⟨by rw [e2, z_ue rfl rfl]; rfl, by omega, t, ht, by rw [e2, z_un (by omega), f1 59 (by omega)]; exact q3, fun i hi => absurd hi (Nat.not_lt_zero i)⟩ hT (fun b hb => by rw [e2, z_u_ne (by omega)]; exact f1 b (by omega))
  · have ek : k = k' := (nI_eq hk (by omega)).mp e
    rw [ek, q] at c3
    exact absurd c3 (by decide)
theorem sp_X11_restore (hd : 3 ≤ d) (hL : z_L S) (hH : m_H v n r) (hM : m_Im v ik ir) (hV : ∀ k, k < 2 → ik k ≤ 1 ∧ (ik k = 1 → p_V (ir k)))
    (h1 : ∀ v1 k, a_rs ik x1 k → p_M v1 (ir k) → p_MT v1 (ir k 0) → m_H v1 0 r → m_ck v v1 → Q (some (.int 1)) S v1)
    (h0 : ∀ v1, (¬ ∃ k, a_rs ik x1 k) → m_pk v v1 → Q (some (.int 0)) S v1) : z_J G d mX11_restore (0, [.ref 223, .int x1], [], S, v) Q := by
  obtain ⟨d, rfl⟩ : ∃ e, d = e + 1 := ⟨d - 1, by omega⟩
  have l1 : z_l S 224 = 71 := zl_224 hL
  have l2 : z_l S 225 = 142 := zl_225 hL
  refine sg_X11_restore_0 hL (fun v1 e1 => ?_)
  have f0 : m_f6 v v1 := by rw [e1]; exact m_f6.u0
  rw [show (0 ≤ x1 ∧ x1 ≤ 1) ↔ ∃ i, i < 2 ∧ x1 = nI i from ix_le (n := 2) (by omega)]
  refine ⟨fun ⟨k, hk, e⟩ => ?_, fun c => h0 v1 (fun ⟨k, q⟩ => c ⟨k, q.1, q.2.1⟩) f0.pk⟩
  subst e
  obtain ⟨m2, m3⟩ := hM k hk
  rw [nI_clamp (by omega), show v1 228 k = nI (ik k) by rw [e1, z_u_ne (by omega)]; exact m2, show (71 : Int32) = nI 71 from rfl, pk_mul]
  refine ⟨vp_in_nI (by omega) (by omega), fun c3 => ?_, fun c3 => h0 v1 (fun ⟨k', hk', e, q⟩ => ?_) f0.pk⟩
  · have ek1 : ik k = 1 := by
      rcases (show ik k = 0 ∨ ik k = 1 by have := (hV k hk).1; omega) with z | z
      · rw [z] at c3; exact absurd rfl c3
      · exact z
    refine sp_X11_copies (y := 0) (zk_225 hL) (zk_224 hL) (by omega) (by omega) (by omega) (by omega) (by omega) (fun g g1 g2 => ⟨rfl, rfl, ?_⟩)
    have M2 : p_M (z_ua v1 224 g) (ir k) := fun j hj => by
      have := g1 j hj
      rw [Nat.zero_add] at this
      rw [z_uae rfl, this, e1, z_u_ne (by omega)]; exact m3 ek1 j hj
    have hV1 := (hV k hk).2 ek1
    refine sp_X11_lays (by omega) hL.k (by omega) hV1.1 (M2 0 (by omega)) (fun v3 T3 f3 g3 => ⟨rfl, rfl, fun v4 e4 => ?_⟩)
    refine h1 v4 k ⟨hk, rfl, ek1⟩ (M2.fr (by rw [e4, z_u_ne (by omega)]; exact f3 224 (by omega) (by omega))) (T3.fr (by rw [e4, z_un (by omega)]) (fun a a1 a2 => by rw [e4, z_u_ne (by omega)])) ⟨by rw [e4, z_ue rfl rfl]; rfl, by omega, fun i hi => absurd hi (Nat.not_lt_zero i)⟩ (f0.pk.hk.ck.tr ⟨fun b hb => ?_, fun j hj => ?_⟩)
    · rw [e4, z_u_ne (by omega), f3 b (by omega) (by omega), z_ua_ne (by omega)]
    · unfold m_cf at hj
      rw [e4, z_un (by omega), g3 j (by omega), z_uan (by omega)]
  · have ek : k = k' := (nI_eq (by omega) (by omega)).mp e
    rw [ek, q] at c3
    exact absurd c3 (by decide)
end CD
