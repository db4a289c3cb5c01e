/-! CONSTRUCTORS: fabrics, weaves, the history, the pairing, the reference -/
def k_fab (f : Nat) : Bool := decide (f + 10 ≤ 262) && decide (z_LK.getD f 0 = 1) && decide (z_LK.getD (f + 1) 0 = 21) && decide (z_LL.getD (f + 1) 0 = 2) && decide (z_lrk f 2 = some (f + 1)) && decide (z_LK.getD (f + 2) 0 = 21) && decide (z_LL.getD (f + 2) 0 = 2) && decide (z_lrk f 3 = some (f + 2)) && k_grd (f + 3) 2 8 && decide (z_lrk f 4 = some (f + 3)) && decide (z_LK.getD (f + 6) 0 = 21) && decide (z_LL.getD (f + 6) 0 = 25) && decide (z_lrk f 5 = some (f + 6)) && k_grd (f + 7) 2 12 && decide (z_lrk f 6 = some (f + 7)) && k_full (f + 10) && decide (z_lrk f 0 = none) && decide (z_LL.getD f 0 = 0) && decide (z_LSR.getD f none = none)
theorem k_fab_all : ([37, 47, 61, 71, 81, 91, 101, 111, 121, 131, 203, 213] : List Nat).all k_fab = true := by decide +kernel
theorem k_fab_of {f : Nat} (hf : z_isF f) : f + 10 ≤ 262 ∧ z_LK.getD f 0 = 1 ∧ (z_LK.getD (f + 1) 0 = 21 ∧ z_LL.getD (f + 1) 0 = 2 ∧ z_lrk f 2 = some (f + 1)) ∧ (z_LK.getD (f + 2) 0 = 21 ∧ z_LL.getD (f + 2) 0 = 2 ∧ z_lrk f 3 = some (f + 2)) ∧ (k_grd (f + 3) 2 8 = true ∧ z_lrk f 4 = some (f + 3)) ∧ (z_LK.getD (f + 6) 0 = 21 ∧ z_LL.getD (f + 6) 0 = 25 ∧ z_lrk f 5 = some (f + 6)) ∧ (k_grd (f + 7) 2 12 = true ∧ z_lrk f 6 = some (f + 7)) ∧ k_full (f + 10) = true ∧ z_lrk f 0 = none ∧ z_LL.getD f 0 = 0 ∧ z_LSR.getD f none = none := by
  have h := List.all_eq_true.mp k_fab_all f hf
  unfold k_fab at h
  simp only [Bool.and_eq_true, decide_eq_true_eq] at h
  obtain ⟨⟨⟨⟨⟨⟨⟨⟨⟨⟨⟨⟨⟨⟨⟨⟨⟨⟨a1, a2⟩, a3⟩, a4⟩, a5⟩, a6⟩, a7⟩, a8⟩, a9⟩, a10⟩, a11⟩, a12⟩, a13⟩, a14⟩, a15⟩, a16⟩, a17⟩, a18⟩, a19⟩ := h
  exact ⟨a1, a2, ⟨a3, a4, a5⟩, ⟨a6, a7, a8⟩, ⟨a9, a10⟩, ⟨a11, a12, a13⟩, ⟨a14, a15⟩, a16, a17, a18, a19⟩
theorem k_pF {S S1 : z_Shp} {v v1 : z_Dat} {f : Nat} {ρ : Nat → Nat} (h : p_F S v f ρ) (hf : ∀ a, f ≤ a → a < f + 10 → z_r S1 a = z_r S a ∧ v1 a = v a) : p_F S1 v1 f ρ := by
  obtain ⟨⟨w, h1, h2⟩, h3, h4, h5⟩ := h
  refine ⟨⟨w, by rw [(hf f (by omega) (by omega)).1]; exact h1, h2⟩, by rw [(hf f (by omega) (by omega)).2]; exact h3, fun κ hκ => ⟨?_, ?_, fun t ht => ?_, fun k hk => ?_⟩, fun q hq => ?_⟩
  · rw [(hf (f + 1) (by omega) (by omega)).2]; exact (h4 κ hκ).1
  · rw [(hf (f + 2) (by omega) (by omega)).2]; exact (h4 κ hκ).2.1
  · rw [(hf (f + 4 + κ) (by omega) (by omega)).2]; exact (h4 κ hκ).2.2.1 t ht
  · rw [(hf (f + 8 + κ) (by omega) (by omega)).2]; exact (h4 κ hκ).2.2.2 k hk
  · rw [(hf (f + 6) (by omega) (by omega)).2]; exact h5 q hq
theorem k_pW {v v1 : z_Dat} {w D : Nat} (h : p_W v w D) (hf : ∀ a, w ≤ a → a < w + 18 → v1 a = v a) : p_W v1 w D := by
  obtain ⟨h1, h2, h3, h4⟩ := h
  refine ⟨by rw [hf w (by omega) (by omega)]; exact h1, by rw [hf w (by omega) (by omega)]; exact h2, by rw [hf w (by omega) (by omega)]; exact h3, fun κ hκ => ⟨?_, ?_, fun k hk => ⟨?_, ?_, ?_⟩, fun q hq => ⟨?_, ?_⟩⟩⟩
  · rw [hf (w + 16) (by omega) (by omega)]; exact (h4 κ hκ).1
  · rw [hf (w + 17) (by omega) (by omega)]; exact (h4 κ hκ).2.1
  · rw [hf (w + 2 + κ) (by omega) (by omega)]; exact ((h4 κ hκ).2.2.1 k hk).1
  · rw [hf (w + 5 + κ) (by omega) (by omega)]; exact ((h4 κ hκ).2.2.1 k hk).2.1
  · rw [hf (w + 8 + κ) (by omega) (by omega)]; exact ((h4 κ hκ).2.2.1 k hk).2.2
  · rw [hf (w + 11 + κ) (by omega) (by omega)]; exact ((h4 κ hκ).2.2.2 q hq).1
  · rw [hf (w + 14 + κ) (by omega) (by omega)]; exact ((h4 κ hκ).2.2.2 q hq).2
theorem k_okw {n w D : Nat} {S : z_Shp} (h : z_Li n S) (hwd : p_wd w D) (hn : w + 18 ≤ n) : z_k S w ≠ 0 ∨ z_X ≤ w := by
  rcases hwd with ⟨rfl, -⟩ | ⟨rfl, -⟩
  · exact h.ok (by omega) rfl
  · exact h.ok (by omega) rfl
section KF
variable {G : z_G} {d : Nat} {S S0 : z_Shp} {v v0 : z_Dat} {Q : Option Value → z_Shp → z_Dat → Prop} {n0 cc ss f w D : Nat}
theorem sp_X0_init (hd : 1 ≤ d) (hf : z_isF f) (hwd : p_wd w D) (hwf : w + 18 ≤ f) (h0 : k_T f S0 v0 (f + 1) S v cc ss) (h : ∀ S1 v1, z_Li (f + 10) S1 → z_c S1 = z_c S0 + (cc + 9) → z_s S1 = z_s S0 + (ss + 73) → (∀ a, a < f → z_r S1 a = z_r S0 a ∧ v1 a = v0 a) → p_F S1 v1 f (p_nw D) → Q none S1 v1) : z_J G (d + 1) mX0_init (0, [.ref f, .ref w], [], S, v) Q := by
  obtain ⟨a1, a2, ⟨a3, a4, a5⟩, ⟨a6, a7, a8⟩, ⟨a9, a10⟩, ⟨a11, a12, a13⟩, ⟨a14, a15⟩, a16, a17, -, -⟩ := k_fab_of hf
  refine zj_aload_n dX0_init_0 rfl rfl ?_
  refine zj_objI dX0_init_1 wl_X0_3 (Nat.le_of_ble_eq_true rfl) ?_
  refine zj_aload_n dX0_init_4 rfl rfl ?_
  refine zj_iconst (x := 2) dX0_init_5 rfl ?_
  refine k_fldI (ci := 0) (j := 2) (a := f) (len := 2) h0 dX0_init_6 dX0_init_8 wf_X0_9 (by decide) (by decide) rfl rfl rfl rfl (fun _ => rfl) (fun _ => rfl) rfl (by decide) (by omega) a3 a4 (by omega) (by omega) a2 a5 ⟨h0.1.ok (by omega) a2, k_okw h0.1 hwd (by omega), trivial⟩ ⟨h0.1.ok (by omega) a2, trivial⟩ (fun S1 v1 h1 => ?_)
  refine zj_aload_n dX0_init_11 rfl rfl ?_
  refine zj_iconst (x := 2) dX0_init_12 rfl ?_
  refine k_fldI (ci := 0) (j := 3) (a := f) (len := 2) h1 dX0_init_13 dX0_init_15 wf_X0_15 (by decide) (by decide) rfl rfl rfl rfl (fun _ => rfl) (fun _ => rfl) rfl (by decide) (by omega) a6 a7 (by omega) (by omega) a2 a8 ⟨h1.1.ok (by omega) a2, k_okw h1.1 hwd (by omega), trivial⟩ ⟨h1.1.ok (by omega) a2, trivial⟩ (fun S2 v2 h2 => ?_)
  refine zj_aload_n dX0_init_18 rfl rfl ?_
  refine zj_iconst (x := 2) dX0_init_19 rfl ?_
  refine zj_bipush (x := 8) dX0_init_20 rfl ?_
  refine k_fldG (ci := 0) (j := 4) (a := f) (N := 2) (m := 8) h2 dX0_init_22 wk_X0_18 dX0_init_26 wf_X0_20 (by decide) (by decide) rfl rfl rfl rfl (fun _ => rfl) (fun _ => rfl) rfl rfl (by decide) (by decide) a9 (by omega) (by omega) a2 a10 ⟨h2.1.ok (by omega) a2, k_okw h2.1 hwd (by omega), trivial⟩ ⟨h2.1.ok (by omega) a2, trivial⟩ (fun S3 v3 h3 => ?_)
  refine zj_aload_n dX0_init_29 rfl rfl ?_
  refine zj_bipush (x := 25) dX0_init_30 rfl ?_
  refine k_fldI (ci := 0) (j := 5) (a := f) (len := 25) h3 dX0_init_32 dX0_init_34 wf_X0_23 (by decide) (by decide) rfl rfl rfl rfl (fun _ => rfl) (fun _ => rfl) rfl (by decide) (by omega) a11 a12 (by omega) (by omega) a2 a13 ⟨h3.1.ok (by omega) a2, k_okw h3.1 hwd (by omega), trivial⟩ ⟨h3.1.ok (by omega) a2, trivial⟩ (fun S4 v4 h4 => ?_)
  refine zj_aload_n dX0_init_37 rfl rfl ?_
  refine zj_iconst (x := 2) dX0_init_38 rfl ?_
  refine zj_bipush (x := 12) dX0_init_39 rfl ?_
  refine k_fldG (ci := 0) (j := 6) (a := f) (N := 2) (m := 12) h4 dX0_init_41 wk_X0_18 dX0_init_45 wf_X0_26 (by decide) (by decide) rfl rfl rfl rfl (fun _ => rfl) (fun _ => rfl) rfl rfl (by decide) (by decide) a14 (by omega) (by omega) a2 a15 ⟨h4.1.ok (by omega) a2, k_okw h4.1 hwd (by omega), trivial⟩ ⟨h4.1.ok (by omega) a2, trivial⟩ (fun S5 v5 h5 => ?_)
  refine zj_aload_n dX0_init_48 rfl rfl ?_
  refine zj_aload_n dX0_init_49 rfl rfl ?_
  refine zj_callV (M' := mX0_startAnew) (avs := [.ref w]) (st := []) (ci := 0) dX0_init_50 wm_X0_startAnew wl_X0_29 wi_X0_startAnew ws_X0_startAnew (by decide) (h5.1.kk (by omega) a2) rfl rfl (by decide) rfl (Nat.le_of_ble_eq_true rfl) (Nat.le_of_ble_eq_true rfl) ⟨h5.1.ok (by omega) a2, k_okw h5.1 hwd (by omega), trivial⟩ trivial ?_
  refine sp_X0_startAnew hd (h5.1.k a16) ⟨by omega, by omega⟩ hf hwd (fun v6 hF hfr => ?_)
  refine zj_vret dX0_init_53 rfl (h _ v6 (h5.1.sr0 a17) ?_ ?_ (fun a ha => ⟨?_, ?_⟩) hF)
  · show z_c S5 = _
    rw [h5.2.1]
  · show z_s S5 = _
    rw [h5.2.2.1]
  · rw [← (h5.2.2.2.1 a ha).1]
    funext i
    show (if a = f ∧ i = 0 then _ else z_r S5 a i) = _
    rw [if_neg (fun z => by omega)]
  · rw [hfr a (by omega)]; exact (h5.2.2.2.1 a ha).2
def k_wv (w : Nat) : Bool := decide (w + 18 ≤ 262) && decide (z_LK.getD w 0 = 10) && k_grd (w + 1) 2 12 && decide (z_lrk w 3 = some (w + 1)) && k_grd (w + 4) 2 12 && decide (z_lrk w 4 = some (w + 4)) && k_grd (w + 7) 2 12 && decide (z_lrk w 5 = some (w + 7)) && k_grd (w + 10) 2 25 && decide (z_lrk w 6 = some (w + 10)) && k_grd (w + 13) 2 25 && decide (z_lrk w 7 = some (w + 13)) && decide (z_LK.getD (w + 16) 0 = 21) && decide (z_LL.getD (w + 16) 0 = 2) && decide (z_lrk w 8 = some (w + 16)) && decide (z_LK.getD (w + 17) 0 = 21) && decide (z_LL.getD (w + 17) 0 = 2) && decide (z_lrk w 9 = some (w + 17)) && k_full (w + 18)
theorem k_wv_of {w : Nat} (hw : z_isW w) : w + 18 ≤ 262 ∧ z_LK.getD w 0 = 10 ∧ k_grd (w + 1) 2 12 = true ∧ z_lrk w 3 = some (w + 1) ∧ k_grd (w + 4) 2 12 = true ∧ z_lrk w 4 = some (w + 4) ∧ k_grd (w + 7) 2 12 = true ∧ z_lrk w 5 = some (w + 7) ∧ k_grd (w + 10) 2 25 = true ∧ z_lrk w 6 = some (w + 10) ∧ k_grd (w + 13) 2 25 = true ∧ z_lrk w 7 = some (w + 13) ∧ z_LK.getD (w + 16) 0 = 21 ∧ z_LL.getD (w + 16) 0 = 2 ∧ z_lrk w 8 = some (w + 16) ∧ z_LK.getD (w + 17) 0 = 21 ∧ z_LL.getD (w + 17) 0 = 2 ∧ z_lrk w 9 = some (w + 17) ∧ k_full (w + 18) = true := by
  have h : k_wv w = true := by rcases hw with rfl | rfl <;> decide +kernel
  unfold k_wv at h
  simp only [Bool.and_eq_true, decide_eq_true_eq, and_assoc] at h
  exact h
/-- the fields of a weave behind its rows -/
theorem k_wvp (hw : z_isW w) (hD : D = 3 ∨ D = 5) (h : ∀ v1, v1 w 0 = nI D → v1 w 1 = nI (D * D) → v1 w 2 = nI (t_K D) → (∀ b, b ≠ w → v1 b = v b) → z_J G d mX9_init (97, [.ref w, .int (nI D), .null], [], S, v1) Q) (hk : z_k S w = 10) : z_J G d mX9_init (73, [.ref w, .int (nI D), .null], [], S, v) Q := by
  refine zj_aload_n dX9_init_73 rfl rfl ?_
  refine zj_iload_n dX9_init_74 rfl rfl ?_
  refine zj_putIF (ci := 9) (j := 0) dX9_init_75 wf_X9_35 (by decide) (by decide) hk rfl rfl rfl rfl rfl rfl (fun v1 e1 => ?_)
  refine zj_aload_n dX9_init_78 rfl rfl ?_
  refine zj_iload_n dX9_init_79 rfl rfl ?_
  refine zj_iload_n dX9_init_80 rfl rfl ?_
  refine zj_imul dX9_init_81 ?_
  refine zj_putIF (ci := 9) (j := 1) dX9_init_82 wf_X9_39 (by decide) (by decide) hk rfl rfl rfl rfl rfl rfl (fun v2 e2 => ?_)
  refine zj_aload_n dX9_init_85 rfl rfl ?_
  refine zj_aload_n dX9_init_86 rfl rfl ?_
  refine zj_getI (ci := 9) (j := 1) dX9_init_87 wf_X9_39 (by decide) (by decide) hk rfl ?_
  refine zj_iconst (x := 1) dX9_init_90 rfl ?_
  refine zj_isub dX9_init_91 ?_
  refine zj_iconst (x := 2) dX9_init_92 rfl ?_
  refine zj_idiv dX9_init_93 (by decide) ?_
  refine zj_putIF (ci := 9) (j := 2) dX9_init_94 wf_X9_42 (by decide) (by decide) hk rfl rfl rfl rfl rfl rfl (fun v3 e3 => ?_)
  have g1 : v2 w 1 = nI D * nI D := by rw [e2, z_u_eq]; simp [upd]
  refine h v3 ?_ ?_ ?_ (fun b hb => by rw [e3, z_u_ne hb, e2, z_u_ne hb, e1, z_u_ne hb])
  · rw [e3, z_u_eq]; simp only [upd]; rw [if_neg (by decide), e2, z_u_eq]; simp only [upd]; rw [if_neg (by decide), e1, z_u_eq]; simp [upd]
  · rw [e3, z_u_eq]; simp only [upd]; rw [if_neg (by decide), g1]; rcases hD with rfl | rfl <;> decide +kernel
  · rw [e3, z_u_eq]; simp only [upd]; rw [if_pos trivial, g1]; rcases hD with rfl | rfl <;> decide +kernel
theorem k_wvl {nn κ : Nat} (hd : 1 ≤ d) (hL : z_Lk nn S) (hn : w + 18 ≤ nn) (hw : z_isW w) (hD : D = 3 ∨ D = 5) (h0 : v w 0 = nI D) (h1 : v w 1 = nI (D * D)) (h2 : v w 2 = nI (t_K D)) (hκ : κ < 2)
    (h : ∀ v1, c_Fk D v1 w κ (t_K D) → c_Qk D v1 w κ (D * D) → (∀ b, b ≠ w + 2 + κ → b ≠ w + 5 + κ → b ≠ w + 8 + κ → b ≠ w + 11 + κ → b ≠ w + 14 + κ → v1 b = v b) → z_J G (d + 1) mX9_init (99, [.ref w, .int (nI D), .int (nI (κ + 1))], [], S, v1) Q) : z_J G (d + 1) mX9_init (99, [.ref w, .int (nI D), .int (nI κ)], [], S, v) Q := by
  have hk : z_k S w = 10 := yzWk0 hL hn hw
  refine zj_iload_n dX9_init_99 rfl rfl ?_
  refine zj_iconst (x := 2) dX9_init_100 rfl ?_
  refine zj_icmp_ge (tgt := 120) dX9_init_101 (by decide) (fun c => absurd c ?_) (fun _ => ?_)
  · rcases (show κ = 0 ∨ κ = 1 by omega) with rfl | rfl <;> decide
  refine zj_aload_n dX9_init_104 rfl rfl ?_
  refine zj_iload_n dX9_init_105 rfl rfl ?_
  refine zj_callV (M' := mX9_layFaces) (avs := [.int (nI κ)]) (st := []) (ci := 9) dX9_init_106 wm_X9_layFaces wl_X9_45 wi_X9_layFaces ws_X9_layFaces (by decide) hk rfl rfl (by decide) rfl (Nat.le_of_ble_eq_true rfl) (Nat.le_of_ble_eq_true rfl) ⟨Or.inl (by rw [hk]; decide), trivial⟩ trivial ?_
  refine sp_X9_layFaces hd hL hn hw hD h0 h2 hκ (fun v1 f1 r1 => ?_)
  refine zj_aload_n dX9_init_109 rfl rfl ?_
  refine zj_iload_n dX9_init_110 rfl rfl ?_
  refine zj_callV (M' := mX9_layQubits) (avs := [.int (nI κ)]) (st := []) (ci := 9) dX9_init_111 wm_X9_layQubits wl_X9_49 wi_X9_layQubits ws_X9_layQubits (by decide) hk rfl rfl (by decide) rfl (Nat.le_of_ble_eq_true rfl) (Nat.le_of_ble_eq_true rfl) ⟨Or.inl (by rw [hk]; decide), trivial⟩ trivial ?_
  have rw0 : v1 w = v w := r1 w (by omega) (by omega) (by omega)
  refine sp_X9_layQubits hd hL hn hw hD (by rw [rw0]; exact h1) (by rw [rw0]; exact h2) hκ (fun k hk9 => (f1 k hk9).2.2) (fun v2 f2 r2 => ?_)
  refine zj_iinc (y := nI (κ + 1)) (ls2 := [.ref w, .int (nI D), .int (nI (κ + 1))]) dX9_init_114 rfl (by rcases (show κ = 0 ∨ κ = 1 by omega) with rfl | rfl <;> decide) (by decide) rfl rfl ?_
  refine zj_goto (tgt := 99) dX9_init_117 (by decide) (h v2 (fun k hk9 => ?_) f2 (fun b b1 b2 b3 b4 b5 => by rw [r2 b b4 b5, r1 b b1 b2 b3]))
  rw [r2 (w + 2 + κ) (by omega) (by omega), r2 (w + 5 + κ) (by omega) (by omega), r2 (w + 8 + κ) (by omega) (by omega)]
  exact f1 k hk9
theorem sp_X9_init (hd : 1 ≤ d) (hw : z_isW w) (hD : D = 3 ∨ D = 5) (h0 : k_T w S0 v0 (w + 1) S v cc ss) (h : ∀ S1 v1, z_Li (w + 18) S1 → z_c S1 = z_c S0 + (cc + 17) → z_s S1 = z_s S0 + (ss + 186) → (∀ a, a < w → z_r S1 a = z_r S0 a ∧ v1 a = v0 a) → p_W v1 w D → Q none S1 v1) : z_J G (d + 1) mX9_init (0, [.ref w, .int (nI D), .null], [], S, v) Q := by
  obtain ⟨a1, a2, a3, a4, a5, a6, a7, a8, a9, a10, a11, a12, a13, a14, a15, a16, a17, a18, a19⟩ := k_wv_of hw
  refine zj_aload_n dX9_init_0 rfl rfl ?_
  refine zj_objI dX9_init_1 wl_X9_3 (Nat.le_of_ble_eq_true rfl) ?_
  refine zj_aload_n dX9_init_4 rfl rfl ?_
  refine zj_iconst (x := 2) dX9_init_5 rfl ?_
  refine zj_bipush (x := 12) dX9_init_6 rfl ?_
  refine k_fldG (ci := 9) (j := 3) (a := w) (N := 2) (m := 12) h0 dX9_init_8 wk_X9_9 dX9_init_12 wf_X9_11 (by decide) (by decide) rfl rfl rfl rfl (fun _ => rfl) (fun _ => rfl) rfl rfl (by decide) (by decide) a3 (by omega) (by omega) a2 a4 ⟨h0.1.ok (by omega) a2, trivial⟩ ⟨h0.1.ok (by omega) a2, trivial⟩ (fun S1 v1 h1 => ?_)
  refine zj_aload_n dX9_init_15 rfl rfl ?_
  refine zj_iconst (x := 2) dX9_init_16 rfl ?_
  refine zj_bipush (x := 12) dX9_init_17 rfl ?_
  refine k_fldG (ci := 9) (j := 4) (a := w) (N := 2) (m := 12) h1 dX9_init_19 wk_X9_9 dX9_init_23 wf_X9_16 (by decide) (by decide) rfl rfl rfl rfl (fun _ => rfl) (fun _ => rfl) rfl rfl (by decide) (by decide) a5 (by omega) (by omega) a2 a6 ⟨h1.1.ok (by omega) a2, trivial⟩ ⟨h1.1.ok (by omega) a2, trivial⟩ (fun S2 v2 h2 => ?_)
  refine zj_aload_n dX9_init_26 rfl rfl ?_
  refine zj_iconst (x := 2) dX9_init_27 rfl ?_
  refine zj_bipush (x := 12) dX9_init_28 rfl ?_
  refine k_fldG (ci := 9) (j := 5) (a := w) (N := 2) (m := 12) h2 dX9_init_30 wk_X9_9 dX9_init_34 wf_X9_19 (by decide) (by decide) rfl rfl rfl rfl (fun _ => rfl) (fun _ => rfl) rfl rfl (by decide) (by decide) a7 (by omega) (by omega) a2 a8 ⟨h2.1.ok (by omega) a2, trivial⟩ ⟨h2.1.ok (by omega) a2, trivial⟩ (fun S3 v3 h3 => ?_)
  refine zj_aload_n dX9_init_37 rfl rfl ?_
  refine zj_iconst (x := 2) dX9_init_38 rfl ?_
  refine zj_bipush (x := 25) dX9_init_39 rfl ?_
  refine k_fldG (ci := 9) (j := 6) (a := w) (N := 2) (m := 25) h3 dX9_init_41 wk_X9_9 dX9_init_45 wf_X9_22 (by decide) (by decide) rfl rfl rfl rfl (fun _ => rfl) (fun _ => rfl) rfl rfl (by decide) (by decide) a9 (by omega) (by omega) a2 a10 ⟨h3.1.ok (by omega) a2, trivial⟩ ⟨h3.1.ok (by omega) a2, trivial⟩ (fun S4 v4 h4 => ?_)
  refine zj_aload_n dX9_init_48 rfl rfl ?_
  refine zj_iconst (x := 2) dX9_init_49 rfl ?_
  refine zj_bipush (x := 25) dX9_init_50 rfl ?_
  refine k_fldG (ci := 9) (j := 7) (a := w) (N := 2) (m := 25) h4 dX9_init_52 wk_X9_9 dX9_init_56 wf_X9_25 (by decide) (by decide) rfl rfl rfl rfl (fun _ => rfl) (fun _ => rfl) rfl rfl (by decide) (by decide) a11 (by omega) (by omega) a2 a12 ⟨h4.1.ok (by omega) a2, trivial⟩ ⟨h4.1.ok (by omega) a2, trivial⟩ (fun S5 v5 h5 => ?_)
  refine zj_aload_n dX9_init_59 rfl rfl ?_
  refine zj_iconst (x := 2) dX9_init_60 rfl ?_
  refine k_fldI (ci := 9) (j := 8) (a := w) (len := 2) h5 dX9_init_61 dX9_init_63 wf_X9_28 (by decide) (by decide) rfl rfl rfl rfl (fun _ => rfl) (fun _ => rfl) rfl (by decide) (by omega) a13 a14 (by omega) (by omega) a2 a15 ⟨h5.1.ok (by omega) a2, trivial⟩ ⟨h5.1.ok (by omega) a2, trivial⟩ (fun S6 v6 h6 => ?_)
  refine zj_aload_n dX9_init_66 rfl rfl ?_
  refine zj_iconst (x := 2) dX9_init_67 rfl ?_
  refine k_fldI (ci := 9) (j := 9) (a := w) (len := 2) h6 dX9_init_68 dX9_init_70 wf_X9_32 (by decide) (by decide) rfl rfl rfl rfl (fun _ => rfl) (fun _ => rfl) rfl (by decide) (by omega) a16 a17 (by omega) (by omega) a2 a18 ⟨h6.1.ok (by omega) a2, trivial⟩ ⟨h6.1.ok (by omega) a2, trivial⟩ (fun S7 v7 h7 => ?_)
  obtain ⟨g1, g2, g3, g4, g5⟩ := h7
  have hL := g1.k a19
  have hk : z_k S7 w = 10 := yzWk0 hL (Nat.le_refl _) hw
  refine k_wvp hw hD (fun v8 e0 e1 e2 r8 => ?_) hk
  refine zj_iconst (x := nI 0) dX9_init_97 rfl ?_
  refine zj_istore_n (ls2 := [.ref w, .int (nI D), .int (nI 0)]) dX9_init_98 rfl (by decide) rfl rfl ?_
  refine k_wvl hd hL (Nat.le_refl _) hw hD e0 e1 e2 (by omega) (fun v9 f9 q9 r9 => ?_)
  have w9 : v9 w = v8 w := r9 w (by omega) (by omega) (by omega) (by omega) (by omega)
  refine k_wvl hd hL (Nat.le_refl _) hw hD (by rw [w9]; exact e0) (by rw [w9]; exact e1) (by rw [w9]; exact e2) (by omega) (fun vA fA qA rA => ?_)
  have wA : vA w = v8 w := (rA w (by omega) (by omega) (by omega) (by omega) (by omega)).trans w9
  refine zj_iload_n dX9_init_99 rfl rfl ?_
  refine zj_iconst (x := 2) dX9_init_100 rfl ?_
  refine zj_icmp_ge (tgt := 120) dX9_init_101 (by decide) (fun _ => ?_) (fun c => absurd (by decide) c)
  refine zj_aload_n dX9_init_120 rfl rfl ?_
  refine zj_callV (M' := mX9_layBorders) (avs := []) (st := []) (ci := 9) dX9_init_121 wm_X9_layBorders wl_X9_52 wi_X9_layBorders ws_X9_layBorders (by decide) hk rfl rfl (by decide) rfl (Nat.le_of_ble_eq_true rfl) (Nat.le_of_ble_eq_true rfl) ⟨Or.inl (by rw [hk]; decide), trivial⟩ trivial ?_
  have z16 : vA (w + 16) = fun _ => 0 := by
    rw [rA (w + 16) (by omega) (by omega) (by omega) (by omega) (by omega), r9 (w + 16) (by omega) (by omega) (by omega) (by omega) (by omega), r8 (w + 16) (by omega)]
    exact g5 (w + 16) (by omega) (by omega)
  refine sp_X9_layBorders hL (Nat.le_refl _) hw hD (by rw [wA]; exact e0) (by rw [z16]) (by rw [z16]) (fun vB bB rB => ?_)
  refine zj_vret dX9_init_124 rfl (h _ vB g1 (by rw [g2]) (by rw [g3]) (fun a ha => ⟨(g4 a ha).1, ?_⟩) ⟨?_, ?_, ?_, fun κ hκ => ⟨(bB κ hκ).1, (bB κ hκ).2, fun k hk9 => ?_, fun q hq => ?_⟩⟩)
  · rw [rB a (by omega) (by omega), rA a (by omega) (by omega) (by omega) (by omega) (by omega), r9 a (by omega) (by omega) (by omega) (by omega) (by omega), r8 a (by omega)]
    exact (g4 a ha).2
  · rw [rB w (by omega) (by omega), wA]; exact e0
  · rw [rB w (by omega) (by omega), wA]; exact e1
  · rw [rB w (by omega) (by omega), wA]; exact e2
  · rw [rB (w + 2 + κ) (by omega) (by omega), rB (w + 5 + κ) (by omega) (by omega), rB (w + 8 + κ) (by omega) (by omega)]
    rcases (show κ = 0 ∨ κ = 1 by omega) with rfl | rfl
    · rw [rA (w + 2 + 0) (by omega) (by omega) (by omega) (by omega) (by omega), rA (w + 5 + 0) (by omega) (by omega) (by omega) (by omega) (by omega), rA (w + 8 + 0) (by omega) (by omega) (by omega) (by omega) (by omega)]
      exact f9 k hk9
    · exact fA k hk9
  · rw [rB (w + 11 + κ) (by omega) (by omega), rB (w + 14 + κ) (by omega) (by omega)]
    rcases (show κ = 0 ∨ κ = 1 by omega) with rfl | rfl
    · rw [rA (w + 11 + 0) (by omega) (by omega) (by omega) (by omega) (by omega), rA (w + 14 + 0) (by omega) (by omega) (by omega) (by omega) (by omega)]
      exact q9 q hq
    · exact qA q hq
end KF
