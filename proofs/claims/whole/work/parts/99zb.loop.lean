/-! THE LAW: its loop, its start -/
theorem l_sub7 {n : Nat} (h : 7 ≤ n) : nI n - 7 = nI (n - 7) := by
  obtain ⟨m, rfl⟩ : ∃ m, n = m + 7 := ⟨n - 7, by omega⟩
  rw [show m + 7 - 7 = m by omega, ← nI_add m 7, show (7 : Int32) = nI 7 from rfl, Int32.add_sub_cancel]
theorem l_low : ∀ n, n < 7 → nI n - 7 < nI 0 := by decide +kernel
section LO
variable {G : z_G} {d : Nat} {B : Nat × Nat × Nat} {S S0 : z_Shp} {v v0 : z_Dat} {Q : Option Value → z_Shp → z_Dat → Prop}
theorem lw_loop (hd : 30 ≤ d) (hG : G.1 ≤ 3584) (hB : B.1 ≤ 999000) (h : ∀ k S v, k ≤ 512 → g_I (B.1, B.2.1 + k, B.2.2 + 6 * k) S v → Q (some (.int 1)) S v) :
    ∀ m k S v, G.1 ≤ 7 * k + m → 7 * k ≤ G.1 → g_I (B.1, B.2.1 + k, B.2.2 + 6 * k) S v → z_J G (d + 2) mL_law (23, l_LS (7 * k) .null .null, [], S, v) Q := by
  intro m
  induction m using Nat.strongRecOn with
  | _ m ih =>
    intro k S v hm hk hI
    refine zj_iload dL_law_23 rfl ?_
    refine zj_aload_n dL_law_25 rfl rfl ?_
    refine zj_slen dL_law_26 ?_
    refine zj_bipush (x := 7) dL_law_27 rfl ?_
    refine zj_isub dL_law_29 ?_
    by_cases ht : 7 * k + 7 ≤ G.1
    · refine zj_icmp_gt (tgt := 1656) dL_law_30 (by decide) (fun c => absurd c ?_) (fun _ => ?_)
      · show ¬ nI G.1 - 7 < nI (7 * k)
        rw [l_sub7 (by omega), nI_ltI (by omega) (by omega)]
        omega
      refine zj_aload_n dL_law_33 rfl rfl ?_
      refine zj_iload dL_law_34 rfl ?_
      refine zj_sload dL_law_36 (vp_in_nI (by omega) (by omega)) ?_
      refine zj_bipush (x := 63) dL_law_37 rfl ?_
      refine zj_iand dL_law_39 ?_
      refine lw_switch hd ht hG (B := (B.1, B.2.1 + k, B.2.2 + 6 * k)) hB hI (fun S2 v2 h2 => ?_)
      refine zj_iinc (y := nI (7 * (k + 1))) (ls2 := l_LS (7 * (k + 1)) .null .null) dL_law_1650 rfl (nI_add (7 * k) 7) (by decide) rfl rfl ?_
      refine zj_goto (tgt := 23) dL_law_1653 (by decide) ?_
      exact ih (m - 7) (by omega) (k + 1) S2 v2 (by omega) (by omega) h2
    · refine zj_icmp_gt (tgt := 1656) dL_law_30 (by decide) (fun _ => ?_) (fun c => absurd ?_ c)
      · refine zj_iconst (x := 1) dL_law_1656 rfl ?_
        exact zj_iret dL_law_1657 rfl (by decide) (h k S v (by omega) hI)
      · show nI G.1 - 7 < nI (7 * k)
        rcases Nat.lt_or_ge G.1 7 with q | q
        · rw [show 7 * k = 0 by omega]
          exact l_low _ q
        · rw [l_sub7 q]
          exact nI_lt (by omega) (by omega)
theorem l_ref0 : (z_LR.getD 0 []).zipIdx.all (fun q => match q.1 with
  | some b => decide (0 < b) && decide (b < 223)
  | none => true) = true := by decide +kernel
theorem l_ref0_of {j b : Nat} (h : (z_LR.getD 0 []).getD j none = some b) : 0 < b ∧ b < 223 := by
  have q := List.all_eq_true.mp l_ref0 _ (k_getD_mem h)
  have q : (decide (0 < b) && decide (b < 223)) = true := q
  rw [Bool.and_eq_true] at q
  exact ⟨of_decide_eq_true q.1, of_decide_eq_true q.2⟩
theorem l_ref57 : (z_LR.getD 57 []).zipIdx.all (fun q => match q.1 with
  | some b => decide (q.2 < 2) && decide (b = 203 + 10 * q.2)
  | none => true) = true := by decide +kernel
theorem l_ref57_of {j b : Nat} (h : (z_LR.getD 57 []).getD j none = some b) : j < 2 ∧ b = 203 + 10 * j := by
  have q := List.all_eq_true.mp l_ref57 _ (k_getD_mem h)
  have q : (decide (j < 2) && decide (b = 203 + 10 * j)) = true := q
  rw [Bool.and_eq_true] at q
  exact ⟨of_decide_eq_true q.1, of_decide_eq_true q.2⟩
theorem l_ref60 : (z_LR.getD 60 []).zipIdx.all (fun q => match q.1 with
  | some b => decide (q.2 < 8) && decide (b = 61 + 10 * q.2)
  | none => true) = true := by decide +kernel
theorem l_ref60_of {j b : Nat} (h : (z_LR.getD 60 []).getD j none = some b) : j < 8 ∧ b = 61 + 10 * j := by
  have q := List.all_eq_true.mp l_ref60 _ (k_getD_mem h)
  have q : (decide (j < 8) && decide (b = 61 + 10 * j)) = true := q
  rw [Bool.and_eq_true] at q
  exact ⟨of_decide_eq_true q.1, of_decide_eq_true q.2⟩
/-- the keeper's cell is made -/
theorem l_B1 (h : k_T 0 S0 v0 1 S v 1 14) : k_B 1 S v (z_c S0 + 1) (z_s S0 + 14) := by
  refine ⟨h.1, h.2.1, h.2.2.1, fun j b hb hn => ?_, fun q => by omega, fun q => by omega, fun f hf hn => ?_, fun q => by omega, fun q => by omega, fun a ha hz => ?_⟩
  · have := (l_ref0_of hb).1
    omega
  · simp only [z_isF, List.mem_cons, List.not_mem_nil, or_false] at hf
    omega
  · unfold k_z at hz
    omega
/-- all is made: the invariant holds -/
theorem l_made {S1 : z_Shp} {v1 : z_Dat} {c s : Nat} (hC : k_C 2 S v c s) (g1 : z_Li 261 S1) (g2 : z_c S1 = z_c S + 38) (g3 : z_s S1 = z_s S + 37622) (g4 : ∀ a, a < 223 → z_r S1 a = z_r S a ∧ v1 a = v a) (g5 : p_M v1 (p_nw 3)) (g6 : p_MT v1 3) (g7 : ∀ b, 224 < b → b < 261 → (b < 230 ∨ 233 < b) → v1 b = fun _ => 0) (g8 : ∀ j, j ≠ 14 → v1 223 j = 0) : g_I (262 + 32256, c + 39 + 32256, s + 37623 + 64512) (z_al S1 24 1 1 1) (z_ua v1 261 (fun _ => 0)) := by
  obtain ⟨⟨b1, b2, b3, b4, b5, b6, b7, b8, b9, b10⟩, i1⟩ := hC
  have hn : z_n S1 = 261 := g1.2.1
  have hLi : z_Li 262 (z_al S1 24 1 1 1) := g1.al (by decide) rfl rfl rfl
  have hr : ∀ a, a < 223 → z_r (z_al S1 24 1 1 1) a = z_r S a := fun a ha => by
    rw [← (g4 a ha).1]
    funext i
    show (if a = z_n S1 then none else z_r S1 a i) = _
    rw [if_neg (by omega)]
  have hv : ∀ a, a < 223 → z_ua v1 261 (fun _ => 0) a = v a := fun a ha => by
    rw [z_ua_ne (by omega)]; exact (g4 a ha).2
  have hv2 : ∀ a, a < 261 → z_ua v1 261 (fun _ => 0) a = v1 a := fun a ha => z_ua_ne (by omega)
  have hL : z_L (z_al S1 24 1 1 1) := by
    refine ⟨by show 262 ≤ z_n S1 + 1; omega, fun a ha => ⟨(hLi.2.2 a ha).1, (hLi.2.2 a ha).2.1, fun j b hb => ?_⟩⟩
    by_cases e0 : a = 0
    · subst e0
      have q := l_ref0_of hb
      rw [hr 0 (by omega)]
      exact b4 j b hb q.2
    · by_cases e57 : a = 57
      · subst e57
        obtain ⟨q1, rfl⟩ := l_ref57_of hb
        rw [hr 57 (by omega)]
        exact i1 j q1
      · by_cases e60 : a = 60
        · subst e60
          obtain ⟨q1, rfl⟩ := l_ref60_of hb
          rw [hr 60 (by omega)]
          exact b8 (by omega) j q1
        · have hb2 : z_lrk a j = some b := by
            unfold z_lrk
            rw [if_neg (by omega)]; exact hb
          exact (hLi.2.2 a ha).2.2 j b hb2 (k_full_of k_f262 ha hb2).2.2
  have z : ∀ a, k_z a → z_ua v1 261 (fun _ => 0) a = fun _ => 0 := fun a ha => by
    have ha2 := ha
    unfold k_z at ha2
    rw [hv a (by omega)]
    exact b10 a (by omega) ha
  have z1 : ∀ a j, k_z a → z_ua v1 261 (fun _ => 0) a j = nI 0 := fun a j ha => by rw [z a ha]; rfl
  have z2 : ∀ j, j ≠ 14 → z_ua v1 261 (fun _ => 0) 223 j = nI 0 := fun j hj => by rw [hv2 223 (by omega), g8 j hj]; rfl
  have rP := b9 (by omega)
  refine ⟨(p_nw 3, (0, fun _ _ => 0), ((fun _ => 0), fun _ _ => 0), ((fun _ => 0), 0, 0, (0, fun _ => 0), (0, (fun _ => 0), []), [])), ⟨⟨hL, 184, 185, 256, ⟨?_, ?_, zk_184 hL, zk_185 hL, by decide, Or.inl rfl, Or.inl rfl, zl_184 hL, zl_185 hL, 8, by decide, by decide, by decide⟩, ?_, ?_, ?_⟩, ⟨?_, ?_⟩, ?_, ⟨z1 59 0 (by unfold k_z; omega), by decide, 0, by decide, z1 59 1 (by unfold k_z; omega), fun i hi => absurd hi (Nat.not_lt_zero i)⟩, fun k hk => ⟨by show 0 ≤ 1; omega, z1 58 k (by unfold k_z; omega), fun e => absurd (show (0 : Nat) = 1 from e) (by decide)⟩, ⟨z1 141 0 (by unfold k_z; omega), Nat.zero_le _, fun i hi => absurd hi (Nat.not_lt_zero i)⟩, z1 141 1 (by unfold k_z; omega), ⟨z1 198 0 (by unfold k_z; omega), Nat.zero_le _, fun i hi => absurd hi (Nat.not_lt_zero i)⟩, ⟨z1 198 2 (by unfold k_z; omega), Nat.zero_le _, fun e => absurd e (by decide), z1 198 4 (by unfold k_z; omega), Nat.zero_le _, fun i hi => absurd hi (Nat.not_lt_zero i)⟩, ⟨z1 198 6 (by unfold k_z; omega), Nat.zero_le _, fun i hi => absurd hi (Nat.not_lt_zero i)⟩⟩, ⟨g5.fr (hv2 224 (by omega)), g6.fr (by rw [hv2 223 (by omega)]) (fun a _ _ => hv2 a (by omega)), ⟨z2 6 (by omega), Nat.zero_le _, fun i hi => absurd hi (Nat.not_lt_zero i)⟩, fun k hk => ⟨?_, fun e => absurd (show (0 : Nat) = 1 from e) (by decide)⟩, ⟨z2 8 (by omega), Nat.zero_le _, fun i hi => absurd hi (Nat.not_lt_zero i)⟩, z2 20 (by omega), ⟨z2 42 (by omega), Nat.zero_le _, fun i hi => absurd hi (Nat.not_lt_zero i)⟩, ⟨z2 56 (by omega), Nat.zero_le _, fun e => absurd e (by decide), fun _ => rfl, Nat.zero_le _, fun i hi => absurd hi (Nat.not_lt_zero i)⟩, ⟨z2 65 (by omega), Nat.zero_le _, fun i hi => absurd hi (Nat.not_lt_zero i)⟩⟩, p_nw_V (Or.inl rfl), fun i hi => absurd hi (Nat.not_lt_zero i), fun k hk => ⟨by show 0 ≤ 1; omega, fun e => absurd (show (0 : Nat) = 1 from e) (by decide)⟩, fun i => by show 0 < 256; omega⟩
  · rw [hr 164 (by omega)]; exact rP.1
  · rw [hr 164 (by omega)]; exact rP.2
  · show z_n S1 + 1 + 2 * (16384 - 256) ≤ 262 + 32256
    omega
  · show z_c S1 + 1 + 2 * (16384 - 256) ≤ c + 39 + 32256
    omega
  · show z_s S1 + 1 + 4 * (16384 - 256) ≤ s + 37623 + 64512
    omega
  · exact k_pW (b5 (by omega)) (fun a h1 h2 => hv a (by omega))
  · exact k_pW (b6 (by omega)) (fun a h1 h2 => hv a (by omega))
  · exact k_pF (b7 37 zF_37 (by omega)) (fun a h1 h2 => ⟨hr a (by omega), hv a (by omega)⟩)
  · show z_ua v1 261 (fun _ => 0) 228 k = nI 0
    rw [hv2 228 (by omega), g7 228 (by omega) (by omega) (by omega)]
    rfl
theorem lw_all (hd : 30 ≤ d) (hG : G.1 ≤ 3584) (hn : z_n S = 0) (hc : z_c S = 0) (hs : z_s S = 0) (h : ∀ S v, z_c S ≤ 601024 → z_s S ≤ 7293034 → Q (some (.int 1)) S v) : z_J G (d + 2) mL_law (0, [.ref (z_X + 60), .null, .null, .null, .null, .null, .null], [], S, v) Q := by
  have hLi : z_Li 0 S := ⟨by decide, hn, fun a ha => absurd ha (Nat.not_lt_zero a)⟩
  refine k_new (ci := 10) (n := 0) dL_law_0 (by decide) wk_L_8 wb_X10 w0_X10 hLi (by decide) rfl rfl rfl ⟨Or.inr lw_xx, trivial⟩ trivial (fun S1 v1 h1 => ?_)
  have hB := l_B1 h1
  refine zj_dup dL_law_3 rfl ?_
  obtain ⟨d0, rfl⟩ : ∃ e, d = e + 2 := ⟨d - 2, by omega⟩
  refine zj_callI (M' := mX10_init) (avs := []) (st := [.ref 0]) dL_law_4 wm_X10_init wl_L_22 wi_X10_init rfl rfl rfl (by decide) rfl (Nat.le_of_ble_eq_true rfl) (Nat.le_of_ble_eq_true rfl) ⟨Or.inr lw_xx, trivial⟩ ⟨hB.1.ok (by decide) rfl, trivial⟩ ?_
  refine sp_X10_init (by omega) hB (fun S2 v2 h2 => ?_)
  refine zj_astore_n (ls2 := [.ref (z_X + 60), .ref 0, .null, .null, .null, .null, .null]) dL_law_7 rfl (by decide) rfl rfl ?_
  refine k_new (ci := 11) (n := 223) dL_law_8 (by decide) wk_L_23 wb_X11 w0_X11 h2.1.1 (by decide) rfl rfl rfl ⟨Or.inr lw_xx, h2.1.1.ok (by decide) rfl, trivial⟩ trivial (fun S3 v3 h3 => ?_)
  refine zj_dup dL_law_11 rfl ?_
  refine zj_callI (M' := mX11_init) (avs := []) (st := [.ref 223]) dL_law_12 wm_X11_init wl_L_25 wi_X11_init rfl rfl rfl (by decide) rfl (Nat.le_of_ble_eq_true rfl) (Nat.le_of_ble_eq_true rfl) ⟨Or.inr lw_xx, h3.1.ok (by decide) rfl, trivial⟩ ⟨h3.1.ok (by decide) rfl, trivial⟩ ?_
  refine sp_X11_init (by omega) h3 (fun S4 v4 g1 g2 g3 g4 g5 g6 g7 g8 => ?_)
  refine zj_astore_n (ls2 := [.ref (z_X + 60), .ref 0, .ref 223, .null, .null, .null, .null]) dL_law_15 rfl (by decide) rfl rfl ?_
  refine zj_iconst (x := nI 1) dL_law_16 rfl ?_
  refine zj_newL (n := 1) dL_law_17 rfl (by decide) (by rw [g1.2.1]; exact Nat.le_of_ble_eq_true rfl) ⟨Or.inr lw_xx, g1.ok (by decide) rfl, g1.ok (by decide) rfl, trivial⟩ trivial ?_
  rw [g1.2.1]
  refine zj_astore_n (ls2 := [.ref (z_X + 60), .ref 0, .ref 223, .ref 261, .null, .null, .null]) dL_law_19 rfl (by decide) rfl rfl ?_
  refine zj_iconst (x := nI 0) dL_law_20 rfl ?_
  refine zj_istore (ls2 := l_LS (7 * 0) .null .null) dL_law_21 (by decide) rfl rfl ?_
  have hI := l_made h2 g1 (by rw [g2]) (by rw [g3]; exact congrArg (z_s S2 + ·) (show z_nf 11 + 37556 = 37622 from rfl)) g4 g5 g6 g7 g8
  refine lw_loop (B := (262 + 32256, z_c S + 1 + 222 + 39 + 32256, z_s S + 14 + 10990 + 37623 + 64512)) (by omega) hG (show 262 + 32256 ≤ 999000 from Nat.le_of_ble_eq_true rfl) (fun k S9 v9 hk h9 => ?_) G.1 0 _ _ (by omega) (by omega) hI
  obtain ⟨σ, ⟨⟨-, aL, aO, L, -, p2, p3, p4⟩, -⟩, -⟩ := h9
  refine h S9 v9 ?_ ?_
  · have p3 : z_c S9 + 2 * (16384 - L) ≤ z_c S + 1 + 222 + 39 + 32256 + k := p3
    omega
  · have p4 : z_s S9 + 4 * (16384 - L) ≤ z_s S + 14 + 10990 + 37623 + 64512 + 6 * k := p4
    omega
end LO
