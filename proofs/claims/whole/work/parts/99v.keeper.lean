/-! CONSTRUCTORS: the keeper -/
def k_st (n n1 a0 j : Nat) : Bool := ([37, 47, 61, 71, 81, 91, 101, 111, 121, 131, 203, 213] : List Nat).all (fun f => decide (n ≤ f) || decide (f + 10 ≤ n)) && (z_LR.getD 0 []).zipIdx.all (fun q => match q.1 with
  | some b => decide (b < n) || (decide (a0 = 0) && decide (q.2 = j)) || decide (n1 ≤ b)
  | none => true)
/-- what must be 0 behind the constructor -/
def k_z (a : Nat) : Prop := a = 58 ∨ a = 59 ∨ (141 ≤ a ∧ a < 203)
def k_B (n : Nat) (S : z_Shp) (v : z_Dat) (c s : Nat) : Prop := z_Li n S ∧ z_c S = c ∧ z_s S = s ∧ (∀ j b, (z_LR.getD 0 []).getD j none = some b → b < n → z_r S 0 j = some b) ∧ (19 ≤ n → p_W v 1 3) ∧ (37 ≤ n → p_W v 19 5) ∧ (∀ f, z_isF f → f < n → p_F S v f (p_nw 3)) ∧ (141 ≤ n → ∀ k, k < 8 → z_r S 60 k = some (61 + 10 * k)) ∧ (186 ≤ n → z_r S 164 7 = some 184 ∧ z_r S 164 8 = some 185) ∧ ∀ a, a < n → k_z a → v a = fun _ => 0
theorem k_B.step {n n1 a0 j c s cc ss : Nat} {S S1 : z_Shp} {v v1 : z_Dat} (h : k_B n S v c s) (hL : z_Li n1 S1) (hc : z_c S1 = z_c S + cc) (hs : z_s S1 = z_s S + ss) (hfr : ∀ a, a < n → z_r S1 a = z_r S a ∧ v1 a = v a) (ha0 : a0 = 0 ∨ a0 = 57) (hn0 : 0 < n) (hlk : z_lrk a0 j = none) (hj0 : a0 = 0 → (z_LR.getD 0 []).getD j none = some n) (hchk : k_st n n1 a0 j = true)
    (hw1 : 19 ≤ n1 → n < 19 → p_W v1 1 3) (hw2 : 37 ≤ n1 → n < 37 → p_W v1 19 5) (hF : ∀ f, z_isF f → n ≤ f → f < n1 → p_F S1 v1 f (p_nw 3)) (hR : 141 ≤ n1 → n < 141 → ∀ k, k < 8 → z_r S1 60 k = some (61 + 10 * k)) (hp : 186 ≤ n1 → n < 186 → z_r S1 164 7 = some 184 ∧ z_r S1 164 8 = some 185) (hz : ∀ a, n ≤ a → a < n1 → k_z a → v1 a = fun _ => 0) (hb : 19 ≤ n → 37 ≤ n ∨ n = 19) (hb2 : n ≤ n1) : k_B n1 (z_sr S1 a0 j (some n)) v1 (c + cc) (s + ss) := by
  obtain ⟨g1, g2, g3, g4, g5, g6, g7, g8, g9, g10⟩ := h
  unfold k_st at hchk
  rw [Bool.and_eq_true] at hchk
  obtain ⟨c1, c2⟩ := hchk
  have sne : ∀ a i, a ≠ 0 → a ≠ 57 → z_r (z_sr S1 a0 j (some n)) a i = z_r S1 a i := fun a i h1 h2 => k_sr_ne (fun z => by omega)
  have hFF : ∀ f, z_isF f → ∀ a, f ≤ a → a < f + 10 → a ≠ 0 ∧ a ≠ 57 := fun f hf a h1 h2 => by
    simp only [z_isF, List.mem_cons, List.not_mem_nil, or_false] at hf
    omega
  refine ⟨hL.sr0 hlk, by show z_c S1 = _; rw [hc, g2], by show z_s S1 = _; rw [hs, g3], fun j' b hb9 hbn => ?_, fun q => ?_, fun q => ?_, fun f hf hfn => ?_, fun q k hk => ?_, fun q => ?_, fun a ha hza => ?_⟩
  · have q := List.all_eq_true.mp c2 _ (k_getD_mem hb9)
    have q : (decide (b < n) || (decide (a0 = 0) && decide (j' = j)) || decide (n1 ≤ b)) = true := q
    rw [Bool.or_eq_true, Bool.or_eq_true, Bool.and_eq_true] at q
    rcases q with (q | q) | q
    · have hbn2 := of_decide_eq_true q
      by_cases e : 0 = a0 ∧ j' = j
      · have := hj0 e.1.symm
        rw [e.2, this] at hb9
        cases hb9
        omega
      · rw [k_sr_ne e, (hfr 0 hn0).1]
        exact g4 j' b hb9 hbn2
    · have e1 := of_decide_eq_true q.1
      have e2 := of_decide_eq_true q.2
      have := hj0 e1
      rw [e2, this] at hb9
      rw [e1, e2, k_sr_eq]
      exact hb9
    · have := of_decide_eq_true q
      omega
  · rcases Nat.lt_or_ge n 19 with w | w
    · exact hw1 q w
    · exact k_pW (g5 w) (fun a h1 h2 => (hfr a (by omega)).2)
  · rcases Nat.lt_or_ge n 37 with w | w
    · exact hw2 q w
    · exact k_pW (g6 w) (fun a h1 h2 => (hfr a (by omega)).2)
  · have key : p_F S1 v1 f (p_nw 3) := by
      rcases Nat.lt_or_ge f n with w | w
      · have q := List.all_eq_true.mp c1 f hf
        rw [Bool.or_eq_true] at q
        have q : f + 10 ≤ n := by
          rcases q with q | q
          · have := of_decide_eq_true q; omega
          · exact of_decide_eq_true q
        exact k_pF (g7 f hf w) (fun a h1 h2 => hfr a (by omega))
      · exact hF f hf w hfn
    refine k_pF key (fun a h1 h2 => ⟨?_, rfl⟩)
    have := hFF f hf a h1 h2
    exact funext fun i => sne a i this.1 this.2
  · rw [sne 60 k (by omega) (by omega)]
    rcases Nat.lt_or_ge n 141 with w | w
    · exact hR q w k hk
    · rw [(hfr 60 (by omega)).1]; exact g8 w k hk
  · rw [sne 164 7 (by omega) (by omega), sne 164 8 (by omega) (by omega)]
    rcases Nat.lt_or_ge n 186 with w | w
    · exact hp q w
    · rw [(hfr 164 (by omega)).1]; exact g9 w
  · rcases Nat.lt_or_ge a n with w | w
    · rw [(hfr a w).2]; exact g10 a w hza
    · exact hz a w ha hza
section KK
variable {G : z_G} {d c s : Nat} {S : z_Shp} {v : z_Dat} {Q : Option Value → z_Shp → z_Dat → Prop}
theorem k_noF {n n1 : Nat} (h : ([37, 47, 61, 71, 81, 91, 101, 111, 121, 131, 203, 213] : List Nat).all (fun f => decide (f < n) || decide (n1 ≤ f)) = true) {S1 : z_Shp} {v1 : z_Dat} : ∀ f, z_isF f → n ≤ f → f < n1 → p_F S1 v1 f (p_nw 3) := fun f hf h1 h2 => by
  have q := List.all_eq_true.mp h f hf
  rw [Bool.or_eq_true] at q
  rcases q with q | q
  · have := of_decide_eq_true q; omega
  · have := of_decide_eq_true q; omega
theorem k_s1 (hd : 1 ≤ d) (hB : k_B 1 S v c s) (h : ∀ S1 v1, k_B 19 S1 v1 (c + 18) (s + 196) → z_J G (d + 3) mX10_init (16, [.ref 0, .null], [], S1, v1) Q) : z_J G (d + 3) mX10_init (4, [.ref 0, .null], [], S, v) Q := by
  refine zj_aload_n dX10_init_4 rfl rfl ?_
  refine k_new (ci := 9) (n := 1) dX10_init_5 (by decide) wk_X10_9 wb_X9 w0_X9 hB.1 (by decide) rfl rfl rfl ⟨hB.1.ok (by decide) rfl, trivial⟩ ⟨hB.1.ok (by decide) rfl, trivial⟩ (fun S2 v2 h2 => ?_)
  refine zj_dup dX10_init_8 rfl ?_
  refine zj_iconst (x := nI 3) dX10_init_9 rfl ?_
  refine zj_callI (M' := mX9_init) (avs := [.int (nI 3)]) (st := [.ref 1, .ref 0]) dX10_init_10 wm_X9_init wl_X10_11 wi_X9_init rfl rfl rfl (by decide) rfl (Nat.le_of_ble_eq_true rfl) (Nat.le_of_ble_eq_true rfl) ⟨h2.1.ok (by decide) rfl, trivial⟩ ⟨h2.1.ok (by decide) rfl, h2.1.ok (by decide) rfl, trivial⟩ ?_
  refine sp_X9_init (by omega) (Or.inl rfl) (Or.inl rfl) h2 (fun S3 v3 q1 q2 q3 q4 q5 => ?_)
  refine zj_putRF (ci := 10) (j := 0) dX10_init_13 wf_X10_14 (by decide) (by decide) (q1.kk (by decide) rfl) rfl rfl rfl rfl (fun _ => rfl) (fun _ => rfl) (Or.inl (by rw [q1.2.1]; decide)) ?_
  exact h _ _ (hB.step (a0 := 0) (j := 0) q1 q2 q3 q4 (Or.inl rfl) (by decide) rfl (fun _ => rfl) (by decide +kernel) (fun _ _ => q5) (fun q => by omega) (k_noF (by decide)) (fun q => by omega) (fun q => by omega) (fun a h1 h2 h3 => by unfold k_z at h3; omega) (by omega) (by omega))
theorem k_s2 (hd : 1 ≤ d) (hB : k_B 19 S v c s) (h : ∀ S1 v1, k_B 37 S1 v1 (c + 18) (s + 196) → z_J G (d + 3) mX10_init (28, [.ref 0, .null], [], S1, v1) Q) : z_J G (d + 3) mX10_init (16, [.ref 0, .null], [], S, v) Q := by
  refine zj_aload_n dX10_init_16 rfl rfl ?_
  refine k_new (ci := 9) (n := 19) dX10_init_17 (by decide) wk_X10_9 wb_X9 w0_X9 hB.1 (by decide) rfl rfl rfl ⟨hB.1.ok (by decide) rfl, trivial⟩ ⟨hB.1.ok (by decide) rfl, trivial⟩ (fun S2 v2 h2 => ?_)
  refine zj_dup dX10_init_20 rfl ?_
  refine zj_iconst (x := nI 5) dX10_init_21 rfl ?_
  refine zj_callI (M' := mX9_init) (avs := [.int (nI 5)]) (st := [.ref 19, .ref 0]) dX10_init_22 wm_X9_init wl_X10_11 wi_X9_init rfl rfl rfl (by decide) rfl (Nat.le_of_ble_eq_true rfl) (Nat.le_of_ble_eq_true rfl) ⟨h2.1.ok (by decide) rfl, trivial⟩ ⟨h2.1.ok (by decide) rfl, h2.1.ok (by decide) rfl, trivial⟩ ?_
  refine sp_X9_init (by omega) (Or.inr rfl) (Or.inr rfl) h2 (fun S3 v3 q1 q2 q3 q4 q5 => ?_)
  refine zj_putRF (ci := 10) (j := 1) dX10_init_25 wf_X10_18 (by decide) (by decide) (q1.kk (by decide) rfl) rfl rfl rfl rfl (fun _ => rfl) (fun _ => rfl) (Or.inl (by rw [q1.2.1]; decide)) ?_
  exact h _ _ (hB.step (a0 := 0) (j := 1) q1 q2 q3 q4 (Or.inl rfl) (by decide) rfl (fun _ => rfl) (by decide +kernel) (fun _ q => by omega) (fun _ _ => q5) (k_noF (by decide)) (fun q => by omega) (fun q => by omega) (fun a h1 h2 h3 => by unfold k_z at h3; omega) (by omega) (by omega))
theorem k_s3 (hd : 1 ≤ d) (hB : k_B 37 S v c s) (h : ∀ S1 v1, k_B 47 S1 v1 (c + 10) (s + 80) → z_J G (d + 3) mX10_init (43, [.ref 0, .null], [], S1, v1) Q) : z_J G (d + 3) mX10_init (28, [.ref 0, .null], [], S, v) Q := by
  refine zj_aload_n dX10_init_28 rfl rfl ?_
  refine k_new (ci := 0) (n := 37) dX10_init_29 (by decide) wk_X10_21 wb_X0 w0_X0 hB.1 (by decide) rfl rfl rfl ⟨hB.1.ok (by decide) rfl, trivial⟩ ⟨hB.1.ok (by decide) rfl, trivial⟩ (fun S2 v2 h2 => ?_)
  refine zj_dup dX10_init_32 rfl ?_
  refine zj_aload_n dX10_init_33 rfl rfl ?_
  refine zj_getR (ci := 10) (j := 0) dX10_init_34 wf_X10_14 (by decide) (by decide) (h2.1.kk (by decide) rfl) rfl ((congrFun (h2.2.2.2.1 0 (by decide)).1 0).trans (hB.2.2.2.1 0 1 rfl (by decide))) ?_
  refine zj_callI (M' := mX0_init) (avs := [.ref 1]) (st := [.ref 37, .ref 0]) dX10_init_37 wm_X0_init wl_X10_23 wi_X0_init rfl rfl rfl (by decide) rfl (Nat.le_of_ble_eq_true rfl) (Nat.le_of_ble_eq_true rfl) ⟨h2.1.ok (by decide) rfl, trivial⟩ ⟨h2.1.ok (by decide) rfl, h2.1.ok (by decide) rfl, trivial⟩ ?_
  refine sp_X0_init (by omega) zF_37 (Or.inl ⟨rfl, rfl⟩) (by decide) h2 (fun S3 v3 q1 q2 q3 q4 q5 => ?_)
  refine zj_putRF (ci := 10) (j := 2) dX10_init_40 wf_X10_26 (by decide) (by decide) (q1.kk (by decide) rfl) rfl rfl rfl rfl (fun _ => rfl) (fun _ => rfl) (Or.inl (by rw [q1.2.1]; decide)) ?_
  exact h _ _ (hB.step (a0 := 0) (j := 2) q1 q2 q3 q4 (Or.inl rfl) (by decide) rfl (fun _ => rfl) (by decide +kernel) (fun _ q => by omega) (fun _ q => by omega) (fun f hf h1 h2 => by
    obtain rfl : f = 37 := by
      simp only [z_isF, List.mem_cons, List.not_mem_nil, or_false] at hf
      omega
    exact q5) (fun q => by omega) (fun q => by omega) (fun a h1 h2 h3 => by unfold k_z at h3; omega) (by omega) (by omega))
theorem k_s4 (hd : 1 ≤ d) (hB : k_B 47 S v c s) (h : ∀ S1 v1, k_B 57 S1 v1 (c + 10) (s + 80) → z_J G (d + 3) mX10_init (58, [.ref 0, .null], [], S1, v1) Q) : z_J G (d + 3) mX10_init (43, [.ref 0, .null], [], S, v) Q := by
  refine zj_aload_n dX10_init_43 rfl rfl ?_
  refine k_new (ci := 0) (n := 47) dX10_init_44 (by decide) wk_X10_21 wb_X0 w0_X0 hB.1 (by decide) rfl rfl rfl ⟨hB.1.ok (by decide) rfl, trivial⟩ ⟨hB.1.ok (by decide) rfl, trivial⟩ (fun S2 v2 h2 => ?_)
  refine zj_dup dX10_init_47 rfl ?_
  refine zj_aload_n dX10_init_48 rfl rfl ?_
  refine zj_getR (ci := 10) (j := 0) dX10_init_49 wf_X10_14 (by decide) (by decide) (h2.1.kk (by decide) rfl) rfl ((congrFun (h2.2.2.2.1 0 (by decide)).1 0).trans (hB.2.2.2.1 0 1 rfl (by decide))) ?_
  refine zj_callI (M' := mX0_init) (avs := [.ref 1]) (st := [.ref 47, .ref 0]) dX10_init_52 wm_X0_init wl_X10_23 wi_X0_init rfl rfl rfl (by decide) rfl (Nat.le_of_ble_eq_true rfl) (Nat.le_of_ble_eq_true rfl) ⟨h2.1.ok (by decide) rfl, trivial⟩ ⟨h2.1.ok (by decide) rfl, h2.1.ok (by decide) rfl, trivial⟩ ?_
  refine sp_X0_init (by omega) zF_47 (Or.inl ⟨rfl, rfl⟩) (by decide) h2 (fun S3 v3 q1 q2 q3 q4 q5 => ?_)
  refine zj_putRF (ci := 10) (j := 3) dX10_init_55 wf_X10_30 (by decide) (by decide) (q1.kk (by decide) rfl) rfl rfl rfl rfl (fun _ => rfl) (fun _ => rfl) (Or.inl (by rw [q1.2.1]; decide)) ?_
  exact h _ _ (hB.step (a0 := 0) (j := 3) q1 q2 q3 q4 (Or.inl rfl) (by decide) rfl (fun _ => rfl) (by decide +kernel) (fun _ q => by omega) (fun _ q => by omega) (fun f hf h1 h2 => by
    obtain rfl : f = 47 := by
      simp only [z_isF, List.mem_cons, List.not_mem_nil, or_false] at hf
      omega
    exact q5) (fun q => by omega) (fun q => by omega) (fun a h1 h2 h3 => by unfold k_z at h3; omega) (by omega) (by omega))
theorem k_s5 (hd : 1 ≤ d) (hB : k_B 57 S v c s) (h : ∀ S1 v1, k_B 58 S1 v1 (c + 1) (s + 2) → z_J G (d + 3) mX10_init (66, [.ref 0, .null], [], S1, v1) Q) : z_J G (d + 3) mX10_init (58, [.ref 0, .null], [], S, v) Q := by
  refine zj_aload_n dX10_init_58 rfl rfl ?_
  refine zj_iconst (x := 2) dX10_init_59 rfl ?_
  refine zj_newQ (n := 2) dX10_init_60 wk_X10_21 rfl (by decide) (by rw [hB.1.2.1]; exact Nat.le_of_ble_eq_true rfl) ⟨hB.1.ok (by decide) rfl, trivial⟩ ⟨hB.1.ok (by decide) rfl, trivial⟩ ?_
  rw [hB.1.2.1]
  have q1 := hB.1.al (n := 57) (k := 26) (len := 2) (c := 1) (s := 2) (by decide) rfl rfl rfl
  refine zj_putRF (ci := 10) (j := 4) dX10_init_63 wf_X10_33 (by decide) (by decide) (q1.kk (by decide) rfl) rfl rfl rfl rfl (fun _ => rfl) (fun _ => rfl) (Or.inl (by rw [q1.2.1]; decide)) ?_
  exact h _ _ (hB.step (a0 := 0) (j := 4) (cc := 1) (ss := 2) q1 rfl rfl (fun a ha => ⟨funext fun i => by show (if a = z_n S then none else z_r S a i) = _; rw [if_neg (by rw [hB.1.2.1]; omega)], z_ua_ne (by omega)⟩) (Or.inl rfl) (by decide) rfl (fun _ => rfl) (by decide +kernel) (fun _ q => by omega) (fun _ q => by omega) (k_noF (by decide)) (fun q => by omega) (fun q => by omega) (fun a h1 h2 h3 => by unfold k_z at h3; omega) (by omega) (by omega))
theorem k_s6 (hd : 1 ≤ d) (hB : k_B 58 S v c s) (h : ∀ S1 v1, k_B 59 S1 v1 (c + 1) (s + 2) → z_J G (d + 3) mX10_init (73, [.ref 0, .null], [], S1, v1) Q) : z_J G (d + 3) mX10_init (66, [.ref 0, .null], [], S, v) Q := by
  refine zj_aload_n dX10_init_66 rfl rfl ?_
  refine zj_iconst (x := 2) dX10_init_67 rfl ?_
  refine zj_newZ (n := 2) dX10_init_68 rfl (by decide) (by rw [hB.1.2.1]; exact Nat.le_of_ble_eq_true rfl) ⟨hB.1.ok (by decide) rfl, trivial⟩ ⟨hB.1.ok (by decide) rfl, trivial⟩ ?_
  rw [hB.1.2.1]
  have q1 := hB.1.al (n := 58) (k := 23) (len := 2) (c := 1) (s := 2) (by decide) rfl rfl rfl
  refine zj_putRF (ci := 10) (j := 5) dX10_init_70 wf_X10_37 (by decide) (by decide) (q1.kk (by decide) rfl) rfl rfl rfl rfl (fun _ => rfl) (fun _ => rfl) (Or.inl (by rw [q1.2.1]; decide)) ?_
  exact h _ _ (hB.step (a0 := 0) (j := 5) (cc := 1) (ss := 2) q1 rfl rfl (fun a ha => ⟨funext fun i => by show (if a = z_n S then none else z_r S a i) = _; rw [if_neg (by rw [hB.1.2.1]; omega)], z_ua_ne (by omega)⟩) (Or.inl rfl) (by decide) rfl (fun _ => rfl) (by decide +kernel) (fun _ q => by omega) (fun _ q => by omega) (k_noF (by decide)) (fun q => by omega) (fun q => by omega) (fun a h1 h2 h3 => by rw [show a = 58 by omega]; exact z_ua_eq _ _ _) (by omega) (by omega))
theorem k_s7 (hd : 1 ≤ d) (hB : k_B 59 S v c s) (h : ∀ S1 v1, k_B 141 S1 v1 (c + 82) (s + 651) → z_J G (d + 3) mX10_init (88, [.ref 0, .null], [], S1, v1) Q) : z_J G (d + 3) mX10_init (73, [.ref 0, .null], [], S, v) Q := by
  refine zj_aload_n dX10_init_73 rfl rfl ?_
  refine k_new (ci := 2) (n := 59) dX10_init_74 (by decide) wk_X10_41 wb_X2 w0_X2 hB.1 (by decide) rfl rfl rfl ⟨hB.1.ok (by decide) rfl, trivial⟩ ⟨hB.1.ok (by decide) rfl, trivial⟩ (fun S2 v2 h2 => ?_)
  refine zj_dup dX10_init_77 rfl ?_
  refine zj_aload_n dX10_init_78 rfl rfl ?_
  refine zj_getR (ci := 10) (j := 0) dX10_init_79 wf_X10_14 (by decide) (by decide) (h2.1.kk (by decide) rfl) rfl ((congrFun (h2.2.2.2.1 0 (by decide)).1 0).trans (hB.2.2.2.1 0 1 rfl (by decide))) ?_
  refine zj_callI (M' := mX2_init) (avs := [.ref 1]) (st := [.ref 59, .ref 0]) dX10_init_82 wm_X2_init wl_X10_43 wi_X2_init rfl rfl rfl (by decide) rfl (Nat.le_of_ble_eq_true rfl) (Nat.le_of_ble_eq_true rfl) ⟨h2.1.ok (by decide) rfl, trivial⟩ ⟨h2.1.ok (by decide) rfl, h2.1.ok (by decide) rfl, trivial⟩ ?_
  refine sp_X2_init hd (Or.inl ⟨rfl, rfl⟩) h2 (fun S3 v3 hH => ?_)
  obtain ⟨q1, q2, q3, q4, q5, q6⟩ := hH
  refine zj_putRF (ci := 10) (j := 6) dX10_init_85 wf_X10_44 (by decide) (by decide) (q1.kk (by decide) rfl) rfl rfl rfl rfl (fun _ => rfl) (fun _ => rfl) (Or.inl (by rw [q1.2.1]; decide)) ?_
  exact h _ _ (hB.step (a0 := 0) (j := 6) (cc := 82) (ss := 651) q1 q2 q3 q4 (Or.inl rfl) (by decide) rfl (fun _ => rfl) (by decide +kernel) (fun _ q => by omega) (fun _ q => by omega) (fun f hf h1 h2 => by
    obtain ⟨k, hk, rfl⟩ : ∃ k, k < 8 ∧ f = 61 + 10 * k := by
      simp only [z_isF, List.mem_cons, List.not_mem_nil, or_false] at hf
      exact ⟨(f - 61) / 10, by omega, by omega⟩
    exact (q6 k hk).2) (fun _ _ k hk => (q6 k hk).1) (fun q => by omega) (fun a h1 h2 h3 => by
    rw [show a = 59 by unfold k_z at h3; omega]; exact q5) (by omega) (by omega))
theorem k_s8 (hd : 1 ≤ d) (hB : k_B 141 S v c s) (h : ∀ S1 v1, k_B 149 S1 v1 (c + 8) (s + 409) → z_J G (d + 3) mX10_init (99, [.ref 0, .null], [], S1, v1) Q) : z_J G (d + 3) mX10_init (88, [.ref 0, .null], [], S, v) Q := by
  refine zj_aload_n dX10_init_88 rfl rfl ?_
  refine k_new (ci := 6) (n := 141) dX10_init_89 (by decide) wk_X10_48 wb_X6 w0_X6 hB.1 (by decide) rfl rfl rfl ⟨hB.1.ok (by decide) rfl, trivial⟩ ⟨hB.1.ok (by decide) rfl, trivial⟩ (fun S2 v2 h2 => ?_)
  refine zj_dup dX10_init_92 rfl ?_
  refine zj_callIN (M' := mX6_init) (avs := []) (st := [.ref 141, .ref 0]) dX10_init_93 wm_X6_init (by simp [z_nw, mX6_init]) rfl wi_X6_init rfl rfl rfl (by decide) rfl (Nat.le_of_ble_eq_true rfl) (Nat.le_of_ble_eq_true rfl) ⟨h2.1.ok (by decide) rfl, trivial⟩ ⟨h2.1.ok (by decide) rfl, h2.1.ok (by decide) rfl, trivial⟩ ?_
  refine sp_X6_init h2 (fun S3 v3 h3 => ?_)
  refine zj_putRF (ci := 10) (j := 7) dX10_init_96 wf_X10_51 (by decide) (by decide) (h3.1.kk (by decide) rfl) rfl rfl rfl rfl (fun _ => rfl) (fun _ => rfl) (Or.inl (by rw [h3.1.2.1]; decide)) ?_
  exact h _ _ (hB.step (a0 := 0) (j := 7) (cc := 8) (ss := 409) h3.1 (h3.2.1.trans (by rw [show 1 + 7 = 8 from rfl])) (h3.2.2.1.trans (by show _ + (17 + 392) = _; rw [show 17 + 392 = 409 from rfl])) h3.2.2.2.1 (Or.inl rfl) (by decide) rfl (fun _ => rfl) (by decide +kernel) (fun _ q => by omega) (fun _ q => by omega) (k_noF (by decide)) (fun _ q => by omega) (fun q => by omega) (fun a h1 h2 _ => h3.2.2.2.2 a h1 h2) (by omega) (by omega))
theorem k_s9 (hd : 1 ≤ d) (hB : k_B 149 S v c s) (h : ∀ S1 v1, k_B 158 S1 v1 (c + 9) (s + 2058) → z_J G (d + 3) mX10_init (110, [.ref 0, .null], [], S1, v1) Q) : z_J G (d + 3) mX10_init (99, [.ref 0, .null], [], S, v) Q := by
  refine zj_aload_n dX10_init_99 rfl rfl ?_
  refine k_new (ci := 4) (n := 149) dX10_init_100 (by decide) wk_X10_55 wb_X4 w0_X4 hB.1 (by decide) rfl rfl rfl ⟨hB.1.ok (by decide) rfl, trivial⟩ ⟨hB.1.ok (by decide) rfl, trivial⟩ (fun S2 v2 h2 => ?_)
  refine zj_dup dX10_init_103 rfl ?_
  refine zj_callIN (M' := mX4_init) (avs := []) (st := [.ref 149, .ref 0]) dX10_init_104 wm_X4_init (by simp [z_nw, mX4_init]) rfl wi_X4_init rfl rfl rfl (by decide) rfl (Nat.le_of_ble_eq_true rfl) (Nat.le_of_ble_eq_true rfl) ⟨h2.1.ok (by decide) rfl, trivial⟩ ⟨h2.1.ok (by decide) rfl, h2.1.ok (by decide) rfl, trivial⟩ ?_
  refine sp_X4_init h2 (fun S3 v3 h3 => ?_)
  refine zj_putRF (ci := 10) (j := 8) dX10_init_107 wf_X10_58 (by decide) (by decide) (h3.1.kk (by decide) rfl) rfl rfl rfl rfl (fun _ => rfl) (fun _ => rfl) (Or.inl (by rw [h3.1.2.1]; decide)) ?_
  exact h _ _ (hB.step (a0 := 0) (j := 8) (cc := 9) (ss := 2058) h3.1 (h3.2.1.trans (by rw [show 1 + 8 = 9 from rfl])) (h3.2.2.1.trans (by show _ + (15 + 2043) = _; rw [show 15 + 2043 = 2058 from rfl])) h3.2.2.2.1 (Or.inl rfl) (by decide) rfl (fun _ => rfl) (by decide +kernel) (fun _ q => by omega) (fun _ q => by omega) (k_noF (by decide)) (fun _ q => by omega) (fun q => by omega) (fun a h1 h2 _ => h3.2.2.2.2 a h1 h2) (by omega) (by omega))
theorem k_s10 (hd : 1 ≤ d) (hB : k_B 158 S v c s) (h : ∀ S1 v1, k_B 164 S1 v1 (c + 6) (s + 2567) → z_J G (d + 3) mX10_init (121, [.ref 0, .null], [], S1, v1) Q) : z_J G (d + 3) mX10_init (110, [.ref 0, .null], [], S, v) Q := by
  refine zj_aload_n dX10_init_110 rfl rfl ?_
  refine k_new (ci := 8) (n := 158) dX10_init_111 (by decide) wk_X10_62 wb_X8 w0_X8 hB.1 (by decide) rfl rfl rfl ⟨hB.1.ok (by decide) rfl, trivial⟩ ⟨hB.1.ok (by decide) rfl, trivial⟩ (fun S2 v2 h2 => ?_)
  refine zj_dup dX10_init_114 rfl ?_
  refine zj_callIN (M' := mX8_init) (avs := []) (st := [.ref 158, .ref 0]) dX10_init_115 wm_X8_init (by simp [z_nw, mX8_init]) rfl wi_X8_init rfl rfl rfl (by decide) rfl (Nat.le_of_ble_eq_true rfl) (Nat.le_of_ble_eq_true rfl) ⟨h2.1.ok (by decide) rfl, trivial⟩ ⟨h2.1.ok (by decide) rfl, h2.1.ok (by decide) rfl, trivial⟩ ?_
  refine sp_X8_init h2 (fun S3 v3 h3 => ?_)
  refine zj_putRF (ci := 10) (j := 9) dX10_init_118 wf_X10_65 (by decide) (by decide) (h3.1.kk (by decide) rfl) rfl rfl rfl rfl (fun _ => rfl) (fun _ => rfl) (Or.inl (by rw [h3.1.2.1]; decide)) ?_
  exact h _ _ (hB.step (a0 := 0) (j := 9) (cc := 6) (ss := 2567) h3.1 (h3.2.1.trans (by rw [show 1 + 5 = 6 from rfl])) (h3.2.2.1.trans (by show _ + (8 + 2559) = _; rw [show 8 + 2559 = 2567 from rfl])) h3.2.2.2.1 (Or.inl rfl) (by decide) rfl (fun _ => rfl) (by decide +kernel) (fun _ q => by omega) (fun _ q => by omega) (k_noF (by decide)) (fun _ q => by omega) (fun q => by omega) (fun a h1 h2 _ => h3.2.2.2.2 a h1 h2) (by omega) (by omega))
theorem k_s11 (hd : 1 ≤ d) (hB : k_B 164 S v c s) (h : ∀ S1 v1, k_B 186 S1 v1 (c + 22) (s + 2520) → z_J G (d + 3) mX10_init (132, [.ref 0, .null], [], S1, v1) Q) : z_J G (d + 3) mX10_init (121, [.ref 0, .null], [], S, v) Q := by
  refine zj_aload_n dX10_init_121 rfl rfl ?_
  refine k_new (ci := 5) (n := 164) dX10_init_122 (by decide) wk_X10_69 wb_X5 w0_X5 hB.1 (by decide) rfl rfl rfl ⟨hB.1.ok (by decide) rfl, trivial⟩ ⟨hB.1.ok (by decide) rfl, trivial⟩ (fun S2 v2 h2 => ?_)
  refine zj_dup dX10_init_125 rfl ?_
  refine zj_callIN (M' := mX5_init) (avs := []) (st := [.ref 164, .ref 0]) dX10_init_126 wm_X5_init (by simp [z_nw, mX5_init]) rfl wi_X5_init rfl rfl rfl (by decide) rfl (Nat.le_of_ble_eq_true rfl) (Nat.le_of_ble_eq_true rfl) ⟨h2.1.ok (by decide) rfl, trivial⟩ ⟨h2.1.ok (by decide) rfl, h2.1.ok (by decide) rfl, trivial⟩ ?_
  refine sp_X5_init h2 (fun S3 v3 h3 r7 r8 => ?_)
  refine zj_putRF (ci := 10) (j := 10) dX10_init_129 wf_X10_72 (by decide) (by decide) (h3.1.kk (by decide) rfl) rfl rfl rfl rfl (fun _ => rfl) (fun _ => rfl) (Or.inl (by rw [h3.1.2.1]; decide)) ?_
  exact h _ _ (hB.step (a0 := 0) (j := 10) (cc := 22) (ss := 2520) h3.1 (h3.2.1.trans (by rw [show 1 + 21 = 22 from rfl])) (h3.2.2.1.trans (by show _ + (9 + 2511) = _; rw [show 9 + 2511 = 2520 from rfl])) h3.2.2.2.1 (Or.inl rfl) (by decide) rfl (fun _ => rfl) (by decide +kernel) (fun _ q => by omega) (fun _ q => by omega) (k_noF (by decide)) (fun _ q => by omega) (fun _ _ => ⟨r7, r8⟩) (fun a h1 h2 _ => h3.2.2.2.2 a h1 h2) (by omega) (by omega))
theorem k_s12 (hd : 1 ≤ d) (hB : k_B 186 S v c s) (h : ∀ S1 v1, k_B 195 S1 v1 (c + 9) (s + 1521) → z_J G (d + 3) mX10_init (143, [.ref 0, .null], [], S1, v1) Q) : z_J G (d + 3) mX10_init (132, [.ref 0, .null], [], S, v) Q := by
  refine zj_aload_n dX10_init_132 rfl rfl ?_
  refine k_new (ci := 1) (n := 186) dX10_init_133 (by decide) wk_X10_76 wb_X1 w0_X1 hB.1 (by decide) rfl rfl rfl ⟨hB.1.ok (by decide) rfl, trivial⟩ ⟨hB.1.ok (by decide) rfl, trivial⟩ (fun S2 v2 h2 => ?_)
  refine zj_dup dX10_init_136 rfl ?_
  refine zj_callIN (M' := mX1_init) (avs := []) (st := [.ref 186, .ref 0]) dX10_init_137 wm_X1_init (by simp [z_nw, mX1_init]) rfl wi_X1_init rfl rfl rfl (by decide) rfl (Nat.le_of_ble_eq_true rfl) (Nat.le_of_ble_eq_true rfl) ⟨h2.1.ok (by decide) rfl, trivial⟩ ⟨h2.1.ok (by decide) rfl, h2.1.ok (by decide) rfl, trivial⟩ ?_
  refine sp_X1_init h2 (fun S3 v3 h3 => ?_)
  refine zj_putRF (ci := 10) (j := 11) dX10_init_140 wf_X10_79 (by decide) (by decide) (h3.1.kk (by decide) rfl) rfl rfl rfl rfl (fun _ => rfl) (fun _ => rfl) (Or.inl (by rw [h3.1.2.1]; decide)) ?_
  exact h _ _ (hB.step (a0 := 0) (j := 11) (cc := 9) (ss := 1521) h3.1 (h3.2.1.trans (by rw [show 1 + 8 = 9 from rfl])) (h3.2.2.1.trans (by show _ + (13 + 1508) = _; rw [show 13 + 1508 = 1521 from rfl])) h3.2.2.2.1 (Or.inl rfl) (by decide) rfl (fun _ => rfl) (by decide +kernel) (fun _ q => by omega) (fun _ q => by omega) (k_noF (by decide)) (fun _ q => by omega) (fun _ q => by omega) (fun a h1 h2 _ => h3.2.2.2.2 a h1 h2) (by omega) (by omega))
theorem k_s13 (hd : 1 ≤ d) (hB : k_B 195 S v c s) (h : ∀ S1 v1, k_B 198 S1 v1 (c + 3) (s + 190) → z_J G (d + 3) mX10_init (154, [.ref 0, .null], [], S1, v1) Q) : z_J G (d + 3) mX10_init (143, [.ref 0, .null], [], S, v) Q := by
  refine zj_aload_n dX10_init_143 rfl rfl ?_
  refine k_new (ci := 3) (n := 195) dX10_init_144 (by decide) wk_X10_83 wb_X3 w0_X3 hB.1 (by decide) rfl rfl rfl ⟨hB.1.ok (by decide) rfl, trivial⟩ ⟨hB.1.ok (by decide) rfl, trivial⟩ (fun S2 v2 h2 => ?_)
  refine zj_dup dX10_init_147 rfl ?_
  refine zj_callIN (M' := mX3_init) (avs := []) (st := [.ref 195, .ref 0]) dX10_init_148 wm_X3_init (by simp [z_nw, mX3_init]) rfl wi_X3_init rfl rfl rfl (by decide) rfl (Nat.le_of_ble_eq_true rfl) (Nat.le_of_ble_eq_true rfl) ⟨h2.1.ok (by decide) rfl, trivial⟩ ⟨h2.1.ok (by decide) rfl, h2.1.ok (by decide) rfl, trivial⟩ ?_
  refine sp_X3_init h2 (fun S3 v3 h3 => ?_)
  refine zj_putRF (ci := 10) (j := 12) dX10_init_151 wf_X10_86 (by decide) (by decide) (h3.1.kk (by decide) rfl) rfl rfl rfl rfl (fun _ => rfl) (fun _ => rfl) (Or.inl (by rw [h3.1.2.1]; decide)) ?_
  exact h _ _ (hB.step (a0 := 0) (j := 12) (cc := 3) (ss := 190) h3.1 (h3.2.1.trans (by rw [show 1 + 2 = 3 from rfl])) (h3.2.2.1.trans (by show _ + (4 + 186) = _; rw [show 4 + 186 = 190 from rfl])) h3.2.2.2.1 (Or.inl rfl) (by decide) rfl (fun _ => rfl) (by decide +kernel) (fun _ q => by omega) (fun _ q => by omega) (k_noF (by decide)) (fun _ q => by omega) (fun _ q => by omega) (fun a h1 h2 _ => h3.2.2.2.2 a h1 h2) (by omega) (by omega))
theorem k_s14 (hd : 1 ≤ d) (hB : k_B 198 S v c s) (h : ∀ S1 v1, k_B 203 S1 v1 (c + 5) (s + 358) → z_J G (d + 3) mX10_init (165, [.ref 0, .null], [], S1, v1) Q) : z_J G (d + 3) mX10_init (154, [.ref 0, .null], [], S, v) Q := by
  refine zj_aload_n dX10_init_154 rfl rfl ?_
  refine k_new (ci := 7) (n := 198) dX10_init_155 (by decide) wk_X10_90 wb_X7 w0_X7 hB.1 (by decide) rfl rfl rfl ⟨hB.1.ok (by decide) rfl, trivial⟩ ⟨hB.1.ok (by decide) rfl, trivial⟩ (fun S2 v2 h2 => ?_)
  refine zj_dup dX10_init_158 rfl ?_
  refine zj_callIN (M' := mX7_init) (avs := []) (st := [.ref 198, .ref 0]) dX10_init_159 wm_X7_init (by simp [z_nw, mX7_init]) rfl wi_X7_init rfl rfl rfl (by decide) rfl (Nat.le_of_ble_eq_true rfl) (Nat.le_of_ble_eq_true rfl) ⟨h2.1.ok (by decide) rfl, trivial⟩ ⟨h2.1.ok (by decide) rfl, h2.1.ok (by decide) rfl, trivial⟩ ?_
  refine sp_X7_init h2 (fun S3 v3 h3 => ?_)
  refine zj_putRF (ci := 10) (j := 13) dX10_init_162 wf_X10_93 (by decide) (by decide) (h3.1.kk (by decide) rfl) rfl rfl rfl rfl (fun _ => rfl) (fun _ => rfl) (Or.inl (by rw [h3.1.2.1]; decide)) ?_
  exact h _ _ (hB.step (a0 := 0) (j := 13) (cc := 5) (ss := 358) h3.1 (h3.2.1.trans (by rw [show 1 + 4 = 5 from rfl])) (h3.2.2.1.trans (by show _ + (8 + 350) = _; rw [show 8 + 350 = 358 from rfl])) h3.2.2.2.1 (Or.inl rfl) (by decide) rfl (fun _ => rfl) (by decide +kernel) (fun _ q => by omega) (fun _ q => by omega) (k_noF (by decide)) (fun _ q => by omega) (fun _ q => by omega) (fun a h1 h2 _ => h3.2.2.2.2 a h1 h2) (by omega) (by omega))
/-- the images: k of them are made -/
def k_C (k : Nat) (S : z_Shp) (v : z_Dat) (c s : Nat) : Prop := k_B (203 + 10 * k) S v c s ∧ ∀ i, i < k → z_r S 57 i = some (203 + 10 * i)
theorem k_im {k : Nat} (hk : k < 2) (hC : k_C k S v c s) (h : ∀ S1 v1, k_C (k + 1) S1 v1 (c + 10) (s + 80) → z_J G (d + 3) mX10_init (167, [.ref 0, .int (nI (k + 1))], [], S1, v1) Q) : z_J G (d + 3) mX10_init (167, [.ref 0, .int (nI k)], [], S, v) Q := by
  obtain ⟨hB, hI⟩ := hC
  have hF : z_isF (203 + 10 * k) := by
    simp only [z_isF, List.mem_cons, List.not_mem_nil, or_false]
    omega
  obtain ⟨a1, a2, -, -, -, -, -, -, -, a18, a19⟩ := k_fab_of hF
  refine zj_iload_n dX10_init_167 rfl rfl ?_
  refine zj_iconst (x := 2) dX10_init_168 rfl ?_
  refine zj_icmp_ge (tgt := 195) dX10_init_169 (by decide) (fun c => absurd c ?_) (fun _ => ?_)
  · rcases (show k = 0 ∨ k = 1 by omega) with rfl | rfl <;> decide
  refine zj_aload_n dX10_init_172 rfl rfl ?_
  refine zj_getR (ci := 10) (j := 4) dX10_init_173 wf_X10_33 (by decide) (by decide) (hB.1.kk (by omega) rfl) rfl (hB.2.2.2.1 4 57 rfl (by omega)) ?_
  refine zj_iload_n dX10_init_176 rfl rfl ?_
  refine k_new (ci := 0) (n := 203 + 10 * k) dX10_init_177 (by decide) wk_X10_21 wb_X0 w0_X0 hB.1 (by omega) a2 a18 a19 ⟨hB.1.ok (by omega) rfl, trivial⟩ ⟨hB.1.ok (by omega) rfl, trivial⟩ (fun S2 v2 h2 => ?_)
  refine zj_dup dX10_init_180 rfl ?_
  refine zj_aload_n dX10_init_181 rfl rfl ?_
  refine zj_getR (ci := 10) (j := 0) dX10_init_182 wf_X10_14 (by decide) (by decide) (h2.1.kk (by omega) rfl) rfl ((congrFun (h2.2.2.2.1 0 (by omega)).1 0).trans (hB.2.2.2.1 0 1 rfl (by omega))) ?_
  refine zj_callI (M' := mX0_init) (avs := [.ref 1]) (st := [.ref (203 + 10 * k), .int (nI k), .ref 57]) dX10_init_185 wm_X0_init wl_X10_23 wi_X0_init rfl rfl rfl (by decide) rfl (Nat.le_of_ble_eq_true rfl) (Nat.le_of_ble_eq_true rfl) ⟨h2.1.ok (by omega) rfl, trivial⟩ ⟨h2.1.ok (by omega) a2, h2.1.ok (by omega) rfl, trivial⟩ ?_
  refine sp_X0_init (by omega) hF (Or.inl ⟨rfl, rfl⟩) (by omega) h2 (fun S3 v3 q1 q2 q3 q4 q5 => ?_)
  refine zj_aastore dX10_init_188 (q1.kk (by omega) rfl) (q1.kk (by omega) a2) ?_ ?_
  · rw [(q1.2.2 57 (by omega)).2.1]
    exact vp_in_nI hk (by decide)
  rw [nI_clamp (by omega)]
  refine zj_iinc (y := nI (k + 1)) (ls2 := [.ref 0, .int (nI (k + 1))]) dX10_init_189 rfl (nI_1 k) (by decide) rfl rfl ?_
  refine zj_goto (tgt := 167) dX10_init_192 (by decide) (h _ _ ⟨?_, fun i hi => ?_⟩)
  · refine hB.step (n1 := 203 + 10 * (k + 1)) (a0 := 57) (j := k) (cc := 10) (ss := 80) q1 q2 q3 q4 (Or.inr rfl) (by omega) rfl (fun q => by omega) ?_ (fun _ q => by omega) (fun _ q => by omega) (fun f hf h1 h2 => ?_) (fun _ q => by omega) (fun _ q => by omega) (fun a h1 h2 h3 => by unfold k_z at h3; omega) (by omega) (by omega)
    · rcases (show k = 0 ∨ k = 1 by omega) with rfl | rfl <;> decide +kernel
    · obtain rfl : f = 203 + 10 * k := by
        simp only [z_isF, List.mem_cons, List.not_mem_nil, or_false] at hf
        omega
      exact q5
  · by_cases e : i = k
    · subst e; exact k_sr_eq
    · rw [k_sr_ne (fun z => e z.2), (q4 57 (by omega)).1]
      exact hI i (by omega)

theorem k_B.cast {n c1 s1 : Nat} (h : k_B n S v c s) (e1 : c = c1) (e2 : s = s1) : k_B n S v c1 s1 := by
  subst e1
  subst e2
  exact h
theorem sp_X10_init (hd : 1 ≤ d) (h0 : k_B 1 S v c s) (h : ∀ S1 v1, k_C 2 S1 v1 (c + 222) (s + 10990) → Q none S1 v1) : z_J G (d + 3) mX10_init (0, [.ref 0, .null], [], S, v) Q := by
  refine zj_aload_n dX10_init_0 rfl rfl ?_
  refine zj_objI dX10_init_1 wl_X10_3 (Nat.le_of_ble_eq_true rfl) ?_
  refine k_s1 hd h0 (fun S1 v1 h1 => k_s2 hd h1 (fun S2 v2 h2 => k_s3 hd h2 (fun S3 v3 h3 => k_s4 hd h3 (fun S4 v4 h4 => k_s5 hd h4 (fun S5 v5 h5 => k_s6 hd h5 (fun S6 v6 h6 => k_s7 hd h6 (fun S7 v7 h7 => k_s8 hd h7 (fun S8 v8 h8 => k_s9 hd h8 (fun S9 v9 h9 => k_s10 hd h9 (fun S10 v10 h10 => k_s11 hd h10 (fun S11 v11 h11 => k_s12 hd h11 (fun S12 v12 h12 => k_s13 hd h12 (fun S13 v13 h13 => k_s14 hd h13 (fun S14 v14 h14 => ?_))))))))))))))
  refine zj_iconst (x := nI 0) dX10_init_165 rfl ?_
  refine zj_istore_n (ls2 := [.ref 0, .int (nI 0)]) dX10_init_166 rfl (by decide) rfl rfl ?_
  refine k_im (by omega) ⟨h14, fun i hi => absurd hi (Nat.not_lt_zero i)⟩ (fun S15 v15 h15 => k_im (by omega) h15 (fun S16 v16 h16 => ?_))
  refine zj_iload_n dX10_init_167 rfl rfl ?_
  refine zj_iconst (x := 2) dX10_init_168 rfl ?_
  refine zj_icmp_ge (tgt := 195) dX10_init_169 (by decide) (fun _ => ?_) (fun c => absurd (by decide) c)
  exact zj_vret dX10_init_195 rfl (h _ _ ⟨h16.1.cast (by omega) (by omega), h16.2⟩)
end KK
