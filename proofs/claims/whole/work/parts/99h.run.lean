/-! THE STEPS ARE DONE: pure, and the class' doSteps, doneOn -/
def xz_it (g : d_S → d_S) : Nat → d_S → d_S
  | 0, st => st
  | n + 1, st => xz_it g n (g st)
def xz_go (σ : Nat → pz_4) (β : Nat → Nat) : Nat → Nat → Nat → d_S → d_S
  | 0, _, _, st => st
  | f + 1, i, j, st => if i < j then (if (σ i).1 = 7 then xz_go σ β f (β i) j (xz_it (fun s => xz_go σ β f (i + 1) (β i) s) (σ i).2.2.2 st) else xz_go σ β f (i + 1) j (d_b st (σ i))) else st
theorem xz_go_e {σ : Nat → pz_4} {β : Nat → Nat} {f i j : Nat} {st : d_S} (h : ¬ i < j) : xz_go σ β f i j st = st := by
  cases f with
  | zero => rfl
  | succ f => rw [xz_go, if_neg h]
theorem xz_go_7 {σ : Nat → pz_4} {β : Nat → Nat} {f i j : Nat} {st : d_S} (h : i < j) (h7 : (σ i).1 = 7) : xz_go σ β (f + 1) i j st = xz_go σ β f (β i) j (xz_it (fun s => xz_go σ β f (i + 1) (β i) s) (σ i).2.2.2 st) := by
  rw [xz_go, if_pos h, if_pos h7]
theorem xz_go_n {σ : Nat → pz_4} {β : Nat → Nat} {f i j : Nat} {st : d_S} (h : i < j) (h7 : ¬ (σ i).1 = 7) : xz_go σ β (f + 1) i j st = xz_go σ β f (i + 1) j (d_b st (σ i)) := by
  rw [xz_go, if_pos h, if_neg h7]
theorem xz_it_100 {g : d_S → d_S} (hg : ∀ s : d_S, ¬ s.2.1 < 100 → g s = s) : ∀ (n : Nat) (st : d_S), ¬ st.2.1 < 100 → xz_it g n st = st
  | 0, _, _ => rfl
  | n + 1, st, h => by rw [xz_it, hg st h]; exact xz_it_100 hg n st h
theorem xz_go_100 {σ : Nat → pz_4} {β : Nat → Nat} : ∀ (f i j : Nat) (st : d_S), ¬ st.2.1 < 100 → xz_go σ β f i j st = st
  | 0, _, _, _, _ => rfl
  | f + 1, i, j, st, h => by
    rw [xz_go]
    split
    · split
      · rw [xz_it_100 (fun s hs => xz_go_100 f _ _ s hs) _ _ h]; exact xz_go_100 f _ _ _ h
      · rw [d_b_100 h]; exact xz_go_100 f _ _ _ h
    · rfl
/-- the rows of steps from i to j may stand there -/
theorem xz_go_V {σ : Nat → pz_4} {β : Nat → Nat} {D m : Nat} (hr : ∀ i, i < m → pz_ok D (σ i)) : ∀ (f l i j : Nat) (st : d_S), j ≤ m → xz_P σ β l i j → p_V st.1 → st.1 0 = D → p_V (xz_go σ β f i j st).1 ∧ (xz_go σ β f i j st).1 0 = D
  | 0, _, _, _, _, _, _, h1, h2 => ⟨h1, h2⟩
  | f + 1, l, i, j, st, hj, hP, h1, h2 => by
    by_cases c : i < j
    · by_cases c7 : (σ i).1 = 7
      · cases l with
        | zero => exact absurd c7 (hP.2 i (Nat.le_refl _) c)
        | succ l =>
          obtain ⟨k1, k2, k3⟩ := hP.2 i (Nat.le_refl _) c c7
          rw [xz_go_7 c c7]
          have it : ∀ (n : Nat) (s : d_S), p_V s.1 → s.1 0 = D → p_V (xz_it (fun s => xz_go σ β f (i + 1) (β i) s) n s).1 ∧ (xz_it (fun s => xz_go σ β f (i + 1) (β i) s) n s).1 0 = D := by
            intro n
            induction n with
            | zero => intro s a b; exact ⟨a, b⟩
            | succ n ih =>
              intro s a b
              obtain ⟨a2, b2⟩ := xz_go_V hr f l (i + 1) (β i) s (by omega) k3 a b
              exact ih _ a2 b2
          obtain ⟨a3, b3⟩ := it (σ i).2.2.2 st h1 h2
          exact xz_go_V hr f (l + 1) (β i) j _ hj ⟨k2, fun a a1 a2 a4 => hP.2 a (by omega) a2 a4⟩ a3 b3
      · rw [xz_go_n c c7]
        have hs : d_ok (st.1 0) (σ i) := by
          rw [h2]
          rcases hr i (by omega) with q | q
          · exact q
          · exact absurd q.1 c7
        obtain ⟨a1, a2⟩ := d_b_V h1 hs
        refine xz_go_V hr f l (i + 1) j _ hj ?_ a1 (a2.trans h2)
        cases l with
        | zero => exact ⟨c, fun a a1 a2 => hP.2 a (by omega) a2⟩
        | succ l => exact ⟨c, fun a a1 a2 a4 => hP.2 a (by omega) a2 a4⟩
    · rw [xz_go_e c]; exact ⟨h1, h2⟩
theorem xz_P_tl {σ : Nat → pz_4} {β : Nat → Nat} {l i i' j : Nat} (h : xz_P σ β l i j) (h1 : i ≤ i') (h2 : i' ≤ j) : xz_P σ β l i' j := by
  cases l with
  | zero => exact ⟨h2, fun a a1 a2 => h.2 a (by omega) a2⟩
  | succ l => exact ⟨h2, fun a a1 a2 a4 => h.2 a (by omega) a2 a4⟩
/-- the program as the class keeps it -/
def xz_c (v : z_Dat) (m : Nat) (σ : Nat → pz_4) (β : Nat → Nat) : Prop := ∀ i, i < m → ((σ i).1 < 7 → c_sp v i (σ i)) ∧ ((σ i).1 = 7 → v 143 i = nI 7 ∧ v 146 i = nI (σ i).2.2.2 ∧ v 147 i = nI (β i))
theorem c_df.rf {v : z_Dat} : c_df v v := ⟨fun _ _ _ => rfl, fun _ _ _ => rfl⟩
theorem c_df.tr {v v1 v2 : z_Dat} (h1 : c_df v v1) (h2 : c_df v1 v2) : c_df v v2 := ⟨fun b b1 b2 => (h2.1 b b1 b2).trans (h1.1 b b1 b2), fun j j1 j2 => (h2.2 j j1 j2).trans (h1.2 j j1 j2)⟩
theorem xz_c.fr {v v1 : z_Dat} {m : Nat} {σ : Nat → pz_4} {β : Nat → Nat} (h : xz_c v m σ β) (g : c_df v v1) : xz_c v1 m σ β := by
  unfold xz_c c_sp at h ⊢
  rw [g.1 143 (by omega) (by omega), g.1 144 (by omega) (by omega), g.1 145 (by omega) (by omega), g.1 146 (by omega) (by omega), g.1 147 (by omega) (by omega)]; exact h
theorem c_df.W {v v1 : z_Dat} (h : c_df v v1) (hW : p_Ws v) : p_Ws v1 := hW.fr (fun a a1 a2 => h.1 a (by omega) (by omega))
section RN
variable {G : z_G} {S : z_Shp} {σ : Nat → pz_4} {β : Nat → Nat} {D m : Nat}
theorem sp_X6_doSteps_13 (hL : z_L S) (hm : m ≤ 30) (hr : ∀ i, i < m → pz_ok D (σ i)) : ∀ (f l d i j t : Nat) (x2 : Int32) (st : d_S) (v : z_Dat) (Q : Option Value → z_Shp → z_Dat → Prop), 6 + l ≤ d → l ≤ 2 → xz_P σ β l i j → j ≤ m → j - i ≤ f → t ≤ i → xz_c v m σ β → p_Ws v → c_dS S v st → v 141 13 = nI D → p_V st.1 → st.1 0 = D →
    (∀ v1, c_dS S v1 (xz_go σ β f i j st) → c_df v v1 → Q none S v1) → z_J G d mX6_doSteps (13, [.ref 141, .ref 37, .int x2, .int (nI j), .int (nI (2 - l)), .int (nI i), .int (nI t), .null], [], S, v) Q := by
  intro f
  induction f with
  | zero =>
    intro l d i j t x2 st v Q hd hl hP hj hf ht hc hW hS h13 hV h0 h
    obtain ⟨d, rfl⟩ : ∃ e, d = e + 1 := ⟨d - 1, by omega⟩
    have := xz_P_le hP
    refine sg_X6_doSteps_13 hL zF_37 ?_
    exact ⟨fun _ => h v hS c_df.rf, fun _ => ⟨fun _ => h v hS c_df.rf, fun c => absurd (nI_le (by omega) (by omega)) c⟩⟩
  | succ f ih =>
    intro l d i j t x2 st v Q hd hl hP hj hf ht hc hW hS h13 hV h0 h
    obtain ⟨d, rfl⟩ : ∃ e, d = e + 1 := ⟨d - 1, by omega⟩
    have hij := xz_P_le hP
    by_cases c : i < j
    · have hin : vp_in (nI i) 30 := vp_in_nI (by omega) (by omega)
      have hrow := hc i (by omega)
      refine sg_X6_doSteps_13 hL zF_37 ?_
      rw [nI_clamp (n := i) (by omega)]
      refine ⟨fun z => absurd z (nI_ge (a := t) (b := 30) (by omega) (by omega)), fun _ => ⟨fun z => absurd z (nI_ge (by omega) (by omega)), fun _ => ⟨hin, fun z => ?_, fun z => ?_⟩⟩⟩
      · have c7 : ¬ (σ i).1 = 7 := fun y => z (by rw [(hrow.2 y).1]; rfl)
        have hs : d_ok D (σ i) := by
          rcases hr i (by omega) with q | q
          · exact q
          · exact absurd q.1 c7
        rw [xz_go_n c c7] at h
        refine sp_X6_beginStep (st := st) (s := σ i) (by omega) hL hV hW hS (by rw [h0]; exact h13) (by omega) (by rw [h0]; exact hs) (hrow.1 (by have := (hr i (by omega)).le; omega)) (fun v1 S1 f1 => ⟨rfl, rfl, ?_⟩)
        obtain ⟨a1, a2⟩ := d_b_V hV (s := σ i) (by rw [h0]; exact hs)
        rw [nI_1, nI_1]
        refine ih l (d + 1) (i + 1) j (t + 1) x2 (d_b st (σ i)) v1 Q hd hl (xz_P_tl hP (by omega) (by omega)) hj (by omega) (by omega) (hc.fr f1) (f1.W hW) S1 (by rw [f1.2 13 (by omega) (by omega)]; exact h13) a1 (a2.trans h0) (fun v2 S2 f2 => h v2 S2 (f1.tr f2))
      · have c7 : (σ i).1 = 7 := by
          by_cases y : (σ i).1 = 7
          · exact y
          · have le := (hr i (by omega)).le
            rw [(hrow.1 (by omega)).1] at z
            exact (nI_eq (b := 7) (by omega) (by omega)).mp z
        have hn : 1 ≤ (σ i).2.2.2 ∧ (σ i).2.2.2 ≤ 9 := by
          rcases hr i (by omega) with q | q
          · exact absurd c7 (by have := q.1; omega)
          · exact q.2
        rw [xz_go_7 c c7] at h
        cases l with
        | zero => exact absurd c7 (hP.2 i (Nat.le_refl _) c)
        | succ l =>
          obtain ⟨k1, k2, k3⟩ := hP.2 i (Nat.le_refl _) c c7
          have key : ∀ (r tm : Nat) (s : d_S) (v1 : z_Dat), tm + r = (σ i).2.2.2 → xz_it (fun s => xz_go σ β f (i + 1) (β i) s) r s = xz_it (fun s => xz_go σ β f (i + 1) (β i) s) (σ i).2.2.2 st → c_dS S v1 s → c_df v v1 → p_V s.1 → s.1 0 = D →
              z_J G (d + 1) mX6_doSteps (41, [.ref 141, .ref 37, .int x2, .int (nI j), .int (nI (2 - (l + 1))), .int (nI i), .int (nI t), .int (nI tm)], [], S, v1) Q := by
            intro r
            induction r with
            | zero =>
              intro tm s v1 ht2 hs S1 f1 V1 s0
              have c1 := hc.fr f1
              obtain ⟨r1, r2, r3⟩ := (c1 i (by omega)).2 c7
              refine sg_X6_doSteps_41 hL zF_37 ?_
              rw [nI_clamp (n := i) (by omega), r2, r3, nI_1]
              refine ⟨hin, fun _ => ⟨hin, ?_⟩, fun z => absurd (nI_le (by omega) (by omega)) z⟩
              have hs : s = _ := hs
              rw [← hs] at h
              exact ih (l + 1) (d + 1) (β i) j (t + 1) x2 s v1 Q hd hl (xz_P_tl hP (by omega) k2) hj (by omega) (by omega) c1 (f1.W hW) S1 (by rw [f1.2 13 (by omega) (by omega)]; exact h13) V1 s0 (fun v2 S2 f2 => h v2 S2 (f1.tr f2))
            | succ r ihr =>
              intro tm s v1 ht2 hs S1 f1 V1 s0
              have c1 := hc.fr f1
              obtain ⟨r1, r2, r3⟩ := (c1 i (by omega)).2 c7
              refine sg_X6_doSteps_41 hL zF_37 ?_
              rw [nI_clamp (n := i) (by omega), r2, r3, nI_1 i, nI_1 (2 - (l + 1)), nI_1 tm]
              refine ⟨hin, fun z => absurd z (nI_ge (by omega) (by omega)), fun _ => ⟨hin, ?_⟩⟩
              refine sg_X6_doSteps_0 zF_37 ⟨fun _ => ?_, fun z => absurd (nI_le (b := 2) (by omega) (by omega)) z⟩
              rw [show 2 - (l + 1) + 1 = 2 - l by omega, show (0 : Int32) = nI 0 from rfl]
              refine ih l d (i + 1) (β i) 0 _ s v1 _ (by omega) (by omega) k3 (by omega) (by omega) (by omega) c1 (f1.W hW) S1 (by rw [f1.2 13 (by omega) (by omega)]; exact h13) V1 s0 (fun v2 S2 f2 => ⟨rfl, rfl, ?_⟩)
              obtain ⟨a2, b2⟩ := xz_go_V hr f l (i + 1) (β i) s (by omega) k3 V1 s0
              exact ihr (tm + 1) _ v2 (by omega) hs S2 (f1.tr f2) a2 b2
          exact key (σ i).2.2.2 0 st v (by omega) rfl hS c_df.rf hV h0
    · rw [xz_go_e c] at h
      refine sg_X6_doSteps_13 hL zF_37 ?_
      exact ⟨fun _ => h v hS c_df.rf, fun _ => ⟨fun _ => h v hS c_df.rf, fun z => absurd (nI_le (by omega) (by omega)) z⟩⟩
theorem sp_X6_doneOn {d : Nat} {ρ : Nat → Nat} {v : z_Dat} {Q : Option Value → z_Shp → z_Dat → Prop} (hd : 9 ≤ d) (hL : z_L S) (hm : m ≤ 30) (hr : ∀ i, i < m → pz_ok (ρ 0) (σ i)) (hP : xz_P σ β 2 0 m) (hc : xz_c v m σ β) (h11 : v 141 11 = nI m) (hW : p_Ws v) (hF : p_F S v 37 ρ) (h13 : v 141 13 = nI (ρ 0)) (hV : p_V ρ)
    (h : ∀ v1, p_F S v1 37 (xz_go σ β 30 0 m (ρ, 0, 0)).1 → c_df v v1 → Q (some (.int (nI (xz_go σ β 30 0 m (ρ, 0, 0)).2.2))) S v1) : z_J G d mX6_doneOn (0, [.ref 141, .ref 37], [], S, v) Q := by
  obtain ⟨d, rfl⟩ : ∃ e, d = e + 1 := ⟨d - 1, by omega⟩
  refine sg_X6_doneOn_0 hL zF_37 (fun v1 e1 v2 e2 => ?_)
  have f2 : c_df v v2 := ⟨fun b b1 b2 => by rw [e2, z_u_ne b2, e1, z_u_ne b2], fun j j1 j2 => by rw [e2, z_un (Or.inr j2), e1, z_un (Or.inr j1)]⟩
  rw [show v2 141 11 = nI m by rw [f2.2 11 (by omega) (by omega)]; exact h11, show (0 : Int32) = nI 0 from rfl]
  refine sg_X6_doSteps_0 zF_37 ⟨fun _ => ?_, fun z => absurd (by decide) z⟩
  rw [show (0 : Int32) = nI 0 from rfl]
  refine sp_X6_doSteps_13 (σ := σ) (β := β) (D := ρ 0) (m := m) hL hm hr 30 2 d 0 m 0 _ (ρ, 0, 0) v2 _ (by omega) (by omega) hP (by omega) (by omega) (by omega) (hc.fr f2) (f2.W hW) ⟨hF.fr (fun a a1 a2 => by rw [e2, z_u_ne (by omega), e1, z_u_ne (by omega)]), by rw [e2, z_un (by omega), e1, z_ue rfl rfl]; rfl, by show 0 ≤ 100; omega, by rw [e2, z_ue rfl rfl]; rfl, by show 0 ≤ 0; omega⟩ (by rw [f2.2 13 (by omega) (by omega)]; exact h13) hV rfl (fun v3 S3 f3 => ⟨rfl, rfl, ?_⟩)
  rw [S3.2.2.2.1]
  exact h v3 S3.1 (f2.tr f3)
end RN
