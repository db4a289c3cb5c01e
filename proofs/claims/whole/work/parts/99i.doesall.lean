/-! the reference's doesAll -/
def xz_m (v : z_Dat) (m : Nat) (σ : Nat → pz_4) (β : Nat → Nat) : Prop := ∀ i, i < m → ((σ i).1 < 7 → m_sp v i (σ i)) ∧ ((σ i).1 = 7 → v 234 (4 * i) = nI 7 ∧ v 234 (4 * i + 1) = nI (σ i).2.2.2 ∧ v 234 (4 * i + 2) = nI (β i))
def xz_rf (k : Nat) (v v1 : z_Dat) : Prop := (∀ b, b ≠ 224 → b ≠ 236 → b ≠ 237 → v1 b = v b) ∧ ∀ t, t < k → v1 236 t = v 236 t ∧ v1 237 t = v 237 t
theorem xz_rf.rf {k : Nat} {v : z_Dat} : xz_rf k v v := ⟨fun _ _ _ _ => rfl, fun _ _ => ⟨rfl, rfl⟩⟩
theorem xz_rf.tr {k : Nat} {v v1 v2 : z_Dat} (h1 : xz_rf k v v1) (h2 : xz_rf k v1 v2) : xz_rf k v v2 := ⟨fun b b1 b2 b3 => (h2.1 b b1 b2 b3).trans (h1.1 b b1 b2 b3), fun t ht => ⟨(h2.2 t ht).1.trans (h1.2 t ht).1, (h2.2 t ht).2.trans (h1.2 t ht).2⟩⟩
theorem xz_rf.le {k k' : Nat} {v v1 : z_Dat} (h : xz_rf k v v1) (g : k' ≤ k) : xz_rf k' v v1 := ⟨h.1, fun t ht => h.2 t (by omega)⟩
theorem xz_rf.m {k m : Nat} {v v1 : z_Dat} {σ : Nat → pz_4} {β : Nat → Nat} (h : xz_rf k v v1) (g : xz_m v m σ β) : xz_m v1 m σ β := by
  unfold xz_m m_sp at g ⊢
  rw [h.1 234 (by omega) (by omega) (by omega)]; exact g
theorem xz_rf.T {k D : Nat} {v v1 : z_Dat} (h : xz_rf k v v1) (hT : p_MT v D) : p_MT v1 D := hT.fr (by rw [h.1 223 (by omega) (by omega) (by omega)]) (fun a a1 a2 => h.1 a (by omega) (by omega) (by omega))
def m_dS (v : z_Dat) (st : d_S) : Prop := p_M v st.1 ∧ st.2.1 ≤ 100 ∧ st.2.2 ≤ st.2.1
theorem nI_m1 (k : Nat) : nI (k + 1) + (-1) = nI k := by
  rw [← nI_1, Int32.add_assoc, show (1 : Int32) + (-1) = 0 from rfl, Int32.add_zero]
/-- where the body that is being done ends -/
def xz_sg (v : z_Dat) (m : Nat) (σ : Nat → pz_4) (β : Nat → Nat) (l j : Nat) : Prop := l < 2 → ∃ a, a < m ∧ v 236 (1 - l) = nI a ∧ (σ a).1 = 7 ∧ β a = j
section RA
variable {G : z_G} {S : z_Shp} {σ : Nat → pz_4} {β : Nat → Nat} {D m : Nat}
theorem sp_X11_doesAll_9 {d : Nat} {Q : Option Value → z_Shp → z_Dat → Prop} (hd : 4 ≤ d) (hL : z_L S) (hm : m ≤ 30) (hr : ∀ i, i < m → pz_ok D (σ i)) : ∀ (f l i j : Nat) (st : d_S) (v : z_Dat), l ≤ 2 → xz_P σ β l i j → j ≤ m → j - i ≤ f → xz_m v m σ β → v 223 17 = nI m → p_MT v D → m_dS v st → p_V st.1 → st.1 0 = D →
    xz_sg v m σ β l j →
    (∀ v1, m_dS v1 (xz_go σ β f i j st) → xz_rf (2 - l) v v1 → z_J G d mX11_doesAll (9, [.ref 223, .int (nI (2 - l)), .int (nI (xz_go σ β f i j st).2.1), .int (nI (xz_go σ β f i j st).2.2), .int (nI j)], [], S, v1) Q) →
    (∀ v1, m_dS v1 (xz_go σ β f i j st) → (xz_go σ β f i j st).2.1 = 100 → xz_rf 0 v v1 → Q (some (.int (nI (xz_go σ β f i j st).2.2))) S v1) →
    z_J G d mX11_doesAll (9, [.ref 223, .int (nI (2 - l)), .int (nI st.2.1), .int (nI st.2.2), .int (nI i)], [], S, v) Q := by
  obtain ⟨d, rfl⟩ : ∃ e, d = e + 1 := ⟨d - 1, by omega⟩
  intro f
  induction f with
  | zero =>
    intro l i j st v hl hP hj hf _ _ _ hS _ _ _ hgo _
    have := xz_P_le hP
    have e : i = j := by omega
    subst e
    exact hgo v hS xz_rf.rf
  | succ f ih =>
    intro l i j st v hl hP hj hf hm2 h17 hT hS hV h0 hseg hgo hstop
    have hij := xz_P_le hP
    have hb := hS.2.1
    have hb2 := hS.2.2
    by_cases c : i < j
    · by_cases c100 : st.2.1 < 100
      · have hrow := hm2 i (by omega)
        have hin : vp_in (nI (4 * i)) 128 := vp_in_nI (by omega) (by omega)
        have body : (vp_in ((4 : Int32) * nI i) 128) ∧ ((¬ (v 234 ((4 : Int32) * nI i).toNatClampNeg) = 7 → (z_J G d mX11_does (0, [.ref 223, .int ((4 : Int32) * nI i), .null, .null, .null], [], S, v) (fun r S1 v1 => ∃ y1 : Int32, r = some (.int y1) ∧ S1 = S ∧ ((y1 = 0 → (z_J G (d + 1) mX11_doesAll (9, [.ref 223, .int (nI (2 - l)), .int (nI st.2.1 + 1), .int (nI st.2.2 + 0), .int (nI i + 1)], [], S, v1) Q)) ∧ (¬ y1 = 0 → (z_J G (d + 1) mX11_doesAll (9, [.ref 223, .int (nI (2 - l)), .int (nI st.2.1 + 1), .int (nI st.2.2 + 1), .int (nI i + 1)], [], S, v1) Q)))))) ∧ ((v 234 ((4 : Int32) * nI i).toNatClampNeg) = 7 → (vp_in (nI (2 - l)) 2 ∧ (∀ v2, v2 = z_u v 236 (nI (2 - l)).toNatClampNeg (nI i) → ((vp_in (((4 : Int32) * nI i) + 1) 128) ∧ (vp_in (nI (2 - l)) 2 ∧ (∀ v3, v3 = z_u v2 237 (nI (2 - l)).toNatClampNeg (v2 234 (((4 : Int32) * nI i) + 1).toNatClampNeg) → (z_J G (d + 1) mX11_doesAll (9, [.ref 223, .int (nI (2 - l) + 1), .int (nI st.2.1), .int (nI st.2.2), .int (nI i + 1)], [], S, v3) Q)))))))) := by
          rw [show (4 : Int32) = nI 4 from rfl, pk_mul, nI_clamp (n := 4 * i) (by omega), nI_1 (4 * i), nI_1 i, nI_1 st.2.1, nI_1 st.2.2, nI_1 (2 - l), nI_clamp (n := 4 * i + 1) (by omega), nI_clamp (n := 2 - l) (by omega), show nI st.2.2 + 0 = nI (st.2.2 + 0) from nI_add (a := st.2.2) (b := 0)]
          refine ⟨hin, fun z => ?_, fun z => ?_⟩
          · have c7 : ¬ (σ i).1 = 7 := fun y => z (by rw [(hrow.2 y).1]; rfl)
            have hs : d_ok (st.1 0) (σ i) := by
              rw [h0]
              rcases hr i (by omega) with q | q
              · exact q
              · exact absurd q.1 c7
            rw [xz_go_n c c7] at hgo hstop
            obtain ⟨a1, a2⟩ := d_b_V hV hs
            refine sp_X11_does (ρ := st.1) (by omega) hL hV hS.1 (by rw [h0]; exact hT) (by omega) hs (hrow.1 (by have := (hr i (by omega)).le; omega)) (fun v1 M1 f1 => ⟨_, rfl, rfl, ?_⟩)
            have F1 : ∀ k, xz_rf k v v1 := fun k => ⟨fun b b1 _ _ => f1 b (by omega), fun t _ => ⟨by rw [f1 236 (by omega)], by rw [f1 237 (by omega)]⟩⟩
            have eb : d_b st (σ i) = (d_r st.1 (σ i), st.2.1 + 1, st.2.2 + d_f st.1 (σ i)) := by unfold d_b; rw [if_pos c100]
            have go : ∀ y, d_f st.1 (σ i) = y → y ≤ 1 → z_J G (d + 1) mX11_doesAll (9, [.ref 223, .int (nI (2 - l)), .int (nI (st.2.1 + 1)), .int (nI (st.2.2 + y)), .int (nI (i + 1))], [], S, v1) Q := by
              intro y hy hy1
              have ebb : d_b st (σ i) = (d_r st.1 (σ i), st.2.1 + 1, st.2.2 + y) := by rw [eb, hy]
              rw [ebb] at hgo hstop a1 a2
              refine ih l (i + 1) j (d_r st.1 (σ i), st.2.1 + 1, st.2.2 + y) v1 hl (xz_P_tl hP (by omega) (by omega)) hj (by omega) ((F1 0).m hm2) (by rw [f1 223 (by omega)]; exact h17) ((F1 0).T hT) ⟨M1, by show st.2.1 + 1 ≤ 100; omega, by show st.2.2 + y ≤ st.2.1 + 1; omega⟩ a1 (a2.trans h0) (fun hl2 => ?_) (fun v2 S2 f2 => hgo v2 S2 ((F1 _).tr f2)) (fun v2 S2 e2 f2 => hstop v2 S2 e2 ((F1 _).tr f2))
              obtain ⟨a, q1, q2, q3, q4⟩ := hseg hl2
              exact ⟨a, q1, by rw [f1 236 (by omega)]; exact q2, q3, q4⟩
            rcases d_f_le (ρ := st.1) (s := σ i) with z0 | z0
            · rw [z0]; exact ⟨fun _ => go 0 z0 (by omega), fun y => absurd rfl y⟩
            · rw [z0]; exact ⟨fun y => absurd y (by decide), fun _ => go 1 z0 (by omega)⟩
          · have c7 : (σ i).1 = 7 := by
              by_cases y : (σ i).1 = 7
              · exact y
              · have le := (hr i (by omega)).le
                rw [(hrow.1 (by omega)).1] at z
                exact (nI_eq (b := 7) (by omega) (by omega)).mp z
            have hn : 1 ≤ (σ i).2.2.2 ∧ (σ i).2.2.2 ≤ 9 := by
              rcases hr i (by omega) with q | q
              · exact absurd c7 (by have := q.1; omega)
              · exact q.2
            rw [xz_go_7 c c7] at hgo hstop
            cases l with
            | zero => exact absurd c7 (hP.2 i (Nat.le_refl _) c)
            | succ l =>
              obtain ⟨k1, k2, k3⟩ := hP.2 i (Nat.le_refl _) c c7
              have hk : vp_in (nI (2 - (l + 1))) 2 := vp_in_nI (by omega) (by omega)
              refine ⟨hk, fun v2 e2 => ⟨vp_in_nI (by omega) (by omega), hk, fun v3 e3 => ?_⟩⟩
              rw [show v2 234 (4 * i + 1) = nI (σ i).2.2.2 by rw [e2, z_u_ne (by omega)]; exact (hrow.2 c7).2.1] at e3
              have key : ∀ (r : Nat) (s : d_S) (v4 : z_Dat), v4 237 (2 - (l + 1)) = nI (r + 1) → r + 1 ≤ 9 → v4 236 (2 - (l + 1)) = nI i → xz_rf (2 - (l + 1)) v v4 → m_dS v4 s → p_V s.1 → s.1 0 = D → xz_it (fun s => xz_go σ β f (i + 1) (β i) s) (r + 1) s = xz_it (fun s => xz_go σ β f (i + 1) (β i) s) (σ i).2.2.2 st →
                  z_J G (d + 1) mX11_doesAll (9, [.ref 223, .int (nI (2 - (l + 1) + 1)), .int (nI s.2.1), .int (nI s.2.2), .int (nI (i + 1))], [], S, v4) Q := by
                intro r
                induction r with
                | zero =>
                  intro s v4 t4 r9 w4 F4 S4 V4 s0 hs
                  rw [show 2 - (l + 1) + 1 = 2 - l by omega]
                  have fin : ∀ st5, xz_go σ β f (i + 1) (β i) s = st5 → st5 = xz_it (fun s => xz_go σ β f (i + 1) (β i) s) (σ i).2.2.2 st := fun st5 e5 => by rw [← hs, ← e5]; rfl
                  refine ih l (i + 1) (β i) s v4 (by omega) k3 (by omega) (by omega) (F4.m hm2) (by rw [F4.1 223 (by omega) (by omega) (by omega)]; exact h17) (F4.T hT) S4 V4 s0 (fun hl2 => ⟨i, by omega, by rw [show 1 - l = 2 - (l + 1) by omega]; exact w4, c7, rfl⟩) (fun v5 S5 f5 => ?_) (fun v5 S5 e5 f5 => ?_)
                  · obtain ⟨V5, s5⟩ := xz_go_V hr f l (i + 1) (β i) s (by omega) k3 V4 s0
                    have F5 : xz_rf (2 - (l + 1)) v v5 := F4.tr (f5.le (by omega))
                    have e17 : v5 223 17 = nI m := by rw [F5.1 223 (by omega) (by omega) (by omega)]; exact h17
                    have q237 : v5 237 (2 - (l + 1)) = nI (0 + 1) := ((f5.2 _ (by omega)).2).trans t4
                    have q236 : v5 236 (2 - (l + 1)) = nI i := ((f5.2 _ (by omega)).1).trans w4
                    have q234 : v5 234 (4 * i + 2) = nI (β i) := by rw [F5.1 234 (by omega) (by omega) (by omega)]; exact (hrow.2 c7).2.2
                    have hfin := fin _ rfl
                    generalize xz_go σ β f (i + 1) (β i) s = st5 at *
                    have b5 := S5.2.1
                    have b52 := S5.2.2
                    refine sg_X11_doesAll_9 hL ?_
                    rw [e17, show nI (2 - l) - 1 = nI (2 - (l + 1)) by rw [show (1 : Int32) = nI 1 from rfl, pk_sub (by omega)]; congr 1, nI_clamp (n := 2 - (l + 1)) (by omega), q236, show (4 : Int32) * nI i + 2 = nI (4 * i + 2) by rw [show (4 : Int32) = nI 4 from rfl, pk_mul, show (2 : Int32) = nI 2 from rfl, nI_add], nI_clamp (n := 4 * i + 2) (by omega), q234, q237]
                    have close : ∀ B : Prop, vp_in (nI (2 - (l + 1))) 2 ∧ vp_in (nI (4 * i + 2)) 128 ∧ (¬ nI (β i) = nI (β i) → B) ∧ (nI (β i) = nI (β i) → vp_in (nI (2 - (l + 1))) 2 ∧ vp_in (nI (2 - (l + 1))) 2 ∧ ∀ v7, v7 = z_u v5 237 (2 - (l + 1)) (nI (0 + 1) - 1) → vp_in (nI (2 - (l + 1))) 2 ∧ (v7 237 (2 - (l + 1)) ≤ 0 → z_J G (d + 1) mX11_doesAll (9, [.ref 223, .int (nI (2 - l) + (-1)), .int (nI st5.2.1), .int (nI st5.2.2), .int (nI (β i))], [], S, v7) Q) ∧ (¬ v7 237 (2 - (l + 1)) ≤ 0 → vp_in (nI (2 - (l + 1))) 2 ∧ z_J G (d + 1) mX11_doesAll (9, [.ref 223, .int (nI (2 - l)), .int (nI st5.2.1), .int (nI st5.2.2), .int (v7 236 (2 - (l + 1)) + 1)], [], S, v7) Q)) := by
                      intro B
                      refine ⟨hk, vp_in_nI (by omega) (by omega), fun z => absurd rfl z, fun _ => ⟨hk, hk, fun v7 e7 => ⟨hk, fun _ => ?_, fun z => absurd (by rw [e7, z_ue rfl rfl]; decide) z⟩⟩⟩
                      rw [show nI (2 - l) + (-1) = nI (2 - (l + 1)) by rw [show 2 - l = (2 - (l + 1)) + 1 by omega]; exact nI_m1 _]
                      have F7 : xz_rf (2 - (l + 1)) v v7 := F5.tr ⟨fun b _ _ b3 => by rw [e7, z_u_ne b3], fun t ht => ⟨by rw [e7, z_u_ne (by omega)], by rw [e7, z_un (by omega)]⟩⟩
                      rw [← hfin] at hgo hstop
                      refine ih (l + 1) (β i) j st5 v7 hl (xz_P_tl hP (by omega) k2) hj (by omega) (F7.m hm2) (by rw [F7.1 223 (by omega) (by omega) (by omega)]; exact h17) (F7.T hT) ⟨fun a ha => by rw [e7, z_u_ne (by omega)]; exact S5.1 a ha, b5, b52⟩ V5 s5 (fun hl2 => ?_) (fun v8 S8 f8 => hgo v8 S8 (F7.tr f8)) (fun v8 S8 e8 f8 => hstop v8 S8 e8 ((F7.le (by omega)).tr f8))
                      obtain ⟨a, q1, q2, q3, q4⟩ := hseg hl2
                      exact ⟨a, q1, by rw [(F7.2 (1 - (l + 1)) (by omega)).1]; exact q2, q3, q4⟩
                    have pos : ¬ nI (2 - l) ≤ 0 := nI_ge (a := 0) (by omega) (by omega)
                    refine ⟨fun z => ?_, fun z => ⟨fun _ => ⟨fun y => absurd y pos, fun _ => close _⟩, fun _ => ⟨fun y => absurd y pos, fun _ => ⟨fun y => absurd y pos, fun _ => close _⟩⟩⟩⟩
                    have z100 := (nI_leI (a := 100) (by omega) (by omega)).mp z
                    rw [← hfin, xz_go_100 f _ _ st5 (by omega)] at hstop
                    exact hstop v5 S5 (by omega) (F5.le (by omega))
                  · have hfin := fin _ rfl
                    rw [← hfin, xz_go_100 f _ _ _ (by omega)] at hstop
                    exact hstop v5 S5 e5 ((F4.le (by omega)).tr f5)
                | succ r ihr =>
                  intro s v4 t4 r9 w4 F4 S4 V4 s0 hs
                  rw [show 2 - (l + 1) + 1 = 2 - l by omega]
                  have fin : ∀ st5, xz_go σ β f (i + 1) (β i) s = st5 → xz_it (fun s => xz_go σ β f (i + 1) (β i) s) (r + 1) st5 = xz_it (fun s => xz_go σ β f (i + 1) (β i) s) (σ i).2.2.2 st := fun st5 e5 => by rw [← hs, ← e5]; rfl
                  have i100 : ∀ st5 : d_S, ¬ st5.2.1 < 100 → xz_it (fun s => xz_go σ β f (i + 1) (β i) s) (r + 1) st5 = st5 := fun st5 h5 => xz_it_100 (fun s hs => xz_go_100 f _ _ s hs) _ _ h5
                  refine ih l (i + 1) (β i) s v4 (by omega) k3 (by omega) (by omega) (F4.m hm2) (by rw [F4.1 223 (by omega) (by omega) (by omega)]; exact h17) (F4.T hT) S4 V4 s0 (fun hl2 => ⟨i, by omega, by rw [show 1 - l = 2 - (l + 1) by omega]; exact w4, c7, rfl⟩) (fun v5 S5 f5 => ?_) (fun v5 S5 e5 f5 => ?_)
                  · obtain ⟨V5, s5⟩ := xz_go_V hr f l (i + 1) (β i) s (by omega) k3 V4 s0
                    have F5 : xz_rf (2 - (l + 1)) v v5 := F4.tr (f5.le (by omega))
                    have e17 : v5 223 17 = nI m := by rw [F5.1 223 (by omega) (by omega) (by omega)]; exact h17
                    have q237 : v5 237 (2 - (l + 1)) = nI (r + 1 + 1) := ((f5.2 _ (by omega)).2).trans t4
                    have q236 : v5 236 (2 - (l + 1)) = nI i := ((f5.2 _ (by omega)).1).trans w4
                    have q234 : v5 234 (4 * i + 2) = nI (β i) := by rw [F5.1 234 (by omega) (by omega) (by omega)]; exact (hrow.2 c7).2.2
                    have hfin := fin _ rfl
                    generalize xz_go σ β f (i + 1) (β i) s = st5 at V5 s5 S5 hfin ⊢
                    have b5 := S5.2.1
                    have b52 := S5.2.2
                    refine sg_X11_doesAll_9 hL ?_
                    rw [e17, show nI (2 - l) - 1 = nI (2 - (l + 1)) by rw [show (1 : Int32) = nI 1 from rfl, pk_sub (by omega)]; congr 1, nI_clamp (n := 2 - (l + 1)) (by omega), q236, show (4 : Int32) * nI i + 2 = nI (4 * i + 2) by rw [show (4 : Int32) = nI 4 from rfl, pk_mul, show (2 : Int32) = nI 2 from rfl, nI_add], nI_clamp (n := 4 * i + 2) (by omega), q234, q237]
                    have close : ∀ B : Prop, vp_in (nI (2 - (l + 1))) 2 ∧ vp_in (nI (4 * i + 2)) 128 ∧ (¬ nI (β i) = nI (β i) → B) ∧ (nI (β i) = nI (β i) → vp_in (nI (2 - (l + 1))) 2 ∧ vp_in (nI (2 - (l + 1))) 2 ∧ ∀ v7, v7 = z_u v5 237 (2 - (l + 1)) (nI (r + 1 + 1) - 1) → vp_in (nI (2 - (l + 1))) 2 ∧ (v7 237 (2 - (l + 1)) ≤ 0 → z_J G (d + 1) mX11_doesAll (9, [.ref 223, .int (nI (2 - l) + (-1)), .int (nI st5.2.1), .int (nI st5.2.2), .int (nI (β i))], [], S, v7) Q) ∧ (¬ v7 237 (2 - (l + 1)) ≤ 0 → vp_in (nI (2 - (l + 1))) 2 ∧ z_J G (d + 1) mX11_doesAll (9, [.ref 223, .int (nI (2 - l)), .int (nI st5.2.1), .int (nI st5.2.2), .int (v7 236 (2 - (l + 1)) + 1)], [], S, v7) Q)) := by
                      intro B
                      refine ⟨hk, vp_in_nI (by omega) (by omega), fun z => absurd rfl z, fun _ => ⟨hk, hk, fun v7 e7 => ?_⟩⟩
                      rw [show (1 : Int32) = nI 1 from rfl, pk_sub (by omega), show r + 1 + 1 - 1 = r + 1 by omega] at e7
                      have t7 : v7 237 (2 - (l + 1)) = nI (r + 1) := by rw [e7, z_ue rfl rfl]
                      have w7 : v7 236 (2 - (l + 1)) = nI i := by rw [e7, z_u_ne (by omega)]; exact q236
                      rw [t7, w7, nI_1]
                      refine ⟨hk, fun z => absurd z (nI_ge (a := 0) (by omega) (by omega)), fun _ => ⟨hk, ?_⟩⟩
                      have F7 : xz_rf (2 - (l + 1)) v v7 := F5.tr ⟨fun b _ _ b3 => by rw [e7, z_u_ne b3], fun t ht => ⟨by rw [e7, z_u_ne (by omega)], by rw [e7, z_un (by omega)]⟩⟩
                      have := ihr st5 v7 t7 (by omega) w7 F7 ⟨fun a ha => by rw [e7, z_u_ne (by omega)]; exact S5.1 a ha, b5, b52⟩ V5 s5 hfin
                      rw [show 2 - (l + 1) + 1 = 2 - l by omega] at this
                      exact this
                    have pos : ¬ nI (2 - l) ≤ 0 := nI_ge (a := 0) (by omega) (by omega)
                    refine ⟨fun z => ?_, fun z => ⟨fun _ => ⟨fun y => absurd y pos, fun _ => close _⟩, fun _ => ⟨fun y => absurd y pos, fun _ => ⟨fun y => absurd y pos, fun _ => close _⟩⟩⟩⟩
                    have z100 := (nI_leI (a := 100) (by omega) (by omega)).mp z
                    rw [← hfin, i100 st5 (by omega), xz_go_100 f _ _ st5 (by omega)] at hstop
                    exact hstop v5 S5 (by omega) (F5.le (by omega))
                  · have hfin := fin _ rfl
                    rw [← hfin, i100 _ (by omega), xz_go_100 f _ _ _ (by omega)] at hstop
                    exact hstop v5 S5 e5 ((F4.le (by omega)).tr f5)
              obtain ⟨r, hr2⟩ : ∃ r, (σ i).2.2.2 = r + 1 := ⟨(σ i).2.2.2 - 1, by omega⟩
              refine key r st v3 (by rw [e3, z_ue rfl rfl, hr2]) (by omega) (by rw [e3, z_u_ne (by omega), e2, z_ue rfl rfl]) ⟨fun b _ b2 b3 => by rw [e3, z_u_ne b3, e2, z_u_ne b2], fun t ht => ⟨by rw [e3, z_u_ne (by omega), e2, z_un (by omega)], by rw [e3, z_un (by omega), e2, z_u_ne (by omega)]⟩⟩ ⟨fun a ha => by rw [e3, z_u_ne (by omega), e2, z_u_ne (by omega)]; exact hS.1 a ha, hb, hb2⟩ hV h0 (by rw [hr2])
        refine sg_X11_doesAll_9 hL ?_
        rw [h17]
        refine ⟨fun z => absurd z (nI_ge (b := 100) (by omega) (by omega)), fun _ => ⟨fun _ => ⟨fun _ => body, fun z => ?_⟩, fun z => absurd (nI_lt (by omega) (by omega)) z⟩⟩
        have hl2 : l < 2 := by
          rcases Nat.lt_or_ge l 2 with y | y
          · exact y
          · exact absurd (by rw [show 2 - l = 0 by omega]; decide) z
        obtain ⟨a, q1, q2, q3, q4⟩ := hseg hl2
        have e4 : v 234 (4 * a + 2) = nI j := by rw [((hm2 a q1).2 q3).2.2, q4]
        rw [show nI (2 - l) - 1 = nI (1 - l) by rw [show (1 : Int32) = nI 1 from rfl, pk_sub (by omega)]; congr 1; omega, nI_clamp (n := 1 - l) (by omega), q2]
        rw [show (4 : Int32) * nI a + 2 = nI (4 * a + 2) by rw [show (4 : Int32) = nI 4 from rfl, pk_mul, show (2 : Int32) = nI 2 from rfl, nI_add], nI_clamp (n := 4 * a + 2) (by omega), e4]
        refine ⟨vp_in_nI (by omega) (by omega), vp_in_nI (by omega) (by omega), fun _ => body, fun y => absurd ((nI_eq (by omega) (by omega)).mp y) (by omega)⟩
      · rw [xz_go_100 _ _ _ st c100] at hstop
        refine sg_X11_doesAll_9 hL ⟨fun _ => hstop v hS (by omega) xz_rf.rf, fun z => absurd (nI_le (a := 100) (by omega) (by omega)) z⟩
    · have e : i = j := by omega
      rw [xz_go_e c] at hgo
      subst e
      exact hgo v hS xz_rf.rf
theorem sp_X11_doesAll {d : Nat} {ρ : Nat → Nat} {v : z_Dat} {Q : Option Value → z_Shp → z_Dat → Prop} (hd : 4 ≤ d) (hL : z_L S) (hm : m ≤ 30) (hr : ∀ i, i < m → pz_ok (ρ 0) (σ i)) (hP : xz_P σ β 2 0 m) (hc : xz_m v m σ β) (h17 : v 223 17 = nI m) (hT : p_MT v (ρ 0)) (hM : p_M v ρ) (hV : p_V ρ)
    (h : ∀ v1, p_M v1 (xz_go σ β 30 0 m (ρ, 0, 0)).1 → xz_rf 0 v v1 → Q (some (.int (nI (xz_go σ β 30 0 m (ρ, 0, 0)).2.2))) S v1) : z_J G d mX11_doesAll (0, [.ref 223, .null, .null, .null, .null], [], S, v) Q := by
  refine sg_X11_doesAll_0 ?_
  have := sp_X11_doesAll_9 (G := G) (σ := σ) (β := β) (D := ρ 0) (m := m) (Q := Q) hd hL hm hr 30 2 0 m (ρ, 0, 0) v (by omega) hP (by omega) (by omega) hc h17 hT ⟨hM, by show 0 ≤ 100; omega, by show 0 ≤ 0; omega⟩ hV rfl (fun z => absurd z (by omega)) (fun v1 S1 f1 => ?_) (fun v1 S1 _ f1 => h v1 S1.1 f1)
  · exact this
  · obtain ⟨d, rfl⟩ : ∃ e, d = e + 1 := ⟨d - 1, by omega⟩
    refine sg_X11_doesAll_9 hL ?_
    rw [show v1 223 17 = nI m by rw [f1.1 223 (by omega) (by omega) (by omega)]; exact h17]
    have q := h v1 S1.1 f1
    exact ⟨fun _ => q, fun _ => ⟨fun z => absurd z (nI_nlt (Nat.le_refl _) (by omega)), fun _ => ⟨fun _ => q, fun z => absurd (by decide) z⟩⟩⟩
end RA
