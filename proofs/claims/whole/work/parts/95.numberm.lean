/-! the reference's number -/
theorem t_k_lt {τ : Nat → Nat} {L p : Nat} (hτ : ∀ i, τ i < 256) : (t_k τ L p < 48 ↔ ¬ (p < L ∧ 48 ≤ τ p)) ∧ (t_k τ L p ≤ 57 ↔ ¬ (p < L ∧ 57 < τ p)) := by
  unfold t_k
  have hb := hτ p
  by_cases z : p < L
  · rw [if_pos z, show (48 : Int32) = nI 48 from rfl, show (57 : Int32) = nI 57 from rfl, nI_ltI (by omega) (by omega), nI_leI (by omega) (by omega)]
    omega
  · rw [if_neg z]
    exact ⟨⟨fun _ y => z y.1, fun _ => by decide⟩, ⟨fun _ y => z y.1, fun _ => by decide⟩⟩
section NM
variable {G : z_G} {d : Nat} {S : z_Shp} {v v0 : z_Dat} {Q : Option Value → z_Shp → z_Dat → Prop} {τ : Nat → Nat} {L p lo hi k : Nat}
theorem sp_X11_number (hd : 1 ≤ d) (hL : z_L S) (hk : k < 128) (hh : hi ≤ 99) (hlo : lo ≤ 99) (hT : m_Ts2 v τ L) (hp : v 223 19 = nI p) (hpL : p ≤ L)
    (h1 : ∀ v1, t_ok τ L p lo hi → v1 223 19 = nI (t_e τ L (t_s τ L p)) → v1 234 k = nI (t_n τ L (t_s τ L p) 0) → m_nw k v v1 → Q (some (.int 1)) S v1)
    (h0 : ∀ v1 fk, t_nf τ L p lo hi fk → v1 223 20 = nI fk → v1 223 21 = nI (t_s τ L p) → m_nx k v v1 → Q (some (.int 0)) S v1) : z_J G d mX11_number (0, [.ref 223, .int (nI k), .int (nI lo), .int (nI hi), .null, .null, .null], [], S, v) Q := by
  obtain ⟨d, rfl⟩ : ∃ e, d = e + 1 := ⟨d - 1, by omega⟩
  have hl := hT.2.1
  have hτ := hT.2.2.1
  have hq := t_s_b (τ := τ) hpL
  refine sg_X11_number_0 hL ?_
  refine sp_X11_peek hL hT hp hpL (fun v1 e1 a1 => ⟨_, rfl, rfl, ?_⟩)
  rw [e1, (t_k_lt hτ).1, (t_k_lt hτ).2]
  generalize hqe : t_s τ L p = q at *
  have bad : ∀ v2 fk, (m_nw k v v2) → t_nf τ L p lo hi fk → ∀ x, x = nI fk → z_J G d mX11_bad (0, [.ref 223, .int x, .int (nI q)], [], S, v2) (fun r S1 v4 => ∃ y1 : Int32, r = some (.int y1) ∧ S1 = S ∧ (y1 = 0 ∧ Q (some (.int 0)) S v4)) := by
    intro v2 fk a2 hf x hx
    subst hx
    refine sg_X11_bad_0 hL (fun v3 e3 v4 e4 => ⟨_, rfl, rfl, rfl, ?_⟩)
    exact h0 v4 fk hf (by rw [e4, z_un (by omega), e3, z_ue rfl rfl]) (by rw [e4, z_ue rfl rfl]) ⟨fun b b1 b2 => by rw [e4, z_u_ne b1, e3, z_u_ne b1]; exact a2.1 b b1 b2, fun j hj => by rw [e4, z_u_ne (by omega), e3, z_u_ne (by omega)]; exact a2.2.1 j hj, fun j j1 j2 j3 => by rw [e4, z_un (Or.inr j3), e3, z_un (Or.inr j2)]; exact a2.2.2 j j1⟩
  have nw1 : m_nw k v v1 := ⟨fun b b1 _ => a1.1 b b1, fun j _ => congrFun (a1.1 234 (by omega)) j, a1.2⟩
  have bad1 : ¬ (q < L ∧ 48 ≤ τ q ∧ τ q ≤ 57) → z_J G d mX11_bad (0, [.ref 223, .int 1, .int (nI q)], [], S, v1) (fun r S1 v2 => ∃ y2 : Int32, r = some (.int y2) ∧ S1 = S ∧ (narrow .boolean (.int y2) = .int y2 ∧ Q (some (.int y2)) S v2)) := fun z => by
    refine z_J.mono (bad v1 1 nw1 (Or.inl ⟨rfl, fun y => z ?_⟩) 1 rfl) (fun r S1 v4 hq => ?_)
    · unfold t_id at y
      rw [hqe] at y; exact y
    · obtain ⟨y1, r1, r2, r3, r4⟩ := hq
      subst r3
      exact ⟨0, r1, r2, rfl, r4⟩
  refine ⟨fun c => bad1 (fun z => c ⟨z.1, z.2.1⟩), fun c => ⟨fun c2 => ?_, fun c2 => bad1 (fun z => c2 (fun y => by omega))⟩⟩
  have hdg : q < L ∧ 48 ≤ τ q ∧ τ q ≤ 57 := by
    have c := Decidable.not_not.mp c
    exact ⟨c.1, c.2, Nat.not_lt.mp (fun z => c2 ⟨c.1, z⟩)⟩
  have hid : t_id τ L p := by unfold t_id; rw [hqe]; exact hdg
  have key : ∀ f i v2 vr x4, i + f = L → q ≤ i → t_e τ L i = t_e τ L q → t_n τ L i vr = t_n τ L q 0 → vr ≤ 999 → v2 223 19 = nI i → m_at v v2 → z_J G (d + 1) mX11_number (39, [.ref 223, .int (nI k), .int (nI lo), .int (nI hi), .int x4, .int (nI q), .int (nI vr)], [], S, v2) Q := by
    intro f
    have fin : ∀ i v2 vr, i ≤ L → t_e τ L q = i → t_n τ L q 0 = vr → vr ≤ 999 → v2 223 19 = nI i → m_at v v2 →
        vp_in (nI k) 128 ∧ (∀ v1, v1 = z_u v2 234 (nI k).toNatClampNeg (nI vr) → (((nI lo ≤ nI vr ∧ nI vr ≤ nI hi) → (Q (some (.int 1)) S v1)) ∧ (¬ (nI lo ≤ nI vr ∧ nI vr ≤ nI hi) → (z_J G d mX11_bad (0, [.ref 223, .int 2, .int (nI q)], [], S, v1) (fun r S1 v2 => ∃ y1 : Int32, r = some (.int y1) ∧ S1 = S ∧ ((y1 = 0 → (Q (some (.int 0)) S v2)) ∧ (¬ y1 = 0 → (Q (some (.int 1)) S v2)))))))) := by
      intro i v2 vr hi1 ee en hv e2 a2
      refine ⟨vp_in_nI hk (by omega), fun v3 e3 => ?_⟩
      rw [nI_clamp (by omega)] at e3
      rw [nI_leI (by omega) (by omega), nI_leI (by omega) (by omega)]
      have nw3 : m_nw k v v3 := ⟨fun b b1 b2 => by rw [e3, z_u_ne b2]; exact a2.1 b b1, fun j hj => by rw [e3, z_un (Or.inr hj)]; exact congrFun (a2.1 234 (by omega)) j, fun j hj => by rw [e3, z_u_ne (by omega)]; exact a2.2 j hj⟩
      refine ⟨fun c => ?_, fun c => ?_⟩
      · refine h1 v3 ⟨hid, by rw [hqe, en]; exact c.1, by rw [hqe, en]; exact c.2⟩ ?_ ?_ nw3
        · rw [e3, z_u_ne (by omega), e2, ee]
        · rw [e3, z_ue rfl rfl, en]
      · refine z_J.mono (bad v3 2 nw3 (Or.inr ⟨rfl, hid, fun y => c ?_⟩) 2 rfl) (fun r S1 v4 hq => ?_)
        · have y2 := y.2
          rw [hqe, en] at y2; exact y2
        · obtain ⟨y1, r1, r2, r3, r4⟩ := hq
          exact ⟨y1, r1, r2, fun _ => r4, fun z => absurd r3 z⟩
    induction f with
    | zero =>
      intro i v2 vr x4 hf hi2 ee en hv e2 a2
      have T2 := a2.T hT
      rw [(t_e_e (x := vr) (show L ≤ i by omega)).1] at ee
      rw [(t_e_e (x := vr) (show L ≤ i by omega)).2] at en
      refine sg_X11_number_39 hL ?_
      rw [T2.1, e2]
      exact ⟨fun _ => fin i v2 vr (by omega) ee.symm en.symm hv e2 a2, fun c => absurd (nI_le (by omega) (by omega)) c⟩
    | succ f ih =>
      intro i v2 vr x4 hf hi2 ee en hv e2 a2
      have T2 := a2.T hT
      have hb := hτ i
      have hin : vp_in (nI i) 240 := vp_in_nI (by omega) (by omega)
      have stop : ¬ (48 ≤ τ i ∧ τ i ≤ 57) → _ := fun z => fin i v2 vr (by omega) (by rw [(t_e_h (x := vr) (by omega) z).1] at ee; exact ee.symm) (by rw [(t_e_h (x := vr) (by omega) z).2] at en; exact en.symm) hv e2 a2
      refine sg_X11_number_39 hL ?_
      rw [T2.1, e2, nI_clamp (n := i) (by omega), T2.2.2.2 i (by omega), nI_1, show (b_s (τ i) < 48) ↔ (τ i < 48 ∨ 128 ≤ τ i) from b_s_lt hb (c := 48) (by omega), show (57 < b_s (τ i)) ↔ (57 < τ i ∧ τ i < 128) from b_s_gt hb (c := 57) (by omega)]
      refine ⟨fun c => absurd c (nI_ge (by omega) (by omega)), fun _ => ⟨hin, fun c => stop (by omega), fun c => ⟨hin, fun c2 => stop (by omega), fun c2 => ?_⟩⟩⟩
      have d1 : 48 ≤ τ i ∧ τ i ≤ 57 := by omega
      obtain ⟨u1, u2⟩ := t_e_n (x := vr) (show i < L by omega) d1
      have at3 : ∀ v3, v3 = z_u v2 223 19 (nI (i + 1)) → m_at v v3 := fun v3 e3 => ⟨fun b b1 => by rw [e3, z_u_ne b1]; exact a2.1 b b1, fun j hj => by rw [e3, z_un (Or.inr hj)]; exact a2.2 j hj⟩
      refine ⟨fun c3 => ⟨hin, fun v3 e3 => ?_⟩, fun c3 v3 e3 => ?_⟩
      · have c3 := (nI_leI (b := 99) (by omega) (by omega)).mp c3
        rw [if_neg (by omega)] at u2
        rw [b_s_lo (by omega), show (10 : Int32) = nI 10 from rfl, pk_mul, nI_add, show (48 : Int32) = nI 48 from rfl, pk_sub (by omega), show 10 * vr + τ i - 48 = 10 * vr + (τ i - 48) by omega]
        exact ih (i + 1) v3 _ _ (by omega) (by omega) (u1.symm.trans ee) (u2.symm.trans en) (by omega) (by rw [e3, z_ue rfl rfl]) (at3 v3 e3)
      · have c3 : ¬ vr ≤ 99 := fun z => c3 (nI_le (b := 99) z (by omega))
        rw [if_pos (by omega)] at u2
        exact ih (i + 1) v3 _ _ (by omega) (by omega) (u1.symm.trans ee) (u2.symm.trans en) hv (by rw [e3, z_ue rfl rfl]) (at3 v3 e3)
  exact key (L - q) q v1 0 _ (by omega) (Nat.le_refl _) rfl rfl (by omega) e1 a1
end NM
