/-! the reference lays its tables -/
theorem l_kI_eq {D i j κ : Nat} (hκ : κ < 2) : l_kI (l_kd D i j) = nI κ ↔ l_kd D i j = κ := by
  have h3 : l_kd D i j = 0 ∨ l_kd D i j = 1 ∨ l_kd D i j = 2 := by unfold l_kd; split <;> split <;> omega
  unfold l_kI
  rcases (show κ = 0 ∨ κ = 1 by omega) with rfl | rfl <;> rcases h3 with e | e | e <;> rw [e] <;> decide
def m_Fk (D : Nat) (v : z_Dat) (κ n : Nat) : Prop := ∀ k, k < n → v 230 (12 * κ + k) = nI (t_fi D κ k) ∧ v 231 (12 * κ + k) = nI (t_fj D κ k) ∧ v 232 (12 * κ + k) = nI (t_fb D κ k)
def m_Ck (D : Nat) (v : z_Dat) (κ n : Nat) : Prop := ∀ q, q < n → v 233 (25 * κ + q) = nI (t_co D κ q)
def m_lk (κ : Nat) (v v1 : z_Dat) : Prop := (∀ b, b < 230 ∨ 233 < b → v1 b = v b) ∧ (∀ b p, 230 ≤ b → b ≤ 232 → p < 12 * κ ∨ 12 * κ + 12 ≤ p → v1 b p = v b p) ∧ ∀ p, p < 25 * κ ∨ 25 * κ + 25 ≤ p → v1 233 p = v 233 p
section LY
variable {G : z_G} {d nn : Nat} {S : z_Shp} {v v0 : z_Dat} {Q : Option Value → z_Shp → z_Dat → Prop} {D κ : Nat} {x1 : Int32}
theorem sp_X11_lays_117 (hL : z_Lk nn S) (hn : 261 ≤ nn) (hD : D = 3 ∨ D = 5) (h0 : v 224 0 = nI D) (h14 : v 223 14 = nI (t_K D)) (hκ : κ < 2) (hF : m_Fk D v κ (t_K D))
    (h : ∀ v1, m_Ck D v1 κ (D * D) → (∀ b, b ≠ 233 → v1 b = v b) → (∀ p, p < 25 * κ ∨ 25 * κ + 25 ≤ p → v1 233 p = v 233 p) → z_J G (d + 1) mX11_lays (14, [.ref 223, .int (nI (κ + 1)), .null, .null, .null], [], S, v1) Q) :
    z_J G (d + 1) mX11_lays (117, [.ref 223, .int (nI κ), .int x1, .int (nI 0), .null], [], S, v) Q := by
  have hK := t_Kle hD
  have hd25 : D * D ≤ 25 := by rcases hD with e | e <;> rw [e] <;> decide
  have key : ∀ qq q v1 x1, q + qq = D * D → m_Ck D v1 κ q → (∀ b, b ≠ 233 → v1 b = v b) → (∀ p, p < 25 * κ ∨ 25 * κ + 25 ≤ p → v1 233 p = v 233 p) → z_J G (d + 1) mX11_lays (117, [.ref 223, .int (nI κ), .int x1, .int (nI q), .null], [], S, v1) Q := by
    intro qq
    induction qq with
    | zero =>
      intro q v1 x1 hq k1 k2 k3
      have hq : q = D * D := by omega
      subst hq
      refine ysg_X11_lays_117 hL hn ?_
      rw [k2 224 (by omega), h0, pk_mul, nI_1]
      exact ⟨fun _ => h v1 k1 k2 k3, fun c => absurd (nI_le (Nat.le_refl _) (by omega)) c⟩
    | succ qq ih =>
      intro q v1 x1 hq k1 k2 k3
      refine ysg_X11_lays_117 hL hn ?_
      rw [k2 224 (by omega), h0, pk_mul, show (25 : Int32) = nI 25 from rfl, pk_mul, nI_add, nI_clamp (by omega)]
      refine ⟨fun c => absurd c (nI_ge (by omega) (by omega)), fun _ => ⟨vp_in_nI (by omega) (by omega), fun v2 e2 => ?_⟩⟩
      have inner : ∀ kk k v3, k + kk = t_K D → v3 233 (25 * κ + q) = nI (l_o D κ q k) → (∀ b, b ≠ 233 → v3 b = v1 b) → (∀ p, p ≠ 25 * κ + q → v3 233 p = v1 233 p) → z_J G (d + 1) mX11_lays (139, [.ref 223, .int (nI κ), .int (nI k), .int (nI q), .null], [], S, v3) Q := by
        intro kk
        induction kk with
        | zero =>
          intro k v3 hk a1 a2 a3
          have hk : k = t_K D := by omega
          subst hk
          refine ysg_X11_lays_139 hL hn ?_
          rw [a2 223 (by omega), k2 223 (by omega), h14, nI_1]
          refine ⟨fun _ => ?_, fun c => absurd (nI_le (Nat.le_refl _) (by omega)) c⟩
          refine ih (q + 1) v3 _ (by omega) (fun q' hq' => ?_) (fun b hb => (a2 b hb).trans (k2 b hb)) (fun p hp => (a3 p (by omega)).trans (k3 p hp))
          by_cases z : q' = q
          · rw [z, a1, l_o_co hD hκ (by omega)]
          · rw [a3 _ (by omega)]; exact k1 q' (by omega)
        | succ kk ih2 =>
          intro k v3 hk a1 a2 a3
          have e232 : v3 232 (12 * κ + k) = nI (t_fb D κ k) := by rw [a2 232 (by omega), k2 232 (by omega)]; exact (hF k (by omega)).2.2
          have hb := t_fb_lt D κ k
          have ho := l_o_lt (D := D) (κ := κ) (q := q) k
          have hin : vp_in (nI (25 * κ + q)) 50 := vp_in_nI (by omega) (by omega)
          have nx := ih2 (k + 1)
          rw [l_o] at nx
          refine ysg_X11_lays_139 hL hn ?_
          rw [a2 223 (by omega), k2 223 (by omega), h14, show (12 : Int32) = nI 12 from rfl, show (25 : Int32) = nI 25 from rfl, pk_mul, pk_mul, nI_add, nI_add, nI_clamp (by omega), nI_clamp (by omega), e232, zb_bit (by omega) (by omega), a1, nI_1 k]
          refine ⟨fun c => absurd c (nI_ge (by omega) (by omega)), fun _ => ⟨vp_in_nI (by omega) (by omega), fun c => ⟨hin, hin, fun v4 e4 => ?_⟩, fun c => ?_⟩⟩
          · have c := (nI_eq (b := 1) (by omega) (by omega)).mp c
            refine nx v4 (by omega) ?_ (fun b hb => by rw [e4, z_u_ne hb]; exact a2 b hb) (fun p hp => by rw [e4, z_un (Or.inr hp)]; exact a3 p hp)
            rw [e4, z_ue rfl rfl, c]
            exact zb_put (b := 1) ho (by omega) (by omega)
          · have c : t_fb D κ k / 2 ^ q % 2 = 0 := by
              rcases (show t_fb D κ k / 2 ^ q % 2 = 0 ∨ t_fb D κ k / 2 ^ q % 2 = 1 by omega) with e | e
              · exact e
              · exact absurd (by rw [e]; rfl) c
            rw [c, Nat.zero_mul, Nat.add_zero] at nx
            exact nx v3 (by omega) a1 a2 a3
      exact inner _ 0 v2 (Nat.zero_add _) (by rw [e2, z_ue rfl rfl]; rfl) (fun b hb => by rw [e2, z_u_ne hb]) (fun p hp => by rw [e2, z_un (Or.inr hp)])
  exact key _ 0 v x1 (Nat.zero_add _) (fun q hq => absurd hq (Nat.not_lt_zero q)) (fun _ _ => rfl) (fun _ _ => rfl)
theorem sp_X11_lays_23 (hd : 1 ≤ d) (hL : z_Lk nn S) (hn : 261 ≤ nn) (hD : D = 3 ∨ D = 5) (h0 : v 224 0 = nI D) (h14 : v 223 14 = nI (t_K D)) (hκ : κ < 2)
    (h : ∀ v1, m_Fk D v1 κ (t_K D) → m_Ck D v1 κ (D * D) → m_lk κ v v1 → z_J G (d + 1) mX11_lays (14, [.ref 223, .int (nI (κ + 1)), .null, .null, .null], [], S, v1) Q) :
    z_J G (d + 1) mX11_lays (23, [.ref 223, .int (nI κ), .int 0, .int 0, .null], [], S, v) Q := by
  have hK := t_Kle hD
  have h5 := l_35 hD
  have key : ∀ ii i v1, i + ii = D + 1 → m_Fk D v1 κ (l_n D κ i 0) → (∀ b, b < 230 ∨ 232 < b → v1 b = v b) → (∀ b p, 230 ≤ b → b ≤ 232 → p < 12 * κ ∨ 12 * κ + 12 ≤ p → v1 b p = v b p) → z_J G (d + 1) mX11_lays (23, [.ref 223, .int (nI κ), .int (nI (l_n D κ i 0)), .int (nI i), .null], [], S, v1) Q := by
    intro ii
    induction ii with
    | zero =>
      intro i v1 hi k1 k2 k3
      have hi : i = D + 1 := by omega
      subst hi
      rw [l_all hD hκ] at k1
      refine ysg_X11_lays_23 hL hn ?_
      rw [k2 224 (by omega), h0]
      refine ⟨fun _ => ?_, fun c => absurd (nI_lt (by omega) (by omega)) c⟩
      refine sp_X11_lays_117 hL hn hD (by rw [k2 224 (by omega)]; exact h0) (by rw [k2 223 (by omega)]; exact h14) hκ k1 (fun v2 c2 f2 g2 => ?_)
      refine h v2 (fun k hk => by rw [f2 230 (by omega), f2 231 (by omega), f2 232 (by omega)]; exact k1 k hk) c2 ⟨fun b hb => by rw [f2 b (by omega)]; exact k2 b (by omega), fun b p b1 b2 hp => by rw [f2 b (by omega)]; exact k3 b p b1 b2 hp, fun p hp => by rw [g2 p hp, k2 233 (by omega)]⟩
    | succ ii ih =>
      intro i v1 hi k1 k2 k3
      refine ysg_X11_lays_23 hL hn ?_
      rw [k2 224 (by omega), h0]
      refine ⟨fun c => absurd c (nI_nlt (by omega) (by omega)), fun _ => ?_⟩
      have inner : ∀ jj j v2, j + jj = D + 1 → m_Fk D v2 κ (l_n D κ i j) → (∀ b, b < 230 ∨ 232 < b → v2 b = v b) → (∀ b p, 230 ≤ b → b ≤ 232 → p < 12 * κ ∨ 12 * κ + 12 ≤ p → v2 b p = v b p) → z_J G (d + 1) mX11_lays (34, [.ref 223, .int (nI κ), .int (nI (l_n D κ i j)), .int (nI i), .int (nI j)], [], S, v2) Q := by
        intro jj
        induction jj with
        | zero =>
          intro j v2 hj a1 a2 a3
          have hj : j = D + 1 := by omega
          subst hj
          rw [l_nx] at a1 ⊢
          refine ysg_X11_lays_34 hL hn ?_
          rw [a2 224 (by omega), h0, nI_1]
          exact ⟨fun _ => ih (i + 1) v2 (by omega) a1 a2 a3, fun c => absurd (nI_lt (by omega) (by omega)) c⟩
        | succ jj ih2 =>
          intro j v2 hj a1 a2 a3
          have e0 : v2 224 0 = nI D := by rw [a2 224 (by omega)]; exact h0
          have nx := ih2 (j + 1)
          have en : l_n D κ i (j + 1) = l_n D κ i j + (if l_kd D i j = κ then 1 else 0) := by unfold l_n; rw [l_cj, Nat.add_assoc]
          rw [en] at nx
          refine ysg_X11_lays_34 hL hn ?_
          rw [e0]
          refine ⟨fun c => absurd c (nI_nlt (by omega) (by omega)), fun _ => ?_⟩
          refine sp_X11_kindOn (by omega) hL hn e0 hD (by omega) (by omega) ⟨_, rfl, rfl, ?_⟩
          rw [l_kI_eq hκ, nI_1, nI_1]
          refine ⟨fun c => ?_, fun c => ?_⟩
          · obtain ⟨o1, o2, o3, o4⟩ := l_ok hD (by omega) (by omega) hκ c
            rw [if_pos c] at nx
            generalize l_n D κ i j = k at *
            have hin : vp_in (nI (12 * κ + k)) 24 := vp_in_nI (by omega) (by omega)
            rw [show (12 : Int32) = nI 12 from rfl, pk_mul, nI_add, nI_clamp (by omega)]
            refine ⟨hin, fun v3 e3 => ⟨hin, fun v4 e4 => ?_⟩⟩
            refine sp_X11_bitsOn (by omega) hL hn (by rw [e4, z_u_ne (by omega), e3, z_u_ne (by omega)]; exact e0) hD (by omega) (by omega) ⟨_, rfl, rfl, hin, fun v5 e5 => ?_⟩
            refine nx v5 (by omega) (fun k' hk' => ?_) (fun b hb => by rw [e5, z_u_ne (by omega), e4, z_u_ne (by omega), e3, z_u_ne (by omega)]; exact a2 b hb) (fun b p b1 b2 hp => by rw [e5, z_un (by omega), e4, z_un (by omega), e3, z_un (by omega)]; exact a3 b p b1 b2 hp)
            by_cases z : k' = k
            · subst z
              refine ⟨?_, ?_, ?_⟩
              · rw [e5, z_un (by omega), e4, z_un (by omega), e3, z_ue rfl rfl, o2]
              · rw [e5, z_un (by omega), e4, z_ue rfl rfl, o3]
              · rw [e5, z_ue rfl rfl, o4]
            · obtain ⟨q1, q2, q3⟩ := a1 k' (by omega)
              refine ⟨?_, ?_, ?_⟩
              · rw [e5, z_un (by omega), e4, z_un (by omega), e3, z_un (by omega)]; exact q1
              · rw [e5, z_un (by omega), e4, z_un (by omega), e3, z_un (by omega)]; exact q2
              · rw [e5, z_un (by omega), e4, z_un (by omega), e3, z_un (by omega)]; exact q3
          · rw [if_neg c, Nat.add_zero] at nx
            exact nx v2 (by omega) a1 a2 a3
      exact inner _ 0 v1 (Nat.zero_add _) k1 k2 k3
  exact key _ 0 v (Nat.zero_add _) (fun k hk => absurd hk (Nat.not_lt_zero k)) (fun _ _ => rfl) (fun _ _ _ _ _ => rfl)
theorem sp_X11_lays (hd : 2 ≤ d) (hL : z_Lk nn S) (hn : 261 ≤ nn) (hD : D = 3 ∨ D = 5) (h0 : v 224 0 = nI D)
    (h : ∀ v1, p_MT v1 D → (∀ b, b ≠ 223 → (b < 230 ∨ 233 < b) → v1 b = v b) → (∀ j, j ≠ 14 → v1 223 j = v 223 j) → Q none S v1) : z_J G d mX11_lays (0, [.ref 223, .null, .null, .null, .null], [], S, v) Q := by
  obtain ⟨d, rfl⟩ : ∃ e, d = e + 1 := ⟨d - 1, by omega⟩
  have hK := t_Kle hD
  have hd25 : D * D ≤ 25 := by rcases hD with e | e <;> rw [e] <;> decide
  refine ysg_X11_lays_0 hL hn (fun v1 e1 => ?_)
  have e14 : v1 223 14 = nI (t_K D) := by
    rw [e1, z_ue rfl rfl, h0]
    rcases hD with rfl | rfl <;> rfl
  have e0 : v1 224 0 = nI D := by rw [e1, z_u_ne (by omega)]; exact h0
  refine sg_X11_lays_14 ⟨fun c => absurd c (by decide), fun _ => ?_⟩
  refine sp_X11_lays_23 (κ := 0) (by omega) hL hn hD e0 e14 (by omega) (fun v2 F2 C2 l2 => ?_)
  refine sg_X11_lays_14 ⟨fun c => absurd c (by decide), fun _ => ?_⟩
  refine sp_X11_lays_23 (κ := 1) (by omega) hL hn hD (by rw [l2.1 224 (by omega)]; exact e0) (by rw [l2.1 223 (by omega)]; exact e14) (by omega) (fun v3 F3 C3 l3 => ?_)
  refine sg_X11_lays_14 ⟨fun _ => ?_, fun c => absurd (by decide) c⟩
  refine h v3 ⟨by rw [l3.1 223 (by omega), l2.1 223 (by omega)]; exact e14, fun κ hκ => ?_⟩ (fun b b1 b2 => by rw [l3.1 b (by omega), l2.1 b (by omega), e1, z_u_ne b1]) (fun j hj => by rw [l3.1 223 (by omega), l2.1 223 (by omega), e1, z_un (Or.inr hj)])
  rcases (show κ = 0 ∨ κ = 1 by omega) with rfl | rfl
  · refine ⟨fun k hk => ?_, fun q hq => ?_⟩
    · rw [l3.2.1 230 _ (by omega) (by omega) (by omega), l3.2.1 231 _ (by omega) (by omega) (by omega), l3.2.1 232 _ (by omega) (by omega) (by omega)]
      exact F2 k hk
    · rw [l3.2.2 _ (by omega)]; exact C2 q hq
  · exact ⟨F3, C3⟩
end LY
