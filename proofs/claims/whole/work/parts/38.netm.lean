/-! THE REFERENCE'S NET: laysNet -/
/-- the two checks of a row of bits, found from the highest down, i of K looked at -/
def n_h (co K : Nat) : Nat → Option Nat × Option Nat
  | 0 => (none, none)
  | i + 1 => if co / 2 ^ (K - (i + 1)) % 2 = 1 then (some (K - (i + 1)), (n_h co K i).1) else n_h co K i
def n_m (t K B : Nat) : Option Nat → Nat
  | none => B
  | some k => t * K + k
theorem n_h_ok {d κ q : Nat} (h35 : d = 3 ∨ d = 5) (hκ : κ < 2) (hq : q < d * d) : n_h (t_co d κ q) (t_K d) (t_K d) = (some (t_c1 d κ q), if t_c2 d κ q = 99 then none else some (t_c2 d κ q)) := by
  rcases h35 with rfl | rfl <;> rcases (show κ = 0 ∨ κ = 1 by omega) with rfl | rfl
  · exact (by decide +kernel : ∀ q, q < 9 → n_h (t_co 3 0 q) (t_K 3) (t_K 3) = (some (t_c1 3 0 q), if t_c2 3 0 q = 99 then none else some (t_c2 3 0 q))) q hq
  · exact (by decide +kernel : ∀ q, q < 9 → n_h (t_co 3 1 q) (t_K 3) (t_K 3) = (some (t_c1 3 1 q), if t_c2 3 1 q = 99 then none else some (t_c2 3 1 q))) q hq
  · exact (by decide +kernel : ∀ q, q < 25 → n_h (t_co 5 0 q) (t_K 5) (t_K 5) = (some (t_c1 5 0 q), if t_c2 5 0 q = 99 then none else some (t_c2 5 0 q))) q hq
  · exact (by decide +kernel : ∀ q, q < 25 → n_h (t_co 5 1 q) (t_K 5) (t_K 5) = (some (t_c1 5 1 q), if t_c2 5 1 q = 99 then none else some (t_c2 5 1 q))) q hq
theorem t_co_lt {d κ q : Nat} : t_co d κ q < 2 ^ 12 := by
  have key : ∀ (L : List Nat), (∀ x ∈ L, x < 2 ^ 12) → ∀ i, L.getD i 0 < 2 ^ 12 := by
    intro L hL i
    rw [List.getD_eq_getElem?_getD]
    cases h : L[i]? with
    | none => simp
    | some x => exact hL x (List.mem_of_getElem? h)
  unfold t_co
  split
  · exact key _ (by decide) _
  · exact key _ (by decide) _
/-- only the net's cells of the reference have changed -/
def m_fr (v v1 : z_Dat) : Prop := (∀ a, a ≠ 223 → a ≠ 238 → a ≠ 239 → a ≠ 240 → a ≠ 242 → v1 a = v a) ∧ ∀ j, j < 31 ∨ 34 < j → v1 223 j = v 223 j
theorem m_fr.rf {v : z_Dat} : m_fr v v := ⟨fun _ _ _ _ _ _ => rfl, fun _ _ => rfl⟩
theorem m_fr.u {v v1 : z_Dat} {a i : Nat} {x : Int32} (h : m_fr v v1) (ha : a = 238 ∨ a = 239 ∨ a = 240 ∨ a = 242) : m_fr v (z_u v1 a i x) := ⟨fun b h1 h2 h3 h4 h5 => by rw [z_u_ne (by omega)]; exact h.1 b h1 h2 h3 h4 h5, fun j hj => by rw [z_un (by omega)]; exact h.2 j hj⟩
theorem m_fr.u3 {v v1 : z_Dat} {i : Nat} {x : Int32} (h : m_fr v v1) (hi : 31 ≤ i ∧ i ≤ 34) : m_fr v (z_u v1 223 i x) := ⟨fun b h1 h2 h3 h4 h5 => by rw [z_u_ne (by omega)]; exact h.1 b h1 h2 h3 h4 h5, fun j hj => by rw [z_un (by omega)]; exact h.2 j hj⟩
/-- the reference's net for the first c edges -/
def m_N (ρ : Nat → Nat) (κ : Nat) (v0 v : z_Dat) (c : Nat) : Prop := (v 223 31 = nI (n_E ρ) ∧ v 223 32 = nI (n_B ρ)) ∧ (∀ e, e < c → (v 238 e = nI (n_lo ρ κ e) ∧ v 239 e = nI (n_hi ρ κ e) ∧ v 240 e = nI (n_w ρ κ e))) ∧ m_fr v0 v
def m_Ev (ρ : Nat → Nat) (κ : Nat) (v : z_Dat) (n : Nat) : Prop := v 223 33 = nI (n_ev ρ κ n).length ∧ ∀ i, i < (n_ev ρ κ n).length → v 242 i = nI ((n_ev ρ κ n).getD i 0)
section NM
variable {G : z_G} {d : Nat} {S : z_Shp} {v v0 : z_Dat} {Q : Option Value → z_Shp → z_Dat → Prop} {κ : Nat} {ρ : Nat → Nat}
theorem m_fr.T {D : Nat} (h : m_fr v0 v) (hT : p_MT v0 D) : p_MT v D := hT.fr (h.2 14 (by omega)) (fun a _ _ => h.1 a (by omega) (by omega) (by omega) (by omega) (by omega))
theorem m_fr.M (h : m_fr v0 v) (hM : p_M v0 ρ) : p_M v ρ := hM.fr (h.1 224 (by omega) (by omega) (by omega) (by omega) (by omega))
theorem nI_25 (κ q : Nat) : (25 : Int32) * nI κ + nI q = nI (25 * κ + q) := by rw [show (25 : Int32) = nI 25 from rfl, pk_mul, nI_add]
theorem sp_X11_laysNet (hd : 4 ≤ d) (hL : z_L S) (hV : p_V ρ) (hM : p_M v ρ) (hT : p_MT v (ρ 0)) (hκ : κ < 2) (h : ∀ v1, m_N ρ κ v v1 (n_E ρ) → m_Ev ρ κ v1 (n_B ρ) → Q none S v1) :
    z_J G d mX11_laysNet (0, [.ref 223, .int (nI κ), .null, .null, .null, .null, .null, .null], [], S, v) Q := by
  obtain ⟨d, rfl⟩ : ∃ e, d = e + 1 := ⟨d - 1, by omega⟩
  have h8 := hV.2.1
  have hB := n_B_le hV.1 h8
  have hE := n_E_le hV.1 h8
  have hK := t_Kle hV.1
  have hK0 : 0 < t_K (ρ 0) := by rcases hV.1 with e | e <;> rw [e] <;> decide
  have hD25 : ρ 0 * ρ 0 ≤ 25 := by rcases hV.1 with e | e <;> rw [e] <;> omega
  have hWd : n_W (ρ 0) = ρ 0 * ρ 0 + t_K (ρ 0) := rfl
  have hBt : ∀ t, t ≤ ρ 1 → t * t_K (ρ 0) + t_K (ρ 0) ≤ n_B ρ := fun t ht => by
    unfold n_B
    rw [← Nat.succ_mul]
    exact Nat.mul_le_mul_right _ (by omega)
  -- events of one layer
  have inner : ∀ t, t ≤ ρ 1 → (∀ v1, m_N ρ κ v v1 (n_E ρ) → m_Ev ρ κ v1 ((t + 1) * t_K (ρ 0)) → z_J G (d + 1) mX11_laysNet (271, [.ref 223, .int (nI κ), .int (nI (n_W (ρ 0))), .int (nI (p_la ρ κ t)), .int (nI (t + 1)), .null, .null, .null], [], S, v1) Q) →
      ∀ j k v1, k + j = t_K (ρ 0) → m_N ρ κ v v1 (n_E ρ) → m_Ev ρ κ v1 (t * t_K (ρ 0) + k) → z_J G (d + 1) mX11_laysNet (294, [.ref 223, .int (nI κ), .int (nI (n_W (ρ 0))), .int (nI (n_pr ρ κ t)), .int (nI t), .int (nI (p_la ρ κ t)), .int (nI k), .null], [], S, v1) Q := by
    intro t ht K j
    induction j with
    | zero =>
      intro k v1 hk hN hEv
      have hk : k = t_K (ρ 0) := by omega
      subst hk
      refine sg_X11_laysNet_294 hL ⟨fun _ => ?_, fun c => absurd ?_ c⟩
      · rw [nI_1]; exact K v1 hN (by rw [Nat.succ_mul]; exact hEv)
      · rw [(hN.2.2.T hT).1]; exact nI_le (Nat.le_refl _) (by omega)
    | succ j ih =>
      intro k v1 hk hN hEv
      have hkK : k < t_K (ρ 0) := by omega
      have hbt := hBt t ht
      have bi := n_bitI hV hκ (t := t) hkK
      have es := n_ev_s (ρ := ρ) (κ := κ) t k
      have hck := (hN.2.2.T hT).1
      refine sg_X11_laysNet_294 hL ⟨fun c => ?_, fun _ => ⟨fun c => ?_, fun c => ?_⟩⟩
      · rw [hck] at c; exact absurd c (nI_ge (by omega) (by omega))
      · rw [bi] at c
        have c : n_is ρ κ (t * t_K (ρ 0) + k) = 1 := (nI_eq (a := n_is ρ κ (t * t_K (ρ 0) + k)) (b := 1) (by have := n_is_lt (ρ := ρ) (κ := κ) (t * t_K (ρ 0) + k); omega) (by omega)).mp c
        rw [if_pos c] at es
        obtain ⟨E1, E2⟩ := hEv
        have hlen := (n_ev_lt (ρ := ρ) (κ := κ) (t * t_K (ρ 0) + k)).1
        generalize hl : n_ev ρ κ (t * t_K (ρ 0) + k) = l at *
        have cl : (nI l.length).toNatClampNeg = l.length := nI_clamp (by omega)
        refine ⟨by rw [E1]; exact vp_in_nI (by omega) (by omega), fun v2 e2 v3 e3 => ?_⟩
        rw [E1, cl, hck, pk_mul, nI_add] at e2
        have r2 : v2 223 33 = nI l.length := by rw [e2, z_un (by omega)]; exact E1
        rw [r2, nI_1, e2] at e3
        rw [nI_1]
        refine ih (k + 1) v3 (by omega) ?_ ?_
        · obtain ⟨⟨a0, a1⟩, b, fr⟩ := hN
          refine ⟨⟨?_, ?_⟩, fun e he => ?_, ?_⟩
          · rw [e3]; simp (disch := omega) only [z_ue, z_un]; exact a0
          · rw [e3]; simp (disch := omega) only [z_ue, z_un]; exact a1
          · rw [e3]; simp (disch := omega) only [z_ue, z_un]; exact b e he
          · rw [e3]; exact (fr.u (by omega)).u3 (by omega)
        · unfold m_Ev
          rw [show t * t_K (ρ 0) + (k + 1) = t * t_K (ρ 0) + k + 1 from rfl, es, List.length_append, List.length_singleton]
          refine ⟨by rw [e3]; simp (disch := omega) only [z_ue, z_un], fun i hi => ?_⟩
          by_cases hi2 : i = l.length
          · subst hi2
            rw [l_ge, e3]
            simp (disch := omega) only [z_ue, z_un]
          · rw [l_gl (by omega), e3]
            simp (disch := omega) only [z_ue, z_un]
            exact E2 i (by omega)
      · rw [bi] at c
        have c : ¬ n_is ρ κ (t * t_K (ρ 0) + k) = 1 := fun q => c (by rw [q]; rfl)
        rw [if_neg c, List.append_nil] at es
        rw [nI_1]
        refine ih (k + 1) v1 (by omega) hN ?_
        unfold m_Ev at hEv ⊢
        rw [show t * t_K (ρ 0) + (k + 1) = t * t_K (ρ 0) + k + 1 from rfl, es]
        exact hEv
  -- events of all layers
  have outer : ∀ j t v1, t + j = ρ 1 + 1 → m_N ρ κ v v1 (n_E ρ) → m_Ev ρ κ v1 (t * t_K (ρ 0)) → z_J G (d + 1) mX11_laysNet (271, [.ref 223, .int (nI κ), .int (nI (n_W (ρ 0))), .int (nI (n_pr ρ κ t)), .int (nI t), .null, .null, .null], [], S, v1) Q := by
    intro j
    induction j with
    | zero =>
      intro t v1 ht hN hEv
      have ht : t = ρ 1 + 1 := by omega
      subst ht
      refine sg_X11_laysNet_271 hL ⟨fun _ => h v1 hN hEv, fun c => absurd ?_ c⟩
      rw [(hN.2.2.M hM) 1 (by omega)]; exact nI_lt (by omega) (by omega)
    | succ j ih =>
      intro t v1 ht hN hEv
      have K : ∀ v1, m_N ρ κ v v1 (n_E ρ) → m_Ev ρ κ v1 ((t + 1) * t_K (ρ 0)) → z_J G (d + 1) mX11_laysNet (271, [.ref 223, .int (nI κ), .int (nI (n_W (ρ 0))), .int (nI (p_la ρ κ t)), .int (nI (t + 1)), .null, .null, .null], [], S, v1) Q := fun v1 hN hEv => by
        have := ih (t + 1) v1 (by omega) hN hEv
        have e : n_pr ρ κ (t + 1) = p_la ρ κ t := by unfold n_pr; rw [if_neg (by omega)]; rfl
        rw [e] at this
        exact this
      refine sg_X11_laysNet_271 hL ⟨fun c => ?_, fun _ => ?_⟩
      · rw [(hN.2.2.M hM) 1 (by omega)] at c; exact absurd c (nI_nlt (by omega) (by omega))
      · exact sp_X11_layer (by omega) hL (hN.2.2.M hM) (hN.2.2.T hT) hV.1 h8 hκ (by omega) ⟨_, rfl, rfl, inner t (by omega) K (t_K (ρ 0)) 0 v1 (by omega) hN hEv⟩
  -- the two ends of an edge of a qubit
  have ends : ∀ c, c < n_E ρ → c % n_W (ρ 0) < ρ 0 * ρ 0 → (∀ v1, m_N ρ κ v v1 (c + 1) → z_J G (d + 1) mX11_laysNet (51, [.ref 223, .int (nI κ), .int (nI (n_W (ρ 0))), .int (nI (c + 1)), .null, .null, .null, .null], [], S, v1) Q) →
      ∀ j i v1, i + j = t_K (ρ 0) → m_N ρ κ v v1 c → v1 238 c = nI (n_m (c / n_W (ρ 0)) (t_K (ρ 0)) (n_B ρ) (n_h (t_co (ρ 0) κ (c % n_W (ρ 0))) (t_K (ρ 0)) i).1) → v1 239 c = nI (n_m (c / n_W (ρ 0)) (t_K (ρ 0)) (n_B ρ) (n_h (t_co (ρ 0) κ (c % n_W (ρ 0))) (t_K (ρ 0)) i).2) →
        z_J G (d + 1) mX11_laysNet (187, [.ref 223, .int (nI κ), .int (nI (n_W (ρ 0))), .int (nI c), .int (nI (c / n_W (ρ 0))), .int (nI (c % n_W (ρ 0))), .int (nI (t_co (ρ 0) κ (c % n_W (ρ 0)))), .int (nI j - 1)], [], S, v1) Q := by
    intro c hc hx K j
    have ct : c / n_W (ρ 0) ≤ ρ 1 := by
      unfold n_E at hc
      rw [hWd] at hc ⊢
      rcases hV.1 with e | e <;> rw [e] at hc ⊢ <;> simp only [show t_K 3 = 4 from rfl, show t_K 5 = 12 from rfl] at hc ⊢ <;> omega
    have cc : (nI c).toNatClampNeg = c := nI_clamp (by omega)
    induction j with
    | zero =>
      intro i v1 hi hN h1 h2
      have hi : i = t_K (ρ 0) := by omega
      subst hi
      rw [n_h_ok hV.1 hκ hx] at h1 h2
      refine sg_X11_laysNet_187 hL ⟨fun _ => ⟨?_, vp_in_nI (by omega) (by omega), fun v2 e2 => ?_⟩, fun q => absurd (by decide) q⟩
      · rw [show (22 : Int32) = nI 22 from rfl, nI_add]; exact vp_in_nI (by omega) (by omega)
      · rw [cc, show (22 : Int32) = nI 22 from rfl, nI_add, nI_clamp (by omega), (hN.2.2.M hM) _ (by omega)] at e2
        rw [nI_1]
        obtain ⟨⟨a0, a1⟩, b, fr⟩ := hN
        refine K v2 ⟨⟨?_, ?_⟩, fun e he => ?_, ?_⟩
        · rw [e2, z_un (by omega)]; exact a0
        · rw [e2, z_un (by omega)]; exact a1
        · by_cases h3 : e = c
          · subst h3
            rw [e2]
            simp (disch := omega) only [z_ue, z_un]
            refine ⟨?_, ?_, ?_⟩
            · rw [h1]; unfold n_lo; rw [if_pos hx]; rfl
            · rw [h2]; unfold n_hi; rw [if_pos hx]
              by_cases h9 : t_c2 (ρ 0) κ (e % n_W (ρ 0)) = 99
              · rw [if_pos h9]; simp only [if_pos h9]; rfl
              · rw [if_neg h9]; simp only [if_neg h9]; rfl
            · unfold n_w; rw [if_pos hx]
          · rw [e2]
            simp (disch := omega) only [z_ue, z_un]
            exact b e (by omega)
        · rw [e2]; exact fr.u (by omega)
    | succ j ih =>
      intro i v1 hi hN h1 h2
      have hb : (nI (t_co (ρ 0) κ (c % n_W (ρ 0))) >>> (nI j &&& 31)) &&& 1 = nI (t_co (ρ 0) κ (c % n_W (ρ 0)) / 2 ^ j % 2) := zb_bit (by have := t_co_lt (d := ρ 0) (κ := κ) (q := c % n_W (ρ 0)); omega) (by omega)
      have hj : t_K (ρ 0) - (i + 1) = j := by omega
      have sub1 : nI j + (-1) = nI j - 1 := by rw [Int32.sub_eq_add_neg]
      rw [nI_pred]
      refine sg_X11_laysNet_187 hL ⟨fun q => absurd q (nI_pos (by omega)), fun _ => ⟨fun q => ?_, fun q => ?_⟩⟩
      · rw [hb] at q
        have q : t_co (ρ 0) κ (c % n_W (ρ 0)) / 2 ^ j % 2 = 1 := (nI_eq (b := 1) (by omega) (by omega)).mp q
        have eh : n_h (t_co (ρ 0) κ (c % n_W (ρ 0))) (t_K (ρ 0)) (i + 1) = (some j, (n_h (t_co (ρ 0) κ (c % n_W (ρ 0))) (t_K (ρ 0)) i).1) := by rw [n_h, hj, if_pos q]
        refine ⟨vp_in_nI (by omega) (by omega), vp_in_nI (by omega) (by omega), fun v2 e2 => ⟨vp_in_nI (by omega) (by omega), fun v3 e3 => ?_⟩⟩
        rw [cc, h1] at e2
        have r2 : v2 223 14 = nI (t_K (ρ 0)) := by rw [e2, z_un (by omega)]; exact (hN.2.2.T hT).1
        rw [cc, r2, pk_mul, nI_add, e2] at e3
        rw [sub1]
        refine ih (i + 1) v3 (by omega) ?_ ?_ ?_
        · obtain ⟨⟨a0, a1⟩, b, fr⟩ := hN
          refine ⟨⟨?_, ?_⟩, fun e he => ?_, ?_⟩
          · rw [e3]; simp (disch := omega) only [z_ue, z_un]; exact a0
          · rw [e3]; simp (disch := omega) only [z_ue, z_un]; exact a1
          · rw [e3]; simp (disch := omega) only [z_ue, z_un]; exact b e he
          · rw [e3]; exact (fr.u (by omega)).u (by omega)
        · rw [eh, e3]; simp (disch := omega) only [z_ue, z_un]; rfl
        · rw [eh, e3]; simp (disch := omega) only [z_ue, z_un]
      · rw [hb] at q
        have q : ¬ t_co (ρ 0) κ (c % n_W (ρ 0)) / 2 ^ j % 2 = 1 := fun z => q (by rw [z]; rfl)
        have eh : n_h (t_co (ρ 0) κ (c % n_W (ρ 0))) (t_K (ρ 0)) (i + 1) = n_h (t_co (ρ 0) κ (c % n_W (ρ 0))) (t_K (ρ 0)) i := by rw [n_h, hj, if_neg q]
        rw [sub1]
        exact ih (i + 1) v1 (by omega) hN (by rw [eh]; exact h1) (by rw [eh]; exact h2)
  -- all edges
  have edges : ∀ j c v1, c + j = n_E ρ → m_N ρ κ v v1 c → z_J G (d + 1) mX11_laysNet (51, [.ref 223, .int (nI κ), .int (nI (n_W (ρ 0))), .int (nI c), .null, .null, .null, .null], [], S, v1) Q := by
    intro j
    induction j with
    | zero =>
      intro c v1 hc hN
      have hc : c = n_E ρ := by omega
      subst hc
      refine sg_X11_laysNet_51 hL ⟨fun _ v2 e2 => ?_, fun q => absurd ?_ q⟩
      · have hN2 : m_N ρ κ v v2 (n_E ρ) := by
          obtain ⟨⟨a0, a1⟩, b, fr⟩ := hN
          refine ⟨⟨?_, ?_⟩, fun e he => ?_, ?_⟩
          · rw [e2, z_un (by omega)]; exact a0
          · rw [e2, z_un (by omega)]; exact a1
          · rw [e2, z_un (by omega), z_un (by omega), z_un (by omega)]; exact b e he
          · rw [e2]; exact fr.u3 (by omega)
        exact outer (ρ 1 + 1) 0 v2 (by omega) hN2 ⟨by rw [e2, z_ue rfl rfl, Nat.zero_mul]; rfl, fun i hi => by rw [Nat.zero_mul] at hi; cases hi⟩
      · rw [hN.1.1]; exact nI_le (Nat.le_refl _) (by omega)
    | succ j ih =>
      intro c v1 hc hN
      have hcE : c < n_E ρ := by omega
      have cc : (nI c).toNatClampNeg = c := nI_clamp (by omega)
      have hW0 : 0 < n_W (ρ 0) := by omega
      have hWne : ¬ nI (n_W (ρ 0)) = 0 := nI_ne0 hW0 (by omega)
      have hm : c % n_W (ρ 0) < n_W (ρ 0) := Nat.mod_lt _ hW0
      have e0 : v1 224 0 = nI (ρ 0) := (hN.2.2.M hM) 0 (by omega)
      have ct : c / n_W (ρ 0) ≤ ρ 1 := by
        unfold n_E at hcE
        rw [hWd] at hcE ⊢
        rcases hV.1 with e | e <;> rw [e] at hcE ⊢ <;> simp only [show t_K 3 = 4 from rfl, show t_K 5 = 12 from rfl] at hcE ⊢ <;> omega
      refine sg_X11_laysNet_51 hL ⟨fun q => ?_, fun _ => ⟨hWne, hWne, ?_⟩⟩
      · rw [hN.1.1] at q; exact absurd q (nI_ge (by omega) (by omega))
      · rw [pk_rem (by omega) hW0 (by omega), pk_div (by omega) hW0 (by omega), e0, pk_mul, cc]
        refine ⟨fun q => ?_, fun q => ?_⟩
        · have q := (nI_ltI (by omega) (by omega)).mp q
          refine ⟨by rw [nI_25]; exact vp_in_nI (by omega) (by omega), vp_in_nI (by omega) (by omega), fun v2 e2 => ⟨vp_in_nI (by omega) (by omega), fun v3 e3 => ?_⟩⟩
          rw [hN.1.2] at e2
          have r2 : v2 223 32 = nI (n_B ρ) := by rw [e2, z_un (by omega)]; exact hN.1.2
          rw [r2, e2] at e3
          have r3 : v3 223 14 = nI (t_K (ρ 0)) := by rw [e3]; simp (disch := omega) only [z_ue, z_un]; exact (hN.2.2.T hT).1
          have r4 : v1 233 (25 * κ + c % n_W (ρ 0)) = nI (t_co (ρ 0) κ (c % n_W (ρ 0))) := ((hN.2.2.T hT).2 κ hκ).2 _ q
          rw [r3, nI_25, nI_clamp (by omega), r4]
          refine ends c hcE q (fun v4 hN4 => ih (c + 1) v4 (by omega) hN4) (t_K (ρ 0)) 0 v3 (by omega) ?_ ?_ ?_
          · obtain ⟨⟨a0, a1⟩, b, fr⟩ := hN
            refine ⟨⟨?_, ?_⟩, fun e he => ?_, ?_⟩
            · rw [e3]; simp (disch := omega) only [z_ue, z_un]; exact a0
            · rw [e3]; simp (disch := omega) only [z_ue, z_un]; exact a1
            · rw [e3]; simp (disch := omega) only [z_ue, z_un]; exact b e he
            · rw [e3]; exact (fr.u (by omega)).u (by omega)
          · rw [e3]; simp (disch := omega) only [z_ue, z_un]; rfl
          · rw [e3]; simp (disch := omega) only [z_ue, z_un]; rfl
        · have q : ¬ c % n_W (ρ 0) < ρ 0 * ρ 0 := fun z => q (nI_lt z (by omega))
          refine ⟨vp_in_nI (by omega) (by omega), fun v2 e2 => ⟨vp_in_nI (by omega) (by omega), vp_in_nI (by omega) (by omega), fun v3 e3 => ?_⟩⟩
          rw [(hN.2.2.T hT).1, pk_mul, nI_add, pk_sub (by omega)] at e2
          have r2 : v2 238 c = nI (c / n_W (ρ 0) * t_K (ρ 0) + c % n_W (ρ 0) - ρ 0 * ρ 0) := by rw [e2, z_ue rfl rfl]
          have r2k : v2 223 14 = nI (t_K (ρ 0)) := by rw [e2, z_un (by omega)]; exact (hN.2.2.T hT).1
          rw [r2, r2k, nI_add, e2] at e3
          have r3 : v3 224 0 = nI (ρ 0) := by rw [e3]; simp (disch := omega) only [z_ue, z_un]; exact e0
          have ix : (47 : Int32) + (12 : Int32) * nI κ + nI (c % n_W (ρ 0)) - nI (ρ 0 * ρ 0) = nI (47 + 12 * κ + (c % n_W (ρ 0) - ρ 0 * ρ 0)) := by
            rw [show (47 : Int32) = nI 47 from rfl, show (12 : Int32) = nI 12 from rfl, pk_mul, nI_add, nI_add, pk_sub (by omega)]
            congr 1; omega
          rw [r3, pk_mul, ix]
          refine ⟨vp_in_nI (by omega) (by omega), vp_in_nI (by omega) (by omega), fun v4 e4 => ?_⟩
          have r5 : v3 224 (47 + 12 * κ + (c % n_W (ρ 0) - ρ 0 * ρ 0)) = nI (ρ (47 + 12 * κ + (c % n_W (ρ 0) - ρ 0 * ρ 0))) := by rw [e3]; simp (disch := omega) only [z_ue, z_un]; exact (hN.2.2.M hM) _ (by omega)
          rw [nI_clamp (by omega), r5, e3] at e4
          rw [nI_1]
          refine ih (c + 1) v4 (by omega) ?_
          obtain ⟨⟨a0, a1⟩, b, fr⟩ := hN
          refine ⟨⟨?_, ?_⟩, fun e he => ?_, ?_⟩
          · rw [e4]; simp (disch := omega) only [z_ue, z_un]; exact a0
          · rw [e4]; simp (disch := omega) only [z_ue, z_un]; exact a1
          · by_cases h3 : e = c
            · subst h3
              rw [e4]
              simp (disch := omega) only [z_ue, z_un]
              unfold n_lo n_hi n_w
              rw [if_neg q, if_neg q, if_neg q, Nat.succ_mul]
              refine ⟨?_, ?_, rfl⟩
              · congr 1; omega
              · congr 1; omega
            · rw [e4]
              simp (disch := omega) only [z_ue, z_un]
              exact b e (by omega)
          · rw [e4]; exact ((fr.u (by omega)).u (by omega)).u (by omega)
  refine sg_X11_laysNet_0 hL (fun v1 e1 v2 e2 v3 e3 => ?_)
  have q0 : v1 224 0 = nI (ρ 0) := by rw [e1, z_un (by omega)]; exact hM 0 (by omega)
  have q1 : v1 224 1 = nI (ρ 1) := by rw [e1, z_un (by omega)]; exact hM 1 (by omega)
  have qk : v1 223 14 = nI (t_K (ρ 0)) := by rw [e1, z_un (by omega)]; exact hT.1
  have eE : nI (ρ 1) * (nI (ρ 0) * nI (ρ 0) + nI (t_K (ρ 0))) + nI (ρ 0) * nI (ρ 0) = nI (n_E ρ) := by rw [pk_mul, nI_add, pk_mul, nI_add]; rfl
  rw [q0, q1, qk, eE] at e2
  have p1 : v2 224 1 = nI (ρ 1) := by rw [e2, z_un (by omega)]; exact q1
  have pk : v2 223 14 = nI (t_K (ρ 0)) := by rw [e2, z_un (by omega)]; exact qk
  rw [p1, pk, nI_1, pk_mul, e2, e1] at e3
  rw [q0, qk, pk_mul, nI_add]
  refine edges (n_E ρ) 0 v3 (by omega) ⟨⟨?_, ?_⟩, fun e he => by omega, ?_⟩
  · rw [e3]; simp (disch := omega) only [z_ue, z_un]
  · rw [e3]; simp (disch := omega) only [z_ue, z_un]; rfl
  · rw [e3]; exact ((m_fr.rf.u3 (by omega)).u3 (by omega)).u3 (by omega)
end NM
