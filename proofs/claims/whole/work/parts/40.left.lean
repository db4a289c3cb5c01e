/-! THE REFERENCE'S DISTANCES: laysLeft -/
def m_sum (r : Nat → Nat) : Nat → Nat
  | 0 => 0
  | n + 1 => m_sum r n + r n
theorem m_sum_up {r : Nat → Nat} {s x : Nat} (hx : x < r s) : ∀ n, m_sum (p_up r s x) n ≤ m_sum r n ∧ (s < n → m_sum (p_up r s x) n < m_sum r n)
  | 0 => ⟨Nat.le_refl _, fun h => by omega⟩
  | n + 1 => by
    have ih := m_sum_up hx n
    have e : m_sum (p_up r s x) (n + 1) = m_sum (p_up r s x) n + p_up r s x n := rfl
    have e2 : m_sum r (n + 1) = m_sum r n + r n := rfl
    by_cases h : n = s
    · rw [e, e2, p_ue h, h]
      rw [h] at ih
      omega
    · rw [e, e2, p_un h]
      refine ⟨by omega, fun q => ?_⟩
      have := ih.2 (by omega)
      omega
theorem n_sup_mono {ρ : Nat → Nat} {κ T : Nat} {r r1 : Nat → Nat} {s : Nat} (h : n_sup ρ κ T r s) (hl : ∀ u, r1 u ≤ r u) (hs : r1 s = r s) : n_sup ρ κ T r1 s := by
  obtain ⟨e, he, hu, h2⟩ := h
  refine ⟨e, he, hu, ?_⟩
  rw [hs]
  have a := hl (n_hi ρ κ e)
  have b := hl (n_lo ρ κ e)
  rcases h2 with ⟨h3, h4⟩ | ⟨h3, h4⟩
  · exact Or.inl ⟨h3, by omega⟩
  · exact Or.inr ⟨h3, by omega⟩
/-- the row 'left' while it is laid -/
def m_L (ρ : Nat → Nat) (κ T : Nat) (v : z_Dat) (r : Nat → Nat) : Prop := (∀ s, s ≤ n_B ρ → v 241 s = nI (r s)) ∧ r T = 0 ∧ (∀ s, r s ≤ 1000000) ∧ (∀ s, s < n_B ρ → s ≠ T → r s < 1000000 → n_sup ρ κ T r s)
def n_d1 (ρ : Nat → Nat) (κ T : Nat) (r : Nat → Nat) (e : Nat) : Prop := n_us ρ κ T e → r (n_lo ρ κ e) ≤ r (n_hi ρ κ e) + n_w ρ κ e ∧ (n_hi ρ κ e ≠ n_B ρ → r (n_hi ρ κ e) ≤ r (n_lo ρ κ e) + n_w ρ κ e)
theorem m_L.up {ρ : Nat → Nat} {κ T : Nat} {v : z_Dat} {r : Nat → Nat} {s x : Nat} (h : m_L ρ κ T v r) (hx : x < r s) (hs : s < n_B ρ → s ≠ T → n_sup ρ κ T (p_up r s x) s) (hT : s < n_B ρ) : m_L ρ κ T (z_u v 241 s (nI x)) (p_up r s x) := by
  obtain ⟨h1, h2, h3, h4⟩ := h
  have hsT : s ≠ T := fun q => by rw [q, h2] at hx; omega
  have hl : ∀ u, p_up r s x u ≤ r u := fun u => by
    by_cases e : u = s
    · rw [p_ue e, e]; omega
    · rw [p_un e]; exact Nat.le_refl _
  refine ⟨fun u hu => ?_, by rw [p_un (fun q => hsT q.symm)]; exact h2, fun u => Nat.le_trans (hl u) (h3 u), fun u hu hn hf => ?_⟩
  · by_cases e : u = s
    · rw [p_ue e, z_ue rfl e]
    · rw [p_un e, z_un (Or.inr e)]; exact h1 u hu
  · by_cases e : u = s
    · subst e; exact hs hu hn
    · rw [p_un e] at hf
      exact n_sup_mono (h4 u hu hn hf) hl (p_un e)
section LF
variable {G : z_G} {d : Nat} {S : z_Shp} {v v0 : z_Dat} {Q : Option Value → z_Shp → z_Dat → Prop} {κ : Nat} {ρ : Nat → Nat}
theorem sp_X11_laysLeft {T : Nat} (hL : z_L S) (hV : p_V ρ) (hκ : κ < 2) (hN : m_N ρ κ v0 v (n_E ρ)) (hT : T ≤ n_B ρ) (h : ∀ v1, (∀ s, s < n_B ρ → v1 241 s = nI (n_ds ρ κ T s)) → (T = n_B ρ → v1 241 (n_B ρ) = 0) → (T ≠ n_B ρ → v1 241 (n_B ρ) = 1000000) → (∀ a, a ≠ 241 → v1 a = v a) → n_isD ρ κ T (n_ds ρ κ T) → Q none S v1) :
    z_J G d mX11_laysLeft (0, [.ref 223, .int (nI T), .null, .null, .null, .null], [], S, v) Q := by
  obtain ⟨⟨a0, a1⟩, hE, -⟩ := hN
  have hB := n_B_le hV.1 hV.2.1
  have hEl := n_E_le hV.1 hV.2.1
  -- one pass and all further ones, by the sum of the row
  have pass : ∀ M (v1 : z_Dat) (r : Nat → Nat), m_sum r (n_B ρ) = M → (∀ a, a ≠ 241 → v1 a = v a) → m_L ρ κ T v1 r → (T ≠ n_B ρ → r (n_B ρ) = 1000000) → z_J G d mX11_laysLeft (36, [.ref 223, .int (nI T), .int 1, .null, .null, .null], [], S, v1) Q := by
    intro M
    induction M using Nat.strongRecOn with
    | ind M IH =>
      intro v1 r hM hf hI hbo
      refine sg_X11_laysLeft_36 ⟨fun c => absurd c (by decide), fun _ => ?_⟩
      -- within the pass
      have go : ∀ j e (v2 : z_Dat) (r2 : Nat → Nat) (x : Nat), e + j = n_E ρ → x < 2 → (∀ a, a ≠ 241 → v2 a = v a) → m_L ρ κ T v2 r2 → (T ≠ n_B ρ → r2 (n_B ρ) = 1000000) → (x = 0 → m_sum r2 (n_B ρ) = M ∧ ∀ e', e' < e → n_d1 ρ κ T r2 e') → (x = 1 → m_sum r2 (n_B ρ) < M) →
          z_J G d mX11_laysLeft (44, [.ref 223, .int (nI T), .int (nI x), .int (nI e), .null, .null], [], S, v2) Q := by
        intro j
        induction j with
        | zero =>
          intro e v2 r2 x he hx hf2 hI2 hb2 h0 h1
          have he : e = n_E ρ := by omega
          subst he
          refine sg_X11_laysLeft_44 hL ⟨fun _ => ?_, fun c => absurd ?_ c⟩
          · rcases (show x = 0 ∨ x = 1 by omega) with rfl | rfl
            · refine sg_X11_laysLeft_36 ⟨fun _ => ?_, fun c => absurd rfl c⟩
              have hD1 : n_D1 ρ κ T r2 := fun e he hu => (h0 rfl).2 e he hu
              have hD := n_isD_of hV hκ hT hI2.2.1 hD1 (fun s hs hn hf => hI2.2.2.2 s hs hn (by omega))
              have hq := n_ds_eq hV hκ hT hD
              refine h v2 (fun s hs => by rw [hI2.1 s (by omega), hq s hs]) (fun e => ?_) (fun e => ?_) hf2 (n_ds_is hD)
              · rw [hI2.1 _ (Nat.le_refl _), ← e, hI2.2.1]; rfl
              · rw [hI2.1 _ (Nat.le_refl _), hb2 e]; rfl
            · exact IH _ (h1 rfl) v2 r2 rfl hf2 hI2 hb2
          · rw [hf2 223 (by omega), a0]; exact nI_le (Nat.le_refl _) (by omega)
        | succ j ih =>
          intro e v2 r2 x he hx hf2 hI2 hb2 h0 h1
          have heE : e < n_E ρ := by omega
          obtain ⟨l1, l2, l3⟩ := hE e heE
          obtain ⟨q1, q2, q3⟩ := n_ends hV.1 hκ heE
          have hw := n_wt (e := e) hV hκ
          have ce : (nI e).toNatClampNeg = e := nI_clamp (by omega)
          have m1 : v2 238 e = nI (n_lo ρ κ e) := by rw [hf2 238 (by omega)]; exact l1
          have m2 : v2 239 e = nI (n_hi ρ κ e) := by rw [hf2 239 (by omega)]; exact l2
          have m3 : v2 240 e = nI (n_w ρ κ e) := by rw [hf2 240 (by omega)]; exact l3
          have m4 : v2 223 32 = nI (n_B ρ) := by rw [hf2 223 (by omega)]; exact a1
          have m5 : v2 223 31 = nI (n_E ρ) := by rw [hf2 223 (by omega)]; exact a0
          have clo : (nI (n_lo ρ κ e)).toNatClampNeg = n_lo ρ κ e := nI_clamp (by omega)
          have chi : (nI (n_hi ρ κ e)).toNatClampNeg = n_hi ρ κ e := nI_clamp (by omega)
          have s1 : v2 241 (n_lo ρ κ e) = nI (r2 (n_lo ρ κ e)) := hI2.1 _ (by omega)
          have s2 : v2 241 (n_hi ρ κ e) = nI (r2 (n_hi ρ κ e)) := hI2.1 _ q3
          have b1 := hI2.2.2.1 (n_lo ρ κ e)
          have b2 := hI2.2.2.1 (n_hi ρ κ e)
          have i321 : vp_in (nI e) 321 := vp_in_nI (by omega) (by omega)
          have iLo : vp_in (nI (n_lo ρ κ e)) 109 := vp_in_nI (by omega) (by omega)
          have iHi : vp_in (nI (n_hi ρ κ e)) 109 := vp_in_nI (by omega) (by omega)
          have eB : nI (n_hi ρ κ e) = nI (n_B ρ) ↔ n_hi ρ κ e = n_B ρ := nI_eq (by omega) (by omega)
          have eT : nI T = nI (n_B ρ) ↔ T = n_B ρ := nI_eq (by omega) (by omega)
          have c1 : nI (r2 (n_lo ρ κ e)) ≤ nI (r2 (n_hi ρ κ e) + n_w ρ κ e) ↔ r2 (n_lo ρ κ e) ≤ r2 (n_hi ρ κ e) + n_w ρ κ e := nI_leI (by omega) (by omega)
          have c2 : nI (r2 (n_hi ρ κ e)) ≤ nI (r2 (n_lo ρ κ e) + n_w ρ κ e) ↔ r2 (n_hi ρ κ e) ≤ r2 (n_lo ρ κ e) + n_w ρ κ e := nI_leI (by omega) (by omega)
          -- nothing changes here
          have stay : n_d1 ρ κ T r2 e → z_J G d mX11_laysLeft (44, [.ref 223, .int (nI T), .int (nI x), .int (nI (e + 1)), .null, .null], [], S, v2) Q := fun hd => by
            refine ih (e + 1) v2 r2 x (by omega) hx hf2 hI2 hb2 (fun q => ⟨(h0 q).1, fun e' he' => ?_⟩) h1
            by_cases z : e' = e
            · subst z; exact hd
            · exact (h0 q).2 e' (by omega)
          have less : ∀ s y, s < n_B ρ → y < r2 s → m_sum (p_up r2 s y) (n_B ρ) < M := fun s y hs hy => by
            have := (m_sum_up hy (n_B ρ)).2 hs
            rcases (show x = 0 ∨ x = 1 by omega) with z | z
            · have := (h0 z).1; omega
            · have := h1 z; omega
          -- the lesser end comes nearer
          have lower : n_us ρ κ T e → ¬ r2 (n_lo ρ κ e) ≤ r2 (n_hi ρ κ e) + n_w ρ κ e → ∀ v3, v3 = z_u v2 241 (n_lo ρ κ e) (nI (r2 (n_hi ρ κ e) + n_w ρ κ e)) → z_J G d mX11_laysLeft (44, [.ref 223, .int (nI T), .int (nI 1), .int (nI (e + 1)), .null, .null], [], S, v3) Q := fun hu hc v3 e3 => by
            refine ih (e + 1) v3 (p_up r2 (n_lo ρ κ e) (r2 (n_hi ρ κ e) + n_w ρ κ e)) 1 (by omega) (by omega) (fun a ha => by rw [e3, z_u_ne ha]; exact hf2 a ha) ?_ (fun q => by rw [p_un (by omega)]; exact hb2 q) (fun q => by omega) (fun _ => less _ _ q2 (by omega))
            rw [e3]
            exact hI2.up (by omega) (fun _ _ => ⟨e, heE, hu, Or.inl ⟨rfl, by rw [p_ue rfl, p_un (by omega)]; exact Nat.le_refl _⟩⟩) q2
          have upper : n_hi ρ κ e ≠ n_B ρ → ¬ r2 (n_hi ρ κ e) ≤ r2 (n_lo ρ κ e) + n_w ρ κ e → ∀ v3, v3 = z_u v2 241 (n_hi ρ κ e) (nI (r2 (n_lo ρ κ e) + n_w ρ κ e)) → z_J G d mX11_laysLeft (44, [.ref 223, .int (nI T), .int (nI 1), .int (nI (e + 1)), .null, .null], [], S, v3) Q := fun hn hc v3 e3 => by
            refine ih (e + 1) v3 (p_up r2 (n_hi ρ κ e) (r2 (n_lo ρ κ e) + n_w ρ κ e)) 1 (by omega) (by omega) (fun a ha => by rw [e3, z_u_ne ha]; exact hf2 a ha) ?_ (fun q => by rw [p_un (fun z => hn z.symm)]; exact hb2 q) (fun q => by omega) (fun _ => less _ _ (by omega) (by omega))
            rw [e3]
            exact hI2.up (by omega) (fun _ _ => ⟨e, heE, Or.inl hn, Or.inr ⟨rfl, by rw [p_ue rfl, p_un (by omega)]; exact Nat.le_refl _⟩⟩) (by omega)
          refine sg_X11_laysLeft_44 hL ?_
          rw [ce, m1, m2, m3, m4, m5, clo, chi, s1, s2, nI_add, nI_add, eB, eT, c1, c2, nI_1]
          refine ⟨fun c => absurd c (nI_ge (by omega) (by omega)), fun _ => ⟨i321, fun hn => ⟨i321, iLo, i321, iHi, i321, fun g1 => ⟨i321, fun g2 => ?_, fun g2 => ⟨i321, fun z => absurd z hn, fun _ => ⟨i321, i321, iHi, fun v3 e3 => ?_⟩⟩⟩, fun g1 => ⟨i321, i321, iLo, fun v3 e3 => ?_⟩⟩, fun hn => ⟨fun hT2 => ⟨i321, iLo, i321, iHi, i321, fun g1 => ⟨i321, fun g2 => ?_, fun g2 => ?_⟩, fun g1 => ⟨i321, i321, iLo, fun v3 e3 => ?_⟩⟩, fun hT2 => ?_⟩⟩⟩
          · exact stay (fun _ => ⟨g1, fun _ => g2⟩)
          · exact upper hn g2 v3 e3
          · exact lower (Or.inl hn) g1 v3 e3
          · exact stay (fun _ => ⟨g1, fun _ => g2⟩)
          · rw [hn, ← hT2, hI2.2.1] at g2; omega
          · exact lower (Or.inr hT2) g1 v3 e3
          · exact stay (fun hu => by
              rcases hu with z | z
              · exact absurd hn z
              · exact absurd z hT2)
      exact go (n_E ρ) 0 v1 r 0 (by omega) (by omega) hf hI hbo (fun _ => ⟨hM, fun e' he' => by omega⟩) (fun q => by omega)
  -- the first row
  have lay : ∀ j s (v1 : z_Dat), s + j = n_B ρ + 1 → (∀ a, a ≠ 241 → v1 a = v a) → (∀ u, u < s → v1 241 u = nI (if u = T then 0 else 1000000)) → z_J G d mX11_laysLeft (2, [.ref 223, .int (nI T), .int (nI s), .null, .null, .null], [], S, v1) Q := by
    intro j
    induction j with
    | zero =>
      intro s v1 hs hf h1
      have hs : s = n_B ρ + 1 := by omega
      subst hs
      refine sg_X11_laysLeft_2 hL ⟨fun _ => ?_, fun c => absurd ?_ c⟩
      · refine pass _ v1 (fun u => if u = T then 0 else 1000000) rfl hf ⟨fun u hu => h1 u (by omega), if_pos rfl, fun u => ?_, fun u hu hn hf => ?_⟩ (fun q => if_neg (fun z => q z.symm))
        · dsimp only; split <;> omega
        · dsimp only at hf; rw [if_neg hn] at hf; omega
      · rw [hf 223 (by omega), a1]; exact nI_lt (by omega) (by omega)
    | succ j ih =>
      intro s v1 hs hf h1
      have cs : (nI s).toNatClampNeg = s := nI_clamp (by omega)
      have eq : nI s = nI T ↔ s = T := nI_eq (by omega) (by omega)
      refine sg_X11_laysLeft_2 hL ⟨fun c => ?_, fun _ => ?_⟩
      · rw [hf 223 (by omega), a1] at c; exact absurd c (nI_nlt (by omega) (by omega))
      · rw [eq, cs, nI_1]
        refine ⟨fun c => ⟨vp_in_nI (by omega) (by omega), fun v2 e2 => ih (s + 1) v2 (by omega) (fun a ha => by rw [e2, z_u_ne ha]; exact hf a ha) (fun u hu => ?_)⟩, fun c => ⟨vp_in_nI (by omega) (by omega), fun v2 e2 => ih (s + 1) v2 (by omega) (fun a ha => by rw [e2, z_u_ne ha]; exact hf a ha) (fun u hu => ?_)⟩⟩
        · by_cases z : u = s
          · rw [e2, z_ue rfl z, z, if_neg c]; rfl
          · rw [e2, z_un (Or.inr z)]; exact h1 u (by omega)
        · by_cases z : u = s
          · rw [e2, z_ue rfl z, z, if_pos c]; rfl
          · rw [e2, z_un (Or.inr z)]; exact h1 u (by omega)
  exact sg_X11_laysLeft_0 (lay (n_B ρ + 1) 0 v (by omega) (fun _ _ => rfl) (fun u hu => by omega))
end LF
