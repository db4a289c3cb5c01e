/-! THE CLASS' DISTANCES: the net as it is read; offerFromBorder, offerFrom, measure -/
def c_R (ρ : Nat → Nat) (κ : Nat) (v : z_Dat) : Prop :=
  (v 149 0 = nI (n_B ρ) ∧ v 149 1 = nI (n_B ρ) ∧ v 149 2 = nI (n_E ρ) ∧ v 149 12 = nI (ρ 1 + 1) ∧ v 149 13 = nI (ρ 0 * ρ 0) ∧ v 149 14 = nI (t_K (ρ 0))) ∧
  (∀ e, e < n_E ρ → (v 150 e = nI (n_lo ρ κ e) ∧ v 151 e = nI (n_hi ρ κ e) ∧ v 152 e = nI (n_w ρ κ e))) ∧
  (∀ s, s < n_B ρ → (v 153 s = nI (n_nr ρ κ s).length ∧ ∀ i, i < (n_nr ρ κ s).length → v 154 (s * 6 + i) = nI ((n_nr ρ κ s).getD i 0)))
theorem n_sB {ρ : Nat → Nat} {s : Nat} (h35 : ρ 0 = 3 ∨ ρ 0 = 5) (hs : s < n_B ρ) : s / t_K (ρ 0) ≤ ρ 1 ∧ s % t_K (ρ 0) < t_K (ρ 0) := by
  have hK : 0 < t_K (ρ 0) := by rcases h35 with e | e <;> rw [e] <;> decide
  unfold n_B at hs
  have := (Nat.div_lt_iff_lt_mul hK).mpr hs
  exact ⟨by omega, Nat.mod_lt _ hK⟩
theorem n_nr_lt {ρ : Nat → Nat} {κ s : Nat} (h35 : ρ 0 = 3 ∨ ρ 0 = 5) (hs : s < n_B ρ) : ∀ e ∈ n_nr ρ κ s, e < n_E ρ := by
  obtain ⟨h1, h2⟩ := n_sB h35 hs
  intro e he
  unfold n_nr at he
  rcases List.mem_append.mp he with he | he
  · split at he
    · rw [List.mem_singleton] at he
      rw [he, Nat.add_assoc]
      exact n_EW2 (by omega) h2
    · cases he
  · rcases List.mem_append.mp he with he | he
    · obtain ⟨q, hq, rfl⟩ := List.mem_map.mp he
      unfold t_qs at hq
      rw [List.mem_filter, List.mem_range] at hq
      exact n_EW h1 hq.1
    · split at he
      · rw [List.mem_singleton] at he
        rw [he, Nat.add_assoc]
        exact n_EW2 (by omega) h2
      · cases he
theorem n_ls_all {ρ : Nat → Nat} {κ s : Nat} (h35 : ρ 0 = 3 ∨ ρ 0 = 5) (hs : s < n_B ρ) : n_ls ρ κ s (n_E ρ) = n_nr ρ κ s := by
  unfold n_ls
  rw [List.filter_eq_self]
  intro e he
  simpa using n_nr_lt h35 hs e he
theorem c_N.R {ρ : Nat → Nat} {κ : Nat} {v0 v : z_Dat} (h35 : ρ 0 = 3 ∨ ρ 0 = 5) (h : c_N ρ κ v0 v (n_E ρ)) : c_R ρ κ v := ⟨h.1, h.2.1, fun s hs => by
  have := h.2.2.1 s hs
  rw [n_ls_all h35 hs] at this
  exact this⟩
theorem c_R.fr {ρ : Nat → Nat} {κ : Nat} {v v1 : z_Dat} (h : c_R ρ κ v) (hf : ∀ a, 149 ≤ a → a ≤ 154 → v1 a = v a) : c_R ρ κ v1 := by
  unfold c_R
  rw [hf 149 (by omega) (by omega), hf 150 (by omega) (by omega), hf 151 (by omega) (by omega), hf 152 (by omega) (by omega), hf 153 (by omega) (by omega), hf 154 (by omega) (by omega)]
  exact h
theorem w_fr.R {ρ : Nat → Nat} {κ a : Nat} {v v1 : z_Dat} (ha : w_ok a) (h : w_fr a v v1) (hR : c_R ρ κ v) : c_R ρ κ v1 := hR.fr (fun b h1 h2 => by
  unfold w_ok at ha
  exact h.1 b (by omega) (by omega) (by omega) (by omega) (by omega))
theorem l_mem {l : List Nat} {i : Nat} (h : i < l.length) : l.getD i 0 ∈ l := by
  rw [List.getD_eq_getElem?_getD, List.getElem?_eq_getElem h]
  exact List.getElem_mem h
theorem l_idx {l : List Nat} {x : Nat} (h : x ∈ l) : ∃ i, i < l.length ∧ l.getD i 0 = x := by
  obtain ⟨i, hi, e⟩ := List.getElem_of_mem h
  exact ⟨i, hi, by rw [List.getD_eq_getElem?_getD, List.getElem?_eq_getElem hi]; exact e⟩
/-- an edge has been looked at from its end s -/
def w_rx (ρ : Nat → Nat) (κ : Nat) (r : Nat → Nat) (s e : Nat) : Prop := (n_lo ρ κ e = s → n_hi ρ κ e ≠ n_B ρ → r (n_hi ρ κ e) ≤ r s + n_w ρ κ e) ∧ (n_hi ρ κ e = s → r (n_lo ρ κ e) ≤ r s + n_w ρ κ e)
theorem w_rx.mono {ρ : Nat → Nat} {κ : Nat} {r r1 : Nat → Nat} {s e : Nat} (h : w_rx ρ κ r s e) (hl : ∀ u, r1 u ≤ r u) (hs : r1 s = r s) : w_rx ρ κ r1 s e := ⟨fun h1 h2 => by rw [hs]; exact Nat.le_trans (hl _) (h.1 h1 h2), fun h1 => by rw [hs]; exact Nat.le_trans (hl _) (h.2 h1)⟩
theorem nI_n1 {n : Nat} (h : n < 2 ^ 31) : ¬ nI n = -1 := fun e => nI_pos h (by rw [e]; decide)
section ME
variable {G : z_G} {d : Nat} {S : z_Shp} {v v0 : z_Dat} {Q : Option Value → z_Shp → z_Dat → Prop} {κ T a : Nat} {ρ r F O : Nat → Nat} {n : Nat}
theorem sp_X8_offerFrom {s : Nat} (hd : 1 ≤ d) (hL : z_L S) (hV : p_V ρ) (hκ : κ < 2) (ha : w_ok a) (hk : z_k S a = 21) (hl : z_l S a = 109) (hR : c_R ρ κ v) (hI : w_I ρ κ T a v r F O n) (hrT : r T = 0) (hn : n + 6 ≤ 969) (hs : s < n_B ρ) (hrs : r s < 256)
    (h : ∀ v1 r1 F1 O1 n1, w_I ρ κ T a v1 r1 F1 O1 n1 → w_gr a v v1 (n_B ρ) (r s) r F O n r1 F1 O1 n1 → n1 ≤ n + 6 → (∀ e, e < n_E ρ → w_rx ρ κ r1 s e) → Q none S v1) : z_J G d mX8_offerFrom (0, [.ref 158, .ref 149, .ref a, .int (nI s), .null, .null, .null], [], S, v) Q := by
  obtain ⟨d, rfl⟩ : ∃ e, d = e + 1 := ⟨d - 1, by omega⟩
  have hB := n_B_le hV.1 hV.2.1
  have hE := n_E_le hV.1 hV.2.1
  have cs : (nI s).toNatClampNeg = s := nI_clamp (by omega)
  have hlen := n_nr_len (s := s) hV.1 hκ
  have key : ∀ j i v1 r1 F1 O1 n1, i + j = (n_nr ρ κ s).length → w_I ρ κ T a v1 r1 F1 O1 n1 → w_gr a v v1 (n_B ρ) (r s) r F O n r1 F1 O1 n1 → n1 ≤ n + i → (∀ i', i' < i → w_rx ρ κ r1 s ((n_nr ρ κ s).getD i' 0)) → z_J G (d + 1) mX8_offerFrom (3, [.ref 158, .ref 149, .ref a, .int (nI s), .int (nI i), .null, .null], [], S, v1) Q := by
    intro j
    induction j with
    | zero =>
      intro i v1 r1 F1 O1 n1 hij hI1 hg hn1 hx
      have hR1 := hg.1.R ha hR
      have hi : i = (n_nr ρ κ s).length := by omega
      subst hi
      refine sg_X8_offerFrom_3 hL hk ⟨vp_in_nI (by omega) (by omega), fun _ => ?_, fun c => ?_⟩
      · refine h v1 r1 F1 O1 n1 hI1 hg (by omega) (fun e he => ?_)
        have hm := n_mem hV.1 hκ he hs
        by_cases q : e ∈ n_nr ρ κ s
        · obtain ⟨i, hi, e2⟩ := l_idx q
          rw [← e2]; exact hx i hi
        · have q := fun z => q (hm.mpr z)
          exact ⟨fun h1 _ => absurd (Or.inl h1) q, fun h1 => absurd (Or.inr h1) q⟩
      · rw [cs, (hR1.2.2 s hs).1] at c
        exact absurd (nI_le (Nat.le_refl _) (by omega)) c
    | succ j ih =>
      intro i v1 r1 F1 O1 n1 hij hI1 hg hn1 hx
      have hR1 := hg.1.R ha hR
      have hi : i < (n_nr ρ κ s).length := by omega
      have e6 : nI s * 6 + nI i = nI (s * 6 + i) := by rw [show (6 : Int32) = nI 6 from rfl, pk_mul, nI_add]
      have hee := n_nr_lt (κ := κ) hV.1 hs _ (l_mem hi)
      have hmm := (n_mem hV.1 hκ hee hs).mp (l_mem hi)
      have h154 := (hR1.2.2 s hs).2 i hi
      generalize hx0 : (n_nr ρ κ s).getD i 0 = e at *
      obtain ⟨g1, g2, g3⟩ := hR1.2.1 e hee
      obtain ⟨q1, q2, q3⟩ := n_ends hV.1 hκ hee
      have hw := n_wt (e := e) hV hκ
      have ce : (nI e).toNatClampNeg = e := nI_clamp (by omega)
      have hrs1 : r1 s = r s := hg.2.2.2.1 s (Nat.le_refl _)
      have hrT1 : r1 T = 0 := by have := hg.2.2.1 T; omega
      refine sg_X8_offerFrom_3 hL hk ⟨vp_in_nI (by omega) (by omega), fun c => ?_, fun _ => ?_⟩
      · rw [cs, (hR1.2.2 s hs).1] at c
        exact absurd c (nI_ge (by omega) (by omega))
      · rw [e6, nI_clamp (n := s * 6 + i) (by omega), h154, ce, g1, g2, g3, cs, hI1.1 s hs, hR1.1.2.1, hl, nI_add, hrs1, nI_1]
        have hif : (if nI (n_lo ρ κ e) = nI s then nI (n_hi ρ κ e) else nI (n_lo ρ κ e)) = nI (if n_lo ρ κ e = s then n_hi ρ κ e else n_lo ρ κ e) := by
          by_cases z : n_lo ρ κ e = s
          · rw [if_pos z, if_pos (by rw [z])]
          · rw [if_neg z, if_neg (fun w => z ((nI_eq (by omega) (by omega)).mp w))]
        rw [hif]
        have hx1 : ∀ r2 : Nat → Nat, r2 s = r1 s → (∀ u, r2 u ≤ r1 u) → (n_lo ρ κ e = s → n_hi ρ κ e ≠ n_B ρ → r2 (n_hi ρ κ e) ≤ r2 s + n_w ρ κ e) → (n_hi ρ κ e = s → r2 (n_lo ρ κ e) ≤ r2 s + n_w ρ κ e) → ∀ i', i' < i + 1 → w_rx ρ κ r2 s ((n_nr ρ κ s).getD i' 0) := by
          intro r2 e2 e3 e4 e5 i' hi'
          by_cases z : i' = i
          · rw [z, hx0]; exact ⟨e4, e5⟩
          · exact (hx i' (by omega)).mono e3 e2
        refine ⟨vp_in_nI (by omega) (by omega), vp_in_nI (by omega) (by omega), fun c => ?_, fun c => ⟨vp_in_nI (by omega) (by omega), vp_in_nI (by omega) (by omega), ?_⟩⟩
        · have c := (nI_eq (by split <;> omega) (by omega)).mp c
          refine ih (i + 1) v1 r1 F1 O1 n1 (by omega) hI1 hg (by omega) (hx1 r1 rfl (fun _ => Nat.le_refl _) (fun z1 z2 => ?_) (fun z1 => ?_))
          · rw [if_pos z1] at c; exact absurd c z2
          · rw [if_neg (by omega)] at c; omega
        · have c : ¬ (if n_lo ρ κ e = s then n_hi ρ κ e else n_lo ρ κ e) = n_B ρ := fun z => c (by rw [z])
          have ho : (if n_lo ρ κ e = s then n_hi ρ κ e else n_lo ρ κ e) < n_B ρ := by
            by_cases z : n_lo ρ κ e = s
            · rw [if_pos z] at c ⊢; omega
            · rw [if_neg z]; exact q2
          have hus : n_us ρ κ T e := Or.inl (fun z => by
            by_cases z1 : n_lo ρ κ e = s
            · rw [if_pos z1] at c; exact c z
            · rcases hmm with z2 | z2 <;> omega)
          refine sp_X8_offer (f := r s) hL ha hk hl hB hI1 (by omega) ho (by omega) (fun z => ⟨Or.inl hrT1, fun _ => ⟨e, hee, hus, ?_⟩⟩) (fun z1 z2 => ?_) (fun v2 r2 F2 O2 n2 hI2 hg0 hg2 hn2 hr2 => ⟨rfl, rfl, ?_⟩)
          · by_cases z1 : n_lo ρ κ e = s
            · rw [if_pos z1]
              right
              refine ⟨rfl, ?_⟩
              rw [p_ue rfl, p_un (by omega), z1, hrs1]
              exact Nat.le_refl _
            · rw [if_neg z1]
              left
              have z2 := hmm.resolve_left z1
              refine ⟨rfl, ?_⟩
              rw [p_ue rfl, p_un (by omega), z2, hrs1]
              exact Nat.le_refl _
          · rw [z1] at z2; omega
          · have hg2 := hg2 (by omega)
            have hrs2 : r2 s = r s := (hg.tr hg2).2.2.2.1 s (Nat.le_refl _)
            have hr2' : r2 (if n_lo ρ κ e = s then n_hi ρ κ e else n_lo ρ κ e) ≤ r s + n_w ρ κ e := by
              rcases hr2 with z | z
              · exact z
              · have := (hI2.2.2.2.2.2.1 _ ho).1; omega
            refine ih (i + 1) v2 r2 F2 O2 n2 (by omega) hI2 (hg.tr hg2) (by omega) (hx1 r2 (by omega) hg2.2.2.1 (fun z1 z2 => ?_) (fun z1 => ?_))
            · rw [if_pos z1] at hr2'; omega
            · rw [if_neg (by omega)] at hr2'; omega
  exact sg_X8_offerFrom_0 hk (key (n_nr ρ κ s).length 0 v r F O n (by omega) hI w_gr.rf (by omega) (fun i' h' => by omega))
/-- what an empty row of offers is -/
theorem w_I0 (h1 : ∀ s, s < n_B ρ → v a s = 256) (h2 : v 158 7 = 0) (h3 : ∀ f, f < 256 → v 161 f = -1) : w_I ρ κ T a v (fun s => if s = n_B ρ ∧ T = n_B ρ then 0 else 256) F O 0 := by
  refine ⟨fun s hs => ?_, ⟨h2, by omega⟩, fun x hx => by omega, fun f hf => h3 f hf, fun x hx => by omega, fun s hs => ⟨?_, fun z => ?_⟩, fun x y _ hy => by omega, fun s hs _ z => ?_, Or.inr rfl, fun z => if_neg (fun w => z w.2)⟩
  · show v a s = nI (if s = n_B ρ ∧ T = n_B ρ then 0 else 256)
    rw [if_neg (by omega)]; exact h1 s hs
  · show (if s = n_B ρ ∧ T = n_B ρ then 0 else 256) ≤ 256
    rw [if_neg (by omega)]; exact Nat.le_refl _
  · change (if s = n_B ρ ∧ T = n_B ρ then 0 else 256) < 256 at z
    rw [if_neg (by omega)] at z; omega
  · change (if s = n_B ρ ∧ T = n_B ρ then 0 else 256) < 256 at z
    rw [if_neg (by omega)] at z; omega
theorem sp_X8_offerFromBorder (hd : 1 ≤ d) (hL : z_L S) (hV : p_V ρ) (hκ : κ < 2) (ha : w_ok a) (hk : z_k S a = 21) (hl : z_l S a = 109) (hR : c_R ρ κ v) (h1 : ∀ s, s < n_B ρ → v a s = 256) (h2 : v 158 7 = 0) (h3 : ∀ f, f < 256 → v 161 f = -1)
    (h : ∀ v1 r1 F1 O1 n1, w_I ρ κ (n_B ρ) a v1 r1 F1 O1 n1 → w_fr a v v1 → v1 a (n_B ρ) = 0 → r1 (n_B ρ) = 0 → n1 ≤ 321 → (∀ e, e < n_E ρ → n_hi ρ κ e = n_B ρ → r1 (n_lo ρ κ e) ≤ n_w ρ κ e) → Q none S v1) : z_J G d mX8_offerFromBorder (0, [.ref 158, .ref 149, .ref a, .null], [], S, v) Q := by
  obtain ⟨d, rfl⟩ : ∃ e, d = e + 1 := ⟨d - 1, by omega⟩
  have hB := n_B_le hV.1 hV.2.1
  have hE := n_E_le hV.1 hV.2.1
  have key : ∀ j i v1 r1 F1 O1 n1, i + j = n_E ρ → w_I ρ κ (n_B ρ) a v1 r1 F1 O1 n1 → w_fr a v v1 → v1 a (n_B ρ) = 0 → r1 (n_B ρ) = 0 → n1 ≤ i → (∀ e, e < i → n_hi ρ κ e = n_B ρ → r1 (n_lo ρ κ e) ≤ n_w ρ κ e) → z_J G (d + 1) mX8_offerFromBorder (9, [.ref 158, .ref 149, .ref a, .int (nI i)], [], S, v1) Q := by
    intro j
    induction j with
    | zero =>
      intro i v1 r1 F1 O1 n1 hij hI hf hb hr hn hx
      have hi : i = n_E ρ := by omega
      subst hi
      have hR1 := hf.R ha hR
      refine sg_X8_offerFromBorder_9 hL hk ⟨fun _ => h v1 r1 F1 O1 n1 hI hf hb hr (by omega) hx, fun c => ?_⟩
      rw [hR1.1.2.2.1] at c
      exact absurd (nI_le (Nat.le_refl _) (by omega)) c
    | succ j ih =>
      intro i v1 r1 F1 O1 n1 hij hI hf hb hr hn hx
      have hR1 := hf.R ha hR
      have hie : i < n_E ρ := by omega
      obtain ⟨g1, g2, g3⟩ := hR1.2.1 i hie
      obtain ⟨q1, q2, q3⟩ := n_ends hV.1 hκ hie
      have hw := n_wt (e := i) hV hκ
      have ci : (nI i).toNatClampNeg = i := nI_clamp (by omega)
      refine sg_X8_offerFromBorder_9 hL hk ⟨fun c => ?_, fun _ => ⟨vp_in_nI (by omega) (by omega), ?_⟩⟩
      · rw [hR1.1.2.2.1] at c
        exact absurd c (nI_ge (by omega) (by omega))
      · rw [ci, g1, g2, g3, hR1.1.2.1, nI_1]
        refine ⟨fun c => ?_, fun c => ⟨vp_in_nI (by omega) (by omega), vp_in_nI (by omega) (by omega), ?_⟩⟩
        · refine ih (i + 1) v1 r1 F1 O1 n1 (by omega) hI hf hb hr (by omega) (fun e he z => ?_)
          by_cases w : e = i
          · subst w; exact absurd (by rw [z]) c
          · exact hx e (by omega) z
        · have c := (nI_eq (by omega) (by omega)).mp c
          refine sp_X8_offer (f := 0) hL ha hk hl hB hI (by omega) q2 (by omega) (fun z => ⟨Or.inl hr, fun _ => ⟨i, hie, Or.inr rfl, Or.inl ⟨rfl, ?_⟩⟩⟩) (fun z1 => by omega) (fun v2 r2 F2 O2 n2 hI2 hg0 hg2 hn2 hr2 => ⟨rfl, rfl, ?_⟩)
          · rw [p_ue rfl, p_un (by omega), c, hr]; omega
          · have hg2 := hg2 (by omega)
            refine ih (i + 1) v2 r2 F2 O2 n2 (by omega) hI2 (hf.tr hg2.1) (hg2.2.1.trans hb) (by have := hg2.2.2.1 (n_B ρ); omega) (by omega) (fun e he z => ?_)
            by_cases w : e = i
            · subst w; rcases hr2 with y | y
              · exact y
              · omega
            · exact Nat.le_trans (hg2.2.2.1 _) (hx e (by omega) z)
  refine sg_X8_offerFromBorder_0 hL hk ?_
  rw [hR.1.2.1, hl, nI_clamp (by omega)]
  refine ⟨vp_in_nI (by omega) (by omega), fun v1 e1 => ?_⟩
  have ha2 := ha
  unfold w_ok at ha
  refine key (n_E ρ) 0 v1 _ (fun _ => 0) (fun _ => 0) 0 (by omega) (w_I0 (F := fun _ => 0) (O := fun _ => 0) (fun s hs => ?_) ?_ (fun f hf => ?_)) ⟨fun b b1 b2 b3 b4 b5 => ?_, fun j hj => ?_⟩ ?_ ?_ (by omega) (fun e he => by omega)
  · rw [e1, z_un (by omega)]; exact h1 s hs
  · rw [e1, z_un (by omega)]; exact h2
  · rw [e1, z_un (by omega)]; exact h3 f hf
  · rw [e1, z_u_ne b1]
  · rw [e1, z_un (by omega)]
  · rw [e1, z_ue (by omega) rfl]
  · exact if_pos ⟨rfl, rfl⟩
/-- behind a bucket's start: what was looked at -/
def w_P (ρ : Nat → Nat) (κ T f : Nat) (r : Nat → Nat) (n : Nat) (Ps : List Nat) : Prop :=
  Ps.Nodup ∧ n ≤ 321 + 6 * Ps.length ∧ r T = 0 ∧ (∀ s, s ∈ Ps → (s < n_B ρ ∧ r s ≤ f ∧ ∀ e, e < n_E ρ → w_rx ρ κ r s e)) ∧ (∀ s, s < n_B ρ → r s < f → s ∈ Ps) ∧
  (T = n_B ρ → ∀ e, e < n_E ρ → n_hi ρ κ e = n_B ρ → r (n_lo ρ κ e) ≤ n_w ρ κ e)
theorem l_nodup_le {B : Nat} : ∀ l : List Nat, l.Nodup → (∀ x ∈ l, x < B) → l.length ≤ B := by
  induction B with
  | zero =>
    intro l _ h
    cases l with
    | nil => exact Nat.le_refl _
    | cons x l => exact absurd (h x (List.mem_cons_self ..)) (by omega)
  | succ B ih =>
    intro l hn h
    have h1 := ih (l.erase B) (hn.erase B) (fun x hx => by
      have h2 := h x (List.mem_of_mem_erase hx)
      have h3 : x ≠ B := ((List.Nodup.mem_erase_iff hn).mp hx).1
      omega)
    have h4 := List.length_erase_le (a := B) (l := l)
    rw [List.length_erase] at h1
    split at h1 <;> omega
/-- all offers looked at: the row is the distances' -/
theorem w_fin {f : Nat} {Ps : List Nat} (hV : p_V ρ) (hκ : κ < 2) (hT : T ≤ n_B ρ) (hI : w_I ρ κ T a v r F O n) (hP : w_P ρ κ T f r n Ps) (hf : ∀ s, s < n_B ρ → r s < 256 → r s < f) : n_isD ρ κ T r := by
  obtain ⟨i1, ⟨i2, i2'⟩, i3, i4, i5, i6, i7, i8, i9, i10⟩ := hI
  obtain ⟨p1, p2, p3, p4, p5, p6⟩ := hP
  refine n_isD_of hV hκ hT p3 (fun e he hu => ?_) (fun s hs hn h => i8 s hs hn (by omega))
  obtain ⟨q1, q2, q3⟩ := n_ends hV.1 hκ he
  constructor
  · by_cases hb : n_hi ρ κ e = n_B ρ
    · have hTb : T = n_B ρ := by
        rcases hu with u | u
        · exact absurd hb u
        · exact u
      have := p6 hTb e he hb
      omega
    · by_cases hr : r (n_hi ρ κ e) < 256
      · exact ((p4 _ (p5 _ (by omega) (hf _ (by omega) hr))).2.2 e he).2 rfl
      · have := (i6 _ q2).1; omega
  · intro hb
    by_cases hr : r (n_lo ρ κ e) < 256
    · exact ((p4 _ (p5 _ q2 (hf _ q2 hr))).2.2 e he).1 rfl hb
    · have := (i6 (n_hi ρ κ e) (by omega)).1; omega
theorem sp_X8_measure (hd : 3 ≤ d) (hL : z_L S) (hV : p_V ρ) (hκ : κ < 2) (ha : w_ok a) (hk : z_k S a = 21) (hl : z_l S a = 109) (hR : c_R ρ κ v) (hT : T ≤ n_B ρ)
    (h : ∀ v1, (∀ s, s < n_B ρ → v1 a s = nI (n_ds ρ κ T s)) → v1 a (n_B ρ) = (if T = n_B ρ then 0 else 256) → w_fr a v v1 → n_isD ρ κ T (n_ds ρ κ T) → Q none S v1) : z_J G d mX8_measure (0, [.ref 158, .ref 149, .int (nI T), .ref a, .null, .null, .null, .null], [], S, v) Q := by
  obtain ⟨d, rfl⟩ : ∃ e, d = e + 1 := ⟨d - 1, by omega⟩
  have hB := n_B_le hV.1 hV.2.1
  have hE := n_E_le hV.1 hV.2.1
  have ha2 := ha
  unfold w_ok at ha2
  have fin : ∀ f v1 r1 F1 O1 n1 Ps, w_I ρ κ T a v1 r1 F1 O1 n1 → w_P ρ κ T f r1 n1 Ps → w_fr a v v1 → v1 a (n_B ρ) = (if T = n_B ρ then 0 else 256) → (∀ s, s < n_B ρ → r1 s < 256 → r1 s < f) → Q none S v1 := by
    intro f v1 r1 F1 O1 n1 Ps hI hP hfr hb hf
    have hD := w_fin hV hκ hT hI hP hf
    exact h v1 (fun s hs => by rw [hI.1 s hs, n_ds_eq hV hκ hT hD s hs]) hb hfr (n_ds_is hD)
  have outer : ∀ j f v1 r1 F1 O1 n1 Ps, f + j = 256 → w_I ρ κ T a v1 r1 F1 O1 n1 → w_P ρ κ T f r1 n1 Ps → (∀ s, s ∈ Ps → r1 s < f) → w_fr a v v1 → v1 a (n_B ρ) = (if T = n_B ρ then 0 else 256) →
      z_J G (d + 1) mX8_measure (50, [.ref 158, .ref 149, .int (nI T), .ref a, .int (nI (w_cl F1 f n1)), .int (nI f), .null, .null], [], S, v1) Q := by
    intro j
    induction j with
    | zero =>
      intro f v1 r1 F1 O1 n1 Ps hj hI hP hPf hfr hb
      have hf : f = 256 := by omega
      subst hf
      exact sg_X8_measure_50 hL hk ⟨fun _ => fin 256 v1 r1 F1 O1 n1 Ps hI hP hfr hb (fun s hs q => q), fun c => absurd (nI_le (a := 256) (Nat.le_refl _) (by omega)) c⟩
    | succ j ih =>
      intro f v1 r1 F1 O1 n1 Ps hj hI hP hPf hfr hb
      have hn1 := hI.2.1.2
      have hcl := w_cl_le (F := F1) (f := f) n1
      refine sg_X8_measure_50 hL hk ⟨fun c => absurd c (nI_ge (b := 256) (by omega) (by omega)), fun _ => ⟨fun c => ?_, fun _ => ⟨vp_in_nI (by omega) (by omega), ?_⟩⟩⟩
      · rw [hI.2.1.1] at c
        have c := (nI_leI (by omega) (by omega)).mp c
        have hall := w_cl_all n1 c
        refine fin f v1 r1 F1 O1 n1 Ps hI hP hfr hb (fun s hs q => ?_)
        obtain ⟨x, x1, x2, x3⟩ := (hI.2.2.2.2.2.1 s hs).2 q
        rw [← x3]; exact hall x x1
      · rw [nI_clamp (by omega), hI.2.2.2.1 f (by omega)]
        have inner : ∀ m c v2 r2 F2 O2 n2 Qs, m ≤ n2 → c + w_ct F2 f m = w_ct F2 f n2 → w_I ρ κ T a v2 r2 F2 O2 n2 → w_P ρ κ T f r2 n2 Qs → (∀ s, s ∈ Qs → (r2 s < f ∨ ∃ x, m ≤ x ∧ x < n2 ∧ O2 x = s ∧ F2 x = f)) → (∀ x, m ≤ x → x < n2 → F2 x = f → r2 (O2 x) = f → O2 x ∈ Qs) → w_fr a v v2 → v2 a (n_B ρ) = (if T = n_B ρ then 0 else 256) →
            z_J G (d + 1) mX8_measure (79, [.ref 158, .ref 149, .int (nI T), .ref a, .int (nI (w_cl F2 f n2 + c)), .int (nI f), .int (w_en (w_lb F2 f m)), .int (nI c)], [], S, v2) Q := by
          intro m
          induction m using Nat.strongRecOn with
          | ind m ihm =>
            intro c v2 r2 F2 O2 n2 Qs hm hc hI2 hP2 hQ1 hQ2 hfr2 hb2
            obtain ⟨i1, ⟨i2, i2'⟩, i3, i4, i5, i6, i7, i8, i9, i10⟩ := id hI2
            obtain ⟨p1, p2, p3, p4, p5, p6⟩ := id hP2
            have hct := w_ct_le (F := F2) (f := f) n2
            cases hlb : w_lb F2 f m with
            | none =>
              obtain ⟨l1, l2⟩ := w_lb_none m hlb
              have hnext : z_J G (d + 1) mX8_measure (50, [.ref 158, .ref 149, .int (nI T), .ref a, .int (nI (w_cl F2 f n2 + c)), .int (nI f + 1), .null, .null], [], S, v2) Q := by
                have e1 : w_cl F2 f n2 + c = w_cl F2 (f + 1) n2 := by rw [w_cl_s]; omega
                rw [e1, nI_1]
                refine ih (f + 1) v2 r2 F2 O2 n2 Qs (by omega) hI2 ⟨p1, p2, p3, fun s hs => ?_, fun s hs hr => ?_, p6⟩ (fun s hs => by have := (p4 s hs).2.1; omega) hfr2 hb2
                · obtain ⟨b1, b2, b3⟩ := p4 s hs
                  exact ⟨b1, by omega, b3⟩
                · by_cases z : r2 s < f
                  · exact p5 s hs z
                  · have z : r2 s = f := by omega
                    obtain ⟨x, x1, x2, x3⟩ := (i6 s hs).2 (by omega)
                    have hmx : m ≤ x := by
                      rcases Nat.lt_or_ge x m with y | y
                      · exact absurd (x3.trans z) (l1 x y)
                      · exact y
                    rw [← x2]
                    exact hQ2 x hmx x1 (x3.trans z) (by rw [x2]; exact z)
              exact sg_X8_measure_79 hL hk ⟨fun _ => hnext, fun _ => ⟨fun _ => hnext, fun c2 => absurd rfl c2⟩⟩
            | some x =>
              obtain ⟨l1, l2, l3, l4⟩ := w_lb_some m hlb
              obtain ⟨j1, j2, j3⟩ := i5 x (by omega)
              have cx : (nI x).toNatClampNeg = x := nI_clamp (by omega)
              have co : (nI (O2 x)).toNatClampNeg = O2 x := nI_clamp (by omega)
              have hcn : c < 969 := by omega
              refine sg_X8_measure_79 hL hk ⟨fun c2 => absurd c2 (nI_ge (b := 969) (by omega) (by omega)), fun _ => ⟨fun c2 => absurd c2 (by show ¬ nI x = -1; exact nI_n1 (by omega)), fun _ => ?_⟩⟩
              show vp_in (nI x) 969 ∧ _
              rw [show (w_en (some x)).toNatClampNeg = x from cx, (i3 x (by omega)).1, co, i1 _ j1, (i3 x (by omega)).2, l2, hl, nI_1, nI_1]
              refine ⟨vp_in_nI (by omega) (by omega), vp_in_nI (by omega) (by omega), fun c2 => ⟨vp_in_nI (by omega) (by omega), ?_⟩, fun c2 => ⟨vp_in_nI (by omega) (by omega), ?_⟩⟩
              · have c2 : ¬ r2 (O2 x) = f := fun z => c2 (by rw [z])
                rw [Nat.add_assoc]
                refine ihm x l1 (c + 1) v2 r2 F2 O2 n2 Qs (by omega) (by omega) hI2 hP2 (fun s hs => ?_) (fun y y1 y2 y3 y4 => ?_) hfr2 hb2
                · rcases hQ1 s hs with z | ⟨y, y1, y2⟩
                  · exact Or.inl z
                  · exact Or.inr ⟨y, by omega, y2⟩
                · by_cases z : m ≤ y
                  · exact hQ2 y z y2 y3 y4
                  · by_cases z2 : y = x
                    · subst z2; exact absurd y4 c2
                    · exact absurd y3 (l3 y (by omega) (by omega))
              · have c2 : r2 (O2 x) = f := (nI_eq (by have := (i6 _ j1).1; omega) (by omega)).mp c2
                have hfresh : O2 x ∉ Qs := fun hmem => by
                  rcases hQ1 _ hmem with z | ⟨y, y1, y2, y3, y4⟩
                  · omega
                  · have := i7 x y (by omega) y2 y3.symm
                    omega
                have hnd : (O2 x :: Qs).Nodup := List.nodup_cons.mpr ⟨hfresh, p1⟩
                have hlen := l_nodup_le (B := n_B ρ) (O2 x :: Qs) hnd (fun y hy => by
                  rcases List.mem_cons.mp hy with z | z
                  · rw [z]; exact j1
                  · exact (p4 y z).1)
                rw [List.length_cons] at hlen
                refine sp_X8_offerFrom (by omega) hL hV hκ ha hk hl (hfr2.R ha hR) hI2 p3 (by omega) j1 (by omega) (fun v3 r3 F3 O3 n3 hI3 hg hn3 hrx => ⟨rfl, rfl, vp_in_nI (by omega) (by omega), ?_⟩)
                rw [c2] at hg
                obtain ⟨g1, g2, g3, g4, g5, g6, g7⟩ := hg
                have hF3 : ∀ y, y < n2 → F3 y = F2 y := fun y hy => (g6 y hy).1
                have e3 := w_ct_far (F := F3) (f := f) (n := n2) (n3 - n2) (fun y y1 y2 => g7 y y1 (by omega))
                rw [show n2 + (n3 - n2) = n3 by omega, w_ct_c n2 hF3, w_cl_c n2 hF3] at e3
                have e4 : v3 163 x = w_en (w_lb F3 f x) := by
                  rw [(hI3.2.2.1 x (by omega)).2, hF3 x (by omega), l2]
                rw [e4, ← e3.2, Nat.add_assoc]
                refine ihm x l1 (c + 1) v3 r3 F3 O3 n3 (O2 x :: Qs) (by omega) (by rw [e3.1, w_ct_c x (fun y hy => hF3 y (by omega))]; omega) hI3 ⟨hnd, by rw [List.length_cons]; omega, by have := g3 T; omega, fun s hs => ?_, fun s hs hr => ?_, fun z e he z2 => Nat.le_trans (g3 _) (p6 z e he z2)⟩ (fun s hs => ?_) (fun y y1 y2 y3 y4 => ?_) (hfr2.tr g1) (g2.trans hb2)
                · rcases List.mem_cons.mp hs with z | z
                  · rw [z]
                    exact ⟨j1, by rw [g4 _ (by omega)]; omega, hrx⟩
                  · obtain ⟨b1, b2, b3⟩ := p4 s z
                    exact ⟨b1, by rw [g4 s b2]; exact b2, fun e he => (b3 e he).mono g3 (g4 s b2)⟩
                · refine List.mem_cons_of_mem _ (p5 s hs ?_)
                  rcases Nat.lt_or_ge f (r2 s) with z | z
                  · exfalso
                    obtain ⟨y, y1, y2, y3⟩ := (hI3.2.2.2.2.2.1 s hs).2 (by omega)
                    by_cases z2 : y < n2
                    · have := (i5 y z2).2.2
                      rw [← (g6 y z2).2, y2, ← hF3 y z2, y3] at this
                      omega
                    · have := g7 y (by omega) y1
                      omega
                  · rw [g4 s z] at hr; exact hr
                · rcases List.mem_cons.mp hs with z | z
                  · rw [z]
                    exact Or.inr ⟨x, Nat.le_refl _, by omega, (g6 x (by omega)).2, by rw [hF3 x (by omega)]; exact l2⟩
                  · rcases hQ1 s z with z | ⟨y, y1, y2, y3, y4⟩
                    · exact Or.inl (by have := g3 s; omega)
                    · exact Or.inr ⟨y, by omega, by omega, by rw [(g6 y y2).2]; exact y3, by rw [hF3 y y2]; exact y4⟩
                · have z0 : y < n2 := by
                    rcases Nat.lt_or_ge y n2 with z | z
                    · exact z
                    · have := g7 y z y2; omega
                  rw [(g6 y z0).2] at y4 ⊢
                  rw [hF3 y z0] at y3
                  by_cases z2 : y = x
                  · rw [z2]; exact List.mem_cons_self ..
                  · refine List.mem_cons_of_mem _ ?_
                    by_cases z : m ≤ y
                    · refine hQ2 y z z0 y3 ?_
                      have z5 := (i5 y z0)
                      rw [y3] at z5
                      rw [← g4 _ z5.2.2]; exact y4
                    · exact absurd y3 (l3 y (by omega) (by omega))
        have K := inner n1 0 v1 r1 F1 O1 n1 Ps (Nat.le_refl _) (by omega) hI hP (fun s hs => Or.inl (hPf s hs)) (fun x x1 x2 => by omega) hfr hb
        exact K
  refine sg_X8_measure_0 hL hk (sp_J7_fill hk (by omega) (fun g hg => ⟨rfl, rfl, sp_J7_fill (zk_161 hL) (by rw [zl_161 hL]; omega) (fun g2 hg2 => ⟨rfl, rfl, fun v3 e3 => ?_⟩)⟩))
  rw [hl] at hg
  rw [zl_161 hL] at hg2
  have f3 : w_fr a v v3 := ⟨fun b b1 b2 b3 b4 b5 => by rw [e3, z_u_ne b2, z_ua_ne b3, z_ua_ne b1], fun j hj => by rw [e3, z_un (by omega), z_uan (by omega), z_uan (by omega)]⟩
  have k1 : ∀ s, s ≤ n_B ρ → v3 a s = 256 := fun s hs => by rw [e3, z_un (by omega), z_uan (by omega), z_uae rfl, hg s (by omega)]
  have k2 : v3 158 7 = 0 := by rw [e3, z_ue rfl rfl]
  have k3 : ∀ f, f < 256 → v3 161 f = -1 := fun f hf => by rw [e3, z_un (by omega), z_uae rfl, hg2 f hf]
  have hR3 := f3.R ha hR
  have hPe : ∀ (r : Nat → Nat) n, n ≤ 321 → r T = 0 → (T = n_B ρ → ∀ e, e < n_E ρ → n_hi ρ κ e = n_B ρ → r (n_lo ρ κ e) ≤ n_w ρ κ e) → w_P ρ κ T 0 r n [] := fun r n q1 q2 q3 => ⟨List.nodup_nil, by rw [List.length_nil]; omega, q2, fun s hs => (by cases hs), fun s _ hr => (by omega), q3⟩
  have w0 : ∀ (F : Nat → Nat) n, w_cl F 0 n = 0 := fun F n => by
    induction n with
    | zero => rfl
    | succ n ih => rw [w_cl, ih, if_neg (by omega)]
  refine ⟨fun c => ?_, fun c => ?_⟩
  · rw [hR3.1.2.1] at c
    have c : T ≠ n_B ρ := fun z => c (by rw [z])
    refine sp_X8_offer (κ := κ) (f := 0) (far := 0) (r := fun s => if s = n_B ρ ∧ T = n_B ρ then 0 else 256) hL ha hk hl hB (w_I0 (F := fun _ => 0) (O := fun _ => 0) (fun s hs => k1 s (by omega)) k2 k3) (by omega) (show T < n_B ρ by omega) (by omega) (fun z => ⟨Or.inr ⟨rfl, rfl⟩, fun z => absurd rfl z⟩) (fun _ _ => rfl) (fun v4 r4 F4 O4 n4 hI4 hg4 _ hn4 hr4 => ⟨rfl, rfl, ?_⟩)
    · have := outer 256 0 v4 r4 F4 O4 n4 [] (by omega) hI4 (hPe r4 n4 (by omega) (by omega) (fun z => absurd z c)) (fun s hs => by cases hs) (f3.tr hg4.1) (by rw [if_neg c, hg4.2]; exact k1 _ (Nat.le_refl _))
      rw [w0] at this
      exact this
  · rw [hR3.1.2.1] at c
    have c : T = n_B ρ := (nI_eq (by omega) (by omega)).mp c
    subst c
    refine sp_X8_offerFromBorder (by omega) hL hV hκ ha hk hl hR3 (fun s hs => k1 s (by omega)) k2 k3 (fun v4 r4 F4 O4 n4 hI4 hf4 hb4 hr4 hn4 hx4 => ⟨rfl, rfl, ?_⟩)
    have := outer 256 0 v4 r4 F4 O4 n4 [] (by omega) hI4 (hPe r4 n4 hn4 hr4 (fun _ => hx4)) (fun s hs => by cases hs) (f3.tr hf4) (by rw [if_pos rfl]; exact hb4)
    rw [w0] at this
    exact this
end ME
