/-! THE CLASS' CLUMPS: rootOf (ways are halved), joinEnds, partAll, markEvents, findOpen -/
def u_ct (lab : Nat → Nat) : Nat → Nat
  | 0 => 0
  | n + 1 => u_ct lab n + (if lab n = n then 1 else 0)
theorem u_ct_1 {lab : Nat → Nat} {x : Nat} (h : lab x = x) : ∀ n, x < n → 1 ≤ u_ct lab n
  | 0, h => by omega
  | n + 1, hx => by
    rw [u_ct]
    by_cases e : n = x
    · rw [e, if_pos h]; omega
    · have := u_ct_1 h n (by omega)
      omega
theorem u_ct_2 {lab : Nat → Nat} {x y : Nat} (h : lab x = x) (h' : lab y = y) (hne : x ≠ y) : ∀ n, x < n → y < n → 2 ≤ u_ct lab n
  | 0, h, _ => by omega
  | n + 1, hx, hy => by
    rw [u_ct]
    by_cases e : n = x
    · have := u_ct_1 h' n (by omega)
      rw [e, if_pos h]
      rw [e] at this
      omega
    · by_cases e2 : n = y
      · have := u_ct_1 h n (by omega)
        rw [e2, if_pos h']
        rw [e2] at this
        omega
      · have := u_ct_2 h h' hne n (by omega) (by omega)
        omega
theorem u_ct_le {lab : Nat → Nat} : ∀ n, u_ct lab n ≤ n
  | 0 => Nat.le_refl _
  | n + 1 => by
    have := u_ct_le (lab := lab) n
    rw [u_ct]
    split <;> omega
theorem u_ct_J {lab lab' : Nat → Nat} {x : Nat} (hx : lab x = x) : ∀ n, (∀ u, u < n → (lab' u = u ↔ lab u = u ∧ u ≠ x)) → u_ct lab' n + (if x < n then 1 else 0) = u_ct lab n
  | 0, _ => rfl
  | n + 1, h => by
    have ih := u_ct_J hx n (fun u hu => h u (by omega))
    rw [u_ct, u_ct]
    have hn := h n (by omega)
    by_cases e : n = x
    · subst e
      rw [if_neg (fun z => (hn.mp z).2 rfl), if_pos hx, if_pos (by omega)]
      rw [if_neg (by omega)] at ih
      omega
    · have e3 : (if lab' n = n then 1 else 0) = (if lab n = n then 1 else 0) := by
        by_cases c : lab n = n
        · rw [if_pos c, if_pos (hn.mpr ⟨c, e⟩)]
        · rw [if_neg c, if_neg (fun z => c (hn.mp z).1)]
      rw [e3]
      by_cases c : x < n
      · have q : x < n + 1 := by omega
        rw [if_pos c] at ih
        rw [if_pos q]; omega
      · have q : ¬ x < n + 1 := by omega
        rw [if_neg c] at ih
        rw [if_neg q]; omega
def u_UF (B : Nat) (ab lab t : Nat → Nat) : Prop := u_lb B lab ∧ ∀ u, u ≤ B → (ab u ≤ B ∧ lab (ab u) = lab u ∧ (ab u = u ↔ lab u = u) ∧ (ab u ≠ u → t u < t (ab u)) ∧ (lab u = u → t u = 108) ∧ (lab u ≠ u → t u + u_ct lab (B + 1) < B + 1))
theorem u_UF_t {B : Nat} {ab lab t : Nat → Nat} {u : Nat} (hB : B ≤ 108) (h : u_UF B ab lab t) (hu : u ≤ B) : t u ≤ 108 := by
  obtain ⟨-, -, -, -, h5, h6⟩ := h.2 u hu
  by_cases c : lab u = u
  · rw [h5 c]; omega
  · have := h6 c; omega
theorem u_UF_h {B : Nat} {ab lab t : Nat → Nat} {x : Nat} (h : u_UF B ab lab t) (hx : x ≤ B) (hn : ab x ≠ x) : u_UF B (p_up ab x (ab (ab x))) lab t ∧ t x < t (ab (ab x)) := by
  obtain ⟨a1, a2, a3, a4, a5, a6⟩ := h.2 x hx
  obtain ⟨b1, b2, b3, b4, b5, b6⟩ := h.2 (ab x) a1
  have ht : t x < t (ab (ab x)) := by
    have := a4 hn
    by_cases c : ab (ab x) = ab x
    · rw [c]; exact this
    · have := b4 c; omega
  refine ⟨⟨h.1, fun u hu => ?_⟩, ht⟩
  by_cases e : u = x
  · subst e
    rw [p_ue rfl]
    refine ⟨b1, b2.trans a2, ⟨fun z => ?_, fun z => absurd (a3.mpr z) hn⟩, fun _ => ht, a5, a6⟩
    rw [z] at ht; omega
  · rw [p_un e]; exact h.2 u hu
theorem u_UF_J {B : Nat} {ab lab t : Nat → Nat} {a b : Nat} (hB : B ≤ 108) (h : u_UF B ab lab t) (ha : a ≤ B) (hb : b ≤ B) (hne : lab a ≠ lab b) : u_UF B (p_up ab (lab a) (lab b)) (u_J lab a b) (p_up t (lab a) (B + 1 - u_ct lab (B + 1))) := by
  obtain ⟨xB, xx⟩ := h.1 a ha
  obtain ⟨yB, yy⟩ := h.1 b hb
  have hc2 := u_ct_2 xx yy hne (B + 1) (by omega) (by omega)
  have hcl := u_ct_le (lab := lab) (B + 1)
  have hr : ∀ u, u < B + 1 → (u_J lab a b u = u ↔ lab u = u ∧ u ≠ lab a) := fun u hu => by
    unfold u_J
    by_cases c : lab u = lab a
    · rw [if_pos c]
      refine ⟨fun z => ?_, fun z => absurd (z.1.symm.trans c) z.2⟩
      rw [← z, yy] at c; exact absurd c.symm hne
    · rw [if_neg c]
      exact ⟨fun z => ⟨z, fun q => c (z.trans q)⟩, fun z => z.1⟩
  have hct := u_ct_J xx (B + 1) hr
  rw [if_pos (by omega)] at hct
  have lx : u_J lab a b (lab a) = lab b := by unfold u_J; rw [xx, if_pos rfl]
  have ly : u_J lab a b (lab b) = lab b := by unfold u_J; rw [yy, if_neg (fun z => hne z.symm)]
  refine ⟨u_J_lb h.1 ha hb, fun u hu => ?_⟩
  obtain ⟨a1, a2, a3, a4, a5, a6⟩ := h.2 u hu
  by_cases e : u = lab a
  · subst e
    rw [p_ue rfl, p_ue rfl, p_un (fun z => hne z.symm)]
    refine ⟨yB, by rw [lx, ly], ⟨fun z => absurd z.symm hne, fun z => ?_⟩, fun _ => ?_, fun z => ?_, fun _ => by omega⟩
    · rw [lx] at z; exact absurd z.symm hne
    · rw [((h.2 (lab b) yB).2.2.2.2.1 yy)]; omega
    · rw [lx] at z; exact absurd z.symm hne
  · rw [p_un e, p_un e]
    refine ⟨a1, u_J_eq a2, a3.trans ⟨fun z => (hr u (by omega)).mpr ⟨z, e⟩, fun z => ((hr u (by omega)).mp z).1⟩, fun z => ?_, fun z => a5 ((hr u (by omega)).mp z).1, fun z => ?_⟩
    · have hnr : lab u ≠ u := fun q => z (a3.mpr q)
      by_cases c : ab u = lab a
      · rw [p_ue c]; have := a6 hnr; omega
      · rw [p_un c]; exact a4 z
    · have hnr : lab u ≠ u := fun q => z ((hr u (by omega)).mpr ⟨q, e⟩)
      have := a6 hnr; omega
theorem u_UF_0 {B : Nat} : u_UF B (fun v => v) (fun v => v) (fun _ => 108) := ⟨fun v hv => ⟨hv, rfl⟩, fun u hu => ⟨hu, rfl, Iff.rfl, fun z => absurd rfl z, fun _ => rfl, fun z => absurd rfl z⟩⟩
theorem u_pr_id {w : Nat → Nat} {x : Nat} : ∀ n, u_pr w (fun v => v) x n = if x < n then w x % 2 else 0
  | 0 => rfl
  | n + 1 => by
    have ih := u_pr_id (w := w) (x := x) n
    rw [u_pr, ih]
    by_cases e : n = x
    · subst e
      rw [if_neg (by omega), if_pos rfl, if_pos (by omega), Nat.zero_add]
    · rw [if_neg e]
      by_cases c : x < n
      · rw [if_pos c, if_pos (by omega)]; omega
      · rw [if_neg c, if_neg (by omega)]
theorem n_ev_mem {ρ : Nat → Nat} {κ y : Nat} : ∀ n, y ∈ n_ev ρ κ n ↔ (y < n ∧ n_is ρ κ y = 1)
  | 0 => by
    refine ⟨fun h => ?_, fun h => by omega⟩
    have h : y ∈ ([] : List Nat) := h
    cases h
  | n + 1 => by
    have e : n_ev ρ κ (n + 1) = n_ev ρ κ n ++ (if n_is ρ κ n = 1 then [n] else []) := rfl
    rw [e, List.mem_append, n_ev_mem n]
    by_cases c : n_is ρ κ n = 1
    · rw [if_pos c, List.mem_singleton]
      refine ⟨fun z => ?_, fun z => ?_⟩
      · rcases z with z | z
        · exact ⟨by omega, z.2⟩
        · rw [z]; exact ⟨by omega, c⟩
      · by_cases q : y = n
        · exact Or.inr q
        · exact Or.inl ⟨by omega, z.2⟩
    · rw [if_neg c]
      refine ⟨fun z => ?_, fun z => ?_⟩
      · rcases z with z | z
        · exact ⟨by omega, z.2⟩
        · cases z
      · refine Or.inl ⟨?_, z.2⟩
        rcases Nat.lt_or_ge y n with q | q
        · exact q
        · have : y = n := by omega
          rw [this] at z; exact absurd z.2 c
theorem n_evs_is {ρ : Nat → Nat} {κ y : Nat} (hy : y < n_B ρ) : (∃ i, i < (n_evs ρ κ).length ∧ (n_evs ρ κ).getD i 0 = y) ↔ n_is ρ κ y = 1 := by
  refine ⟨fun ⟨i, hi, e⟩ => ?_, fun z => l_idx ((n_ev_mem (n_B ρ)).mpr ⟨hy, z⟩)⟩
  have := (n_ev_mem (ρ := ρ) (κ := κ) (n_B ρ)).mp (l_mem hi)
  have e : (n_ev ρ κ (n_B ρ)).getD i 0 = y := e
  rw [e] at this; exact this.2
section RT
variable {G : z_G} {d : Nat} {S : z_Shp} {v v0 : z_Dat} {Q : Option Value → z_Shp → z_Dat → Prop} {ρ : Nat → Nat} {κ B : Nat} {ab lab t : Nat → Nat}
theorem sp_X1_rootOf {u : Nat} (hL : z_L S) (hB : B ≤ 108) (hU : u_UF B ab lab t) (ha : ∀ u, u ≤ B → v 190 u = nI (ab u)) (hu : u ≤ B)
    (h : ∀ v1 ab1, u_UF B ab1 lab t → (∀ u, u ≤ B → v1 190 u = nI (ab1 u)) → (∀ b, b ≠ 190 → v1 b = v b) → Q (some (.int (nI (lab u)))) S v1) : z_J G d mX1_rootOf (0, [.ref 186, .int (nI u), .null, .null], [], S, v) Q := by
  have key : ∀ m n x v1 ab1, n + m = 109 → n ≤ t x → x ≤ B → lab x = lab u → u_UF B ab1 lab t → (∀ u, u ≤ B → v1 190 u = nI (ab1 u)) → (∀ b, b ≠ 190 → v1 b = v b) → z_J G d mX1_rootOf (4, [.ref 186, .int (nI u), .int (nI x), .int (nI n)], [], S, v1) Q := by
    intro m
    induction m with
    | zero =>
      intro n x v1 ab1 hn ht hx _ U1 _ _
      have := u_UF_t hB U1 hx
      omega
    | succ m ih =>
      intro n x v1 ab1 hn ht hx hl U1 k1 k2
      obtain ⟨a1, a2, a3, a4, a5, a6⟩ := U1.2 x hx
      have hin : vp_in (nI x) 109 := vp_in_nI (by omega) (by omega)
      refine sg_X1_rootOf_4 hL ⟨fun c => absurd c (nI_nlt (a := 108) (by omega) (by omega)), fun _ => ?_⟩
      rw [nI_clamp (n := x) (by omega), k1 x hx, nI_clamp (n := ab1 x) (by omega), k1 (ab1 x) a1, nI_1]
      refine ⟨hin, fun c => ?_, fun c => ⟨hin, vp_in_nI (by omega) (by omega), hin, fun v2 e2 => ⟨hin, ?_⟩⟩⟩
      · have c := (nI_eq (by omega) (by omega)).mp c
        have := h v1 ab1 U1 k1 k2
        rw [← hl, a3.mp c] at this
        exact this
      · have c : ab1 x ≠ x := fun z => c (by rw [z])
        obtain ⟨U2, t2⟩ := u_UF_h U1 hx c
        rw [show v2 190 x = nI (ab1 (ab1 x)) by rw [e2, z_ue rfl rfl]]
        refine ih (n + 1) (ab1 (ab1 x)) v2 _ (by omega) (by omega) (U1.2 (ab1 x) a1).1 ?_ U2 (fun w hw => ?_) (fun b hb => by rw [e2, z_u_ne hb]; exact k2 b hb)
        · rw [(U1.2 (ab1 x) a1).2.1, a2]; exact hl
        · by_cases z : w = x
          · rw [e2, z_ue rfl z, p_ue z]
          · rw [e2, z_un (Or.inr z), p_un z]; exact k1 w hw
  exact sg_X1_rootOf_0 (key 109 0 u v ab (by omega) (by omega) hu rfl hU ha (fun _ _ => rfl))
theorem sp_X1_joinEnds {e : Nat} (hd : 1 ≤ d) (hL : z_L S) (hV : p_V ρ) (hκ : κ < 2) (hR : c_R ρ κ v) (he : e < n_E ρ) (hU : u_UF (n_B ρ) ab lab t) (ha : ∀ u, u ≤ n_B ρ → v 190 u = nI (ab u))
    (h0 : ∀ v1 ab1, lab (n_lo ρ κ e) = lab (n_hi ρ κ e) → u_UF (n_B ρ) ab1 lab t → (∀ u, u ≤ n_B ρ → v1 190 u = nI (ab1 u)) → (∀ b, b ≠ 190 → v1 b = v b) → Q (some (.int 0)) S v1)
    (h1 : ∀ v1 ab1 t1, lab (n_lo ρ κ e) ≠ lab (n_hi ρ κ e) → u_UF (n_B ρ) ab1 (u_J lab (n_lo ρ κ e) (n_hi ρ κ e)) t1 → (∀ u, u ≤ n_B ρ → v1 190 u = nI (ab1 u)) → (∀ y, v1 191 y = if y = lab (n_hi ρ κ e) then v 191 y ^^^ v 191 (lab (n_lo ρ κ e)) else v 191 y) → (∀ b, b ≠ 190 → b ≠ 191 → v1 b = v b) → Q (some (.int 1)) S v1) :
    z_J G d mX1_joinEnds (0, [.ref 186, .ref 149, .int (nI e), .null, .null], [], S, v) Q := by
  obtain ⟨d, rfl⟩ : ∃ e, d = e + 1 := ⟨d - 1, by omega⟩
  have hBn := n_B_le hV.1 hV.2.1
  have hE := n_E_le hV.1 hV.2.1
  obtain ⟨q1, q2, q3⟩ := n_ends hV.1 hκ he
  have hin : vp_in (nI e) 321 := vp_in_nI (by omega) (by omega)
  obtain ⟨r1, r2, r3⟩ := hR.2.1 e he
  have xB := (hU.1 _ (show n_lo ρ κ e ≤ n_B ρ by omega)).1
  have yB := (hU.1 _ q3).1
  refine sg_X1_joinEnds_0 hL ⟨hin, ?_⟩
  rw [nI_clamp (by omega), r1]
  refine sp_X1_rootOf hL hBn hU ha (by omega) (fun v1 ab1 U1 k1 k2 => ⟨_, rfl, rfl, hin, ?_⟩)
  rw [k2 151 (by omega), r2]
  refine sp_X1_rootOf hL hBn U1 k1 q3 (fun v2 ab2 U2 g1 g2 => ⟨_, rfl, rfl, fun c => ?_, fun c => ?_⟩)
  · have hne : lab (n_lo ρ κ e) ≠ lab (n_hi ρ κ e) := fun z => c (by rw [z])
    have hx : vp_in (nI (lab (n_lo ρ κ e))) 109 := vp_in_nI (by omega) (by omega)
    have hy : vp_in (nI (lab (n_hi ρ κ e))) 109 := vp_in_nI (by omega) (by omega)
    refine ⟨hx, fun v3 e3 => ⟨hy, hx, hy, fun v4 e4 => ?_⟩⟩
    rw [nI_clamp (by omega)] at e3
    rw [nI_clamp (n := lab (n_hi ρ κ e)) (by omega), nI_clamp (n := lab (n_lo ρ κ e)) (by omega)] at e4
    have w3 : ∀ b, b ≠ 190 → v3 b = v b := fun b hb => by rw [e3, z_u_ne hb, g2 b hb, k2 b hb]
    refine h1 v4 _ _ hne (u_UF_J hBn U2 (by omega) q3 hne) (fun u hu => ?_) (fun y => ?_) (fun b b1 b2 => by rw [e4, z_u_ne b2]; exact w3 b b1)
    · rw [e4, z_un (by omega), e3]
      by_cases z : u = lab (n_lo ρ κ e)
      · rw [z_ue rfl z, p_ue z]
      · rw [z_un (Or.inr z), p_un z]; exact g1 u hu
    · rw [e4]
      by_cases z : y = lab (n_hi ρ κ e)
      · rw [z_ue rfl z, if_pos z, w3 191 (by omega), z]
      · rw [z_un (Or.inr z), if_neg z, w3 191 (by omega)]
  · have c := (nI_eq (by omega) (by omega)).mp c
    exact h0 v2 ab2 c U2 g1 (fun b hb => (g2 b hb).trans (k2 b hb))
theorem sp_X1_partAll (hL : z_L S) (hB : B ≤ 108) (h1 : v 149 1 = nI B) (h : ∀ v1, (∀ u, u ≤ B → v1 190 u = nI u) → (∀ b, b ≠ 190 → v1 b = v b) → Q none S v1) : z_J G d mX1_partAll (0, [.ref 186, .ref 149, .null], [], S, v) Q := by
  have key : ∀ j n v1, n + j = B + 1 → (∀ u, u < n → v1 190 u = nI u) → (∀ b, b ≠ 190 → v1 b = v b) → z_J G d mX1_partAll (2, [.ref 186, .ref 149, .int (nI n)], [], S, v1) Q := by
    intro j
    induction j with
    | zero =>
      intro n v1 hn k1 k2
      refine sg_X1_partAll_2 hL ⟨fun _ => h v1 (fun u hu => k1 u (by omega)) k2, fun c => absurd ?_ c⟩
      rw [k2 149 (by omega), h1]; exact nI_lt (by omega) (by omega)
    | succ j ih =>
      intro n v1 hn k1 k2
      refine sg_X1_partAll_2 hL ⟨fun c => absurd c (by rw [k2 149 (by omega), h1]; exact nI_nlt (by omega) (by omega)), fun _ => ⟨vp_in_nI (by omega) (by omega), fun v2 e2 => ?_⟩⟩
      rw [nI_clamp (by omega)] at e2
      rw [nI_1]
      refine ih (n + 1) v2 (by omega) (fun u hu => ?_) (fun b hb => by rw [e2, z_u_ne hb]; exact k2 b hb)
      by_cases z : u = n
      · rw [e2, z_ue rfl z, z]
      · rw [e2, z_un (Or.inr z)]; exact k1 u (by omega)
  exact sg_X1_partAll_0 (key (B + 1) 0 v (Nat.zero_add _) (fun u hu => by omega) (fun _ _ => rfl))
/-- events as a row of 0 and 1 -/
def n_e1 (ρ : Nat → Nat) (κ y : Nat) : Nat := if y < n_B ρ then n_is ρ κ y else 0
theorem n_e1_le {ρ : Nat → Nat} {κ y : Nat} : n_e1 ρ κ y ≤ 1 := by
  unfold n_e1
  split
  · have := n_is_lt (ρ := ρ) (κ := κ) y; omega
  · omega
theorem sp_X1_markEvents (hd : 1 ≤ d) (hL : z_L S) (hV : p_V ρ) (hE : c_Ev ρ κ v (n_B ρ)) (h : ∀ v1, (∀ y, y ≤ n_B ρ → v1 191 y = nI (n_e1 ρ κ y)) → (∀ b, b ≠ 191 → v1 b = v b) → Q none S v1) : z_J G d mX1_markEvents (0, [.ref 186, .ref 149, .null], [], S, v) Q := by
  obtain ⟨d, rfl⟩ : ∃ e, d = e + 1 := ⟨d - 1, by omega⟩
  have hBn := n_B_le hV.1 hV.2.1
  have hlen := n_evs_len (ρ := ρ) (κ := κ)
  have e3 : v 149 3 = nI (n_evs ρ κ).length := hE.1
  have hev : ∀ i, i < (n_evs ρ κ).length → v 157 i = nI ((n_evs ρ κ).getD i 0) := fun i hi => (hE.2 i hi).1
  have key : ∀ j i v1, i + j = (n_evs ρ κ).length → (∀ y, y ≤ n_B ρ → ((∃ i', i' < i ∧ (n_evs ρ κ).getD i' 0 = y) → v1 191 y = 1) ∧ ((¬ ∃ i', i' < i ∧ (n_evs ρ κ).getD i' 0 = y) → v1 191 y = 0)) → (∀ b, b ≠ 191 → v1 b = v b) → z_J G (d + 1) mX1_markEvents (10, [.ref 186, .ref 149, .int (nI i)], [], S, v1) Q := by
    intro j
    induction j with
    | zero =>
      intro i v1 hi k1 k2
      have hi : i = (n_evs ρ κ).length := by omega
      subst hi
      refine sg_X1_markEvents_10 hL ⟨fun _ => h v1 (fun y hy => ?_) k2, fun c => absurd (by rw [k2 149 (by omega), e3]; exact nI_le (Nat.le_refl _) (by omega)) c⟩
      unfold n_e1
      by_cases c : y < n_B ρ
      · rw [if_pos c]
        have hlt := n_is_lt (ρ := ρ) (κ := κ) y
        by_cases z : n_is ρ κ y = 1
        · rw [z]; exact (k1 y hy).1 ((n_evs_is c).mpr z)
        · rw [show n_is ρ κ y = 0 by omega]; exact (k1 y hy).2 (fun q => z ((n_evs_is c).mp q))
      · rw [if_neg c]
        refine (k1 y hy).2 (fun ⟨i', q1, q2⟩ => ?_)
        have := n_evs_lt q1
        omega
    | succ j ih =>
      intro i v1 hi k1 k2
      have hlt := n_evs_lt (ρ := ρ) (κ := κ) (i := i) (by omega)
      refine sg_X1_markEvents_10 hL ⟨fun c => absurd c (by rw [k2 149 (by omega), e3]; exact nI_ge (by omega) (by omega)), fun _ => ?_⟩
      rw [nI_clamp (n := i) (by omega), k2 157 (by omega), hev i (by omega), nI_clamp (n := (n_evs ρ κ).getD i 0) (by omega), nI_1]
      refine ⟨vp_in_nI (by omega) (by omega), vp_in_nI (by omega) (by omega), fun v2 e2 => ?_⟩
      refine ih (i + 1) v2 (by omega) (fun y hy => ?_) (fun b hb => by rw [e2, z_u_ne hb]; exact k2 b hb)
      by_cases z : y = (n_evs ρ κ).getD i 0
      · exact ⟨fun _ => by rw [e2, z_ue rfl z], fun q => absurd ⟨i, by omega, z.symm⟩ q⟩
      · rw [e2, z_un (Or.inr z)]
        refine ⟨fun ⟨i', q1, q2⟩ => (k1 y hy).1 ⟨i', ?_, q2⟩, fun q => (k1 y hy).2 (fun ⟨i', q1, q2⟩ => q ⟨i', by omega, q2⟩)⟩
        rcases Nat.lt_or_ge i' i with w | w
        · exact w
        · have : i' = i := by omega
          rw [this] at q2; exact absurd q2.symm z
  refine sg_X1_markEvents_0 hL (sp_J7_fill (zk_191 hL) (by rw [zl_191 hL]; omega) (fun g hg => ⟨rfl, rfl, ?_⟩))
  refine key _ 0 _ (Nat.zero_add _) (fun y hy => ⟨fun ⟨i', q, _⟩ => by omega, fun _ => ?_⟩) (fun b hb => by rw [z_ua_ne hb])
  rw [z_uae rfl, hg y (by rw [zl_191 hL]; omega)]
/-- what is odd is kept at the roots -/
def u_od (ρ : Nat → Nat) (κ : Nat) (lab : Nat → Nat) (v : z_Dat) : Prop := ∀ y, y ≤ n_B ρ → lab y = y → v 191 y = nI (u_pr (n_is ρ κ) lab y (n_B ρ))
theorem u_od_0 {v : z_Dat} (h : ∀ y, y ≤ n_B ρ → v 191 y = nI (n_e1 ρ κ y)) : u_od ρ κ (fun v => v) v := fun y hy _ => by
  rw [h y hy, u_pr_id]
  unfold n_e1
  by_cases c : y < n_B ρ
  · rw [if_pos c, if_pos c, Nat.mod_eq_of_lt (n_is_lt y)]
  · rw [if_neg c, if_neg c]
theorem u_od_J {v v1 : z_Dat} {a b : Nat} (hlb : u_lb (n_B ρ) lab) (ha : a ≤ n_B ρ) (hb : b ≤ n_B ρ) (hne : lab a ≠ lab b) (h : u_od ρ κ lab v) (h1 : ∀ y, v1 191 y = if y = lab b then v 191 y ^^^ v 191 (lab a) else v 191 y) : u_od ρ κ (u_J lab a b) v1 := fun y hy hl => by
  obtain ⟨xB, xx⟩ := hlb a ha
  obtain ⟨yB, yy⟩ := hlb b hb
  rw [h1 y]
  by_cases z : y = lab b
  · rw [if_pos z, z, h _ yB yy, h _ xB xx, u_pr_J hne, nx_xor]
    have p1 := u_pr_lt (w := n_is ρ κ) (lab := lab) (x := lab a) (n_B ρ)
    have p2 := u_pr_lt (w := n_is ρ κ) (lab := lab) (x := lab b) (n_B ρ)
    generalize u_pr (n_is ρ κ) lab (lab a) (n_B ρ) = p at *
    generalize u_pr (n_is ρ κ) lab (lab b) (n_B ρ) = q at *
    rcases (show p = 0 ∨ p = 1 by omega) with rfl | rfl <;> rcases (show q = 0 ∨ q = 1 by omega) with rfl | rfl <;> rfl
  · rw [if_neg z]
    have hy1 : lab y ≠ lab a := fun q => by
      have e : u_J lab a b y = lab b := if_pos q
      rw [e] at hl; exact z hl.symm
    have hy2 : lab y = y := by
      have e : u_J lab a b y = lab y := if_neg hy1
      rw [e] at hl; exact hl
    rw [h y hy hy2]
    congr 1
    refine u_pr_c _ (fun u _ => ?_)
    unfold u_J
    by_cases c : lab u = lab a
    · rw [if_pos c]
      exact ⟨fun q => absurd (hy2.trans (q.symm.trans c)) hy1, fun q => absurd q.symm z⟩
    · rw [if_neg c]
def u_or (ρ : Nat → Nat) (κ : Nat) (lab : Nat → Nat) : Nat → Nat
  | 0 => 0
  | n + 1 => u_or ρ κ lab n ||| u_o ρ κ lab n
theorem u_or_ok : ∀ n, u_or ρ κ lab n ≤ 1 ∧ (u_or ρ κ lab n = 1 ↔ ∃ w, w < n ∧ u_o ρ κ lab w = 1)
  | 0 => ⟨Nat.zero_le _, fun h => (by cases h), fun ⟨w, h, _⟩ => (by omega)⟩
  | n + 1 => by
    obtain ⟨h1, h2⟩ := u_or_ok n
    have h3 := u_o_le (ρ := ρ) (κ := κ) (lab := lab) (v := n)
    rw [u_or]
    rcases (show u_o ρ κ lab n = 0 ∨ u_o ρ κ lab n = 1 by omega) with z | z
    · rw [z, Nat.or_zero]
      refine ⟨h1, fun q => ?_, fun ⟨w, q1, q2⟩ => h2.mpr ⟨w, ?_, q2⟩⟩
      · obtain ⟨w, q1, q2⟩ := h2.mp q
        exact ⟨w, by omega, q2⟩
      · rcases Nat.lt_or_ge w n with c | c
        · exact c
        · have : w = n := by omega
          rw [this, z] at q2; cases q2
    · have e : u_or ρ κ lab n ||| 1 = 1 := by
        rcases (show u_or ρ κ lab n = 0 ∨ u_or ρ κ lab n = 1 by omega) with q | q <;> rw [q] <;> rfl
      rw [z, e]
      exact ⟨by omega, fun _ => ⟨n, by omega, z⟩, fun _ => rfl⟩
theorem sp_X1_findOpen (hd : 1 ≤ d) (hL : z_L S) (hV : p_V ρ) (hR : c_R ρ κ v) (hU : u_UF (n_B ρ) ab lab t) (ha : ∀ u, u ≤ n_B ρ → v 190 u = nI (ab u)) (ho : u_od ρ κ lab v)
    (h : ∀ v1 ab1 y, u_UF (n_B ρ) ab1 lab t → (∀ u, u ≤ n_B ρ → v1 190 u = nI (ab1 u)) → (∀ u, u ≤ n_B ρ → v1 192 u = nI (u_o ρ κ lab u)) → (∀ b, b ≠ 190 → b ≠ 192 → v1 b = v b) → (u_any ρ κ lab → y = 1) → (¬ u_any ρ κ lab → y = 0) → Q (some (.int y)) S v1) : z_J G d mX1_findOpen (0, [.ref 186, .ref 149, .null, .null, .null, .null], [], S, v) Q := by
  obtain ⟨d, rfl⟩ : ∃ e, d = e + 1 := ⟨d - 1, by omega⟩
  have hBn := n_B_le hV.1 hV.2.1
  have hlB := hU.1 _ (Nat.le_refl (n_B ρ))
  refine sg_X1_findOpen_0 hL ?_
  rw [hR.1.2.1]
  refine sp_X1_rootOf hL hBn hU ha (Nat.le_refl _) (fun v1 ab1 U1 k1 k2 => ⟨_, rfl, rfl, ?_⟩)
  have key : ∀ j n v2 ab2, n + j = n_B ρ → u_UF (n_B ρ) ab2 lab t → (∀ u, u ≤ n_B ρ → v2 190 u = nI (ab2 u)) → (∀ u, u < n → v2 192 u = nI (u_o ρ κ lab u)) → (∀ b, b ≠ 190 → b ≠ 192 → v2 b = v b) →
      z_J G (d + 1) mX1_findOpen (14, [.ref 186, .ref 149, .int (nI (lab (n_B ρ))), .int (nI (u_or ρ κ lab n)), .int (nI n), .null], [], S, v2) Q := by
    intro j
    induction j with
    | zero =>
      intro n v2 ab2 hn U2 g1 g2 g3
      have hn : n = n_B ρ := by omega
      subst hn
      have e0 : v2 149 0 = nI (n_B ρ) := by rw [g3 149 (by omega) (by omega)]; exact hR.1.1
      have e1 : v2 149 1 = nI (n_B ρ) := by rw [g3 149 (by omega) (by omega)]; exact hR.1.2.1
      obtain ⟨o1, o2⟩ := u_or_ok (ρ := ρ) (κ := κ) (lab := lab) (n_B ρ)
      refine sg_X1_findOpen_14 hL ⟨fun _ => ?_, fun c => absurd (by rw [e0]; exact nI_le (Nat.le_refl _) (by omega)) c⟩
      rw [e1, nI_clamp (by omega)]
      refine ⟨vp_in_nI (by omega) (by omega), fun v3 e3 => ?_⟩
      have fin : ∀ y, (u_any ρ κ lab → y = 1) → (¬ u_any ρ κ lab → y = 0) → Q (some (.int y)) S v3 := fun y y1 y2 => by
        refine h v3 ab2 y U2 (fun u hu => by rw [e3, z_un (by omega)]; exact g1 u hu) (fun u hu => ?_) (fun b b1 b2 => by rw [e3, z_u_ne b2]; exact g3 b b1 b2) y1 y2
        by_cases z : u = n_B ρ
        · rw [e3, z_ue rfl z, z]
          unfold u_o
          rw [if_pos rfl]; rfl
        · rw [e3, z_un (Or.inr z)]; exact g2 u (by omega)
      refine ⟨fun c => fin 0 (fun q => absurd ?_ c) (fun _ => rfl), fun c => fin 1 (fun _ => rfl) (fun q => absurd (o2.mp ((nI_eq (b := 1) (by omega) (by omega)).mp c)) q)⟩
      rw [o2.mpr q]; rfl
    | succ j ih =>
      intro n v2 ab2 hn U2 g1 g2 g3
      have e0 : v2 149 0 = nI (n_B ρ) := by rw [g3 149 (by omega) (by omega)]; exact hR.1.1
      refine sg_X1_findOpen_14 hL ⟨fun c => absurd c (by rw [e0]; exact nI_ge (by omega) (by omega)), fun _ => ?_⟩
      refine sp_X1_rootOf hL hBn U2 g1 (by omega) (fun v3 ab3 U3 f1 f2 => ⟨_, rfl, rfl, ?_⟩)
      have hln := hU.1 n (by omega)
      have hin : vp_in (nI n) 109 := vp_in_nI (by omega) (by omega)
      have nx : ∀ v4 : z_Dat, v4 = z_u v3 192 n (nI (u_o ρ κ lab n)) → z_J G (d + 1) mX1_findOpen (14, [.ref 186, .ref 149, .int (nI (lab (n_B ρ))), .int (nI (u_or ρ κ lab n) ||| v4 192 (nI n).toNatClampNeg), .int (nI n + 1), .null], [], S, v4) Q := fun v4 e4 => by
        rw [nI_clamp (by omega), show v4 192 n = nI (u_o ρ κ lab n) by rw [e4, z_ue rfl rfl], zb_or, nI_1]
        refine ih (n + 1) v4 ab3 (by omega) U3 (fun u hu => by rw [e4, z_un (by omega)]; exact f1 u hu) (fun u hu => ?_) (fun b b1 b2 => by rw [e4, z_u_ne b2, f2 b b1]; exact g3 b b1 b2)
        by_cases z : u = n
        · rw [e4, z_ue rfl z, z]
        · rw [e4, z_un (Or.inr z), f2 192 (by omega)]; exact g2 u (by omega)
      refine ⟨fun c => ⟨vp_in_nI (by omega) (by omega), hin, fun v4 e4 => ⟨hin, nx v4 ?_⟩⟩, fun c => ⟨hin, fun v4 e4 => ⟨hin, nx v4 ?_⟩⟩⟩
      · rw [nI_clamp (n := n) (by omega), nI_clamp (n := lab n) (by omega), f2 191 (by omega), g3 191 (by omega) (by omega), ho (lab n) hln.1 hln.2] at e4
        rw [e4]
        unfold u_o
        rw [if_neg (fun z => c (by rw [z]))]
      · rw [nI_clamp (n := n) (by omega)] at e4
        have c := (nI_eq (by omega) (by omega)).mp c
        rw [e4]
        unfold u_o
        rw [if_pos c]; rfl
  exact key (n_B ρ) 0 v1 ab1 (Nat.zero_add _) U1 k1 (fun u hu => by omega) (fun b b1 _ => k2 b b1)
end RT
