/-! THE FIRST SHORTEST WAY, edge by edge: edgeFrom, walk, seek; leads, laysWay -/
def n_oth (ρ : Nat → Nat) (κ e s : Nat) : Nat := if n_lo ρ κ e = s then n_hi ρ κ e else n_lo ρ κ e
/-- an edge at s leads nearer to T by its weight -/
def n_gd (ρ : Nat → Nat) (κ T s e : Nat) : Prop := e < n_E ρ ∧ (n_lo ρ κ e = s ∨ n_hi ρ κ e = s) ∧ n_us ρ κ T e ∧ n_ds ρ κ T (n_oth ρ κ e s) + n_w ρ κ e = n_ds ρ κ T s
noncomputable def n_fe (ρ : Nat → Nat) (κ T s : Nat) : Nat := Classical.epsilon (fun e => n_gd ρ κ T s e ∧ ∀ e', e' < e → ¬ n_gd ρ κ T s e')
noncomputable def n_wy (ρ : Nat → Nat) (κ T : Nat) : Nat → Nat → List Nat
  | 0, _ => []
  | k + 1, s => if s = T then [] else n_fe ρ κ T s :: n_wy ρ κ T k (n_oth ρ κ (n_fe ρ κ T s) s)
theorem n_min {P : Nat → Prop} : ∀ n, P n → ∃ e, P e ∧ ∀ e', e' < e → ¬ P e' := by
  intro n
  induction n using Nat.strongRecOn with
  | ind n ih =>
    intro h
    by_cases c : ∃ m, m < n ∧ P m
    · obtain ⟨m, h1, h2⟩ := c
      exact ih m h1 h2
    · exact ⟨n, h, fun e' h1 h2 => c ⟨e', h1, h2⟩⟩
section WY
variable {ρ : Nat → Nat} {κ T s : Nat}
theorem n_fe_ok (hV : p_V ρ) (hκ : κ < 2) (hD : n_isD ρ κ T (n_ds ρ κ T)) (hs : s < n_B ρ) (hne : s ≠ T) : n_gd ρ κ T s (n_fe ρ κ T s) ∧ ∀ e', e' < n_fe ρ κ T s → ¬ n_gd ρ κ T s e' := by
  refine Classical.epsilon_spec (p := fun e => n_gd ρ κ T s e ∧ ∀ e', e' < e → ¬ n_gd ρ κ T s e') ?_
  obtain ⟨e, he, hu, h2⟩ := hD.2.2 s hs hne
  obtain ⟨q1, q2, q3⟩ := n_ends hV.1 hκ he
  obtain ⟨d1, d2⟩ := hD.2.1 e he hu
  refine n_min e ⟨he, ?_, hu, ?_⟩
  · rcases h2 with z | z
    · exact Or.inl z.1
    · exact Or.inr z.1
  · unfold n_oth
    rcases h2 with ⟨z1, z2⟩ | ⟨z1, z2⟩
    · rw [if_pos z1]
      rw [z1] at d1
      omega
    · rw [if_neg (by omega)]
      have d2 := d2 (by omega)
      rw [z1] at d2
      omega
theorem n_fe_eq {e : Nat} (hV : p_V ρ) (hκ : κ < 2) (hD : n_isD ρ κ T (n_ds ρ κ T)) (hs : s < n_B ρ) (hne : s ≠ T) (h1 : n_gd ρ κ T s e) (h2 : ∀ e', e' < e → ¬ n_gd ρ κ T s e') : e = n_fe ρ κ T s := by
  obtain ⟨a, b⟩ := n_fe_ok hV hκ hD hs hne
  rcases Nat.lt_trichotomy e (n_fe ρ κ T s) with z | z | z
  · exact absurd h1 (b e z)
  · exact z
  · exact absurd a (h2 _ z)
theorem n_gd_to {e : Nat} (hV : p_V ρ) (hκ : κ < 2) (hs : s < n_B ρ) (h : n_gd ρ κ T s e) : (n_oth ρ κ e s < n_B ρ ∨ n_oth ρ κ e s = T) ∧ n_ds ρ κ T (n_oth ρ κ e s) < n_ds ρ κ T s := by
  obtain ⟨he, hi, hu, hw⟩ := h
  have := n_wt (e := e) hV hκ
  obtain ⟨q1, q2, q3⟩ := n_ends hV.1 hκ he
  refine ⟨?_, by omega⟩
  unfold n_oth
  by_cases z : n_lo ρ κ e = s
  · rw [if_pos z]
    rcases hu with u | u
    · left; omega
    · omega
  · rw [if_neg z]; left; exact q2
/-- a row whose border is far off says what n_gd asks -/
theorem n_ck {e big : Nat} {x : Nat → Nat} (hV : p_V ρ) (hκ : κ < 2) (hT : T ≤ n_B ρ) (hD : n_isD ρ κ T (n_ds ρ κ T)) (hs : s < n_B ρ) (he : e < n_E ρ) (hi : n_lo ρ κ e = s ∨ n_hi ρ κ e = s) (hb : 120 < big) (hx : ∀ u, u < n_B ρ → x u = n_ds ρ κ T u) (hxB : x (n_B ρ) = if T = n_B ρ then 0 else big) : x (n_oth ρ κ e s) + n_w ρ κ e = x s ↔ n_gd ρ κ T s e := by
  obtain ⟨q1, q2, q3⟩ := n_ends hV.1 hκ he
  have hbd := n_bd hV hκ hT hD.1 hD.2.1 s hs
  rw [hx s hs]
  by_cases z : n_oth ρ κ e s = n_B ρ
  · have z1 : n_lo ρ κ e = s ∧ n_hi ρ κ e = n_B ρ := by
      unfold n_oth at z
      by_cases y : n_lo ρ κ e = s
      · rw [if_pos y] at z; exact ⟨y, z⟩
      · rw [if_neg y] at z; omega
    by_cases t : T = n_B ρ
    · rw [z, hxB, if_pos t]
      have h0 : n_ds ρ κ T (n_B ρ) = 0 := by rw [← t]; exact hD.1
      constructor
      · exact fun h => ⟨he, hi, Or.inr t, by rw [z, h0]; exact h⟩
      · rintro ⟨_, _, _, h⟩
        rw [z, h0] at h; exact h
    · rw [z, hxB, if_neg t]
      constructor
      · intro h; omega
      · rintro ⟨_, _, u, _⟩
        rcases u with u | u
        · exact absurd z1.2 u
        · exact absurd u t
  · have z2 : n_oth ρ κ e s < n_B ρ := by
      unfold n_oth at z ⊢
      by_cases y : n_lo ρ κ e = s
      · rw [if_pos y] at z ⊢; omega
      · rw [if_neg y]; exact q2
    rw [hx _ z2]
    constructor
    · refine fun h => ⟨he, hi, Or.inl (fun y => ?_), h⟩
      unfold n_oth at z
      by_cases y2 : n_lo ρ κ e = s
      · rw [if_pos y2] at z; exact z y
      · have := hi.resolve_left y2; omega
    · exact fun h => h.2.2.2
end WY
theorem l_srt {l : List Nat} (h : l.Pairwise (· < ·)) {i j : Nat} (hi : i < l.length) (hj : j < l.length) (hlt : l.getD i 0 < l.getD j 0) : i < j := by
  rcases Nat.lt_trichotomy i j with z | z | z
  · exact z
  · subst z; omega
  · have := List.pairwise_iff_getElem.mp h j i hj hi z
    rw [List.getD_eq_getElem?_getD, List.getD_eq_getElem?_getD, List.getElem?_eq_getElem hi, List.getElem?_eq_getElem hj] at hlt
    simp only [Option.getD_some] at hlt
    omega
section WC
variable {G : z_G} {d : Nat} {S : z_Shp} {v v0 : z_Dat} {Q : Option Value → z_Shp → z_Dat → Prop} {κ T a : Nat} {ρ : Nat → Nat}
/-- the class' row of distances -/
def c_D (ρ : Nat → Nat) (κ T a : Nat) (v : z_Dat) : Prop := (∀ s, s < n_B ρ → v a s = nI (n_ds ρ κ T s)) ∧ v a (n_B ρ) = (if T = n_B ρ then 0 else 256)
theorem sp_X8_edgeFrom {s : Nat} (hL : z_L S) (hV : p_V ρ) (hκ : κ < 2) (hk : z_k S a = 21) (hl : z_l S a = 109) (hR : c_R ρ κ v) (hT : T ≤ n_B ρ) (hD : n_isD ρ κ T (n_ds ρ κ T)) (hA : c_D ρ κ T a v) (hs : s < n_B ρ) (hne : s ≠ T)
    (h : Q (some (.int (nI (n_fe ρ κ T s)))) S v) : z_J G (d + 1) mX8_edgeFrom (0, [.ref 149, .int (nI s), .ref a, .null, .null], [], S, v) Q := by
  have hB := n_B_le hV.1 hV.2.1
  have hE := n_E_le hV.1 hV.2.1
  have cs : (nI s).toNatClampNeg = s := nI_clamp (by omega)
  have hlen := n_nr_len (s := s) hV.1 hκ
  have hbd := n_bd hV hκ hT hD.1 hD.2.1
  have hfe := n_fe_ok hV hκ hD hs hne
  let x : Nat → Nat := fun u => if u < n_B ρ then n_ds ρ κ T u else (if T = n_B ρ then 0 else 256)
  have hx : ∀ u, u < n_B ρ → x u = n_ds ρ κ T u := fun u hu => if_pos hu
  have hxB : x (n_B ρ) = if T = n_B ρ then 0 else 256 := if_neg (by omega)
  have hxv : ∀ u, u ≤ n_B ρ → v a u = nI (x u) ∧ x u ≤ 256 := fun u hu => by
    by_cases z : u = n_B ρ
    · rw [z, hxB, hA.2]
      split
      · exact ⟨rfl, by omega⟩
      · exact ⟨rfl, by omega⟩
    · have z : u < n_B ρ := by omega
      rw [hx u z]
      exact ⟨hA.1 u z, by have := hbd u z; omega⟩
  have key : ∀ j i, i + j = (n_nr ρ κ s).length → (∀ i', i' < i → ¬ n_gd ρ κ T s ((n_nr ρ κ s).getD i' 0)) → z_J G (d + 1) mX8_edgeFrom (2, [.ref 149, .int (nI s), .ref a, .int (nI i), .null], [], S, v) Q := by
    intro j
    induction j with
    | zero =>
      intro i hij hno
      exfalso
      obtain ⟨i', h1, h2⟩ := l_idx ((n_mem hV.1 hκ hfe.1.1 hs).mpr hfe.1.2.1)
      exact hno i' (by omega) (by rw [h2]; exact hfe.1)
    | succ j ih =>
      intro i hij hno
      have hi : i < (n_nr ρ κ s).length := by omega
      have e6 : nI s * 6 + nI i = nI (s * 6 + i) := by rw [show (6 : Int32) = nI 6 from rfl, pk_mul, nI_add]
      have hee := n_nr_lt (κ := κ) hV.1 hs _ (l_mem hi)
      have hmm := (n_mem hV.1 hκ hee hs).mp (l_mem hi)
      have h154 := (hR.2.2 s hs).2 i hi
      have hsm : ∀ e', n_gd ρ κ T s e' → e' < (n_nr ρ κ s).getD i 0 → False := fun e' g1 g2 => by
        obtain ⟨i', h1, h2⟩ := l_idx ((n_mem hV.1 hκ g1.1 hs).mpr g1.2.1)
        rw [← h2] at g1 g2
        exact hno i' (l_srt (n_sorted hV.1) h1 hi g2) g1
      generalize hx0 : (n_nr ρ κ s).getD i 0 = e at *
      obtain ⟨g1, g2, g3⟩ := hR.2.1 e hee
      obtain ⟨q1, q2, q3⟩ := n_ends hV.1 hκ hee
      have hw := n_wt (e := e) hV hκ
      have ce : (nI e).toNatClampNeg = e := nI_clamp (by omega)
      have ho : n_oth ρ κ e s ≤ n_B ρ := by unfold n_oth; split <;> omega
      have hif : (if nI (n_lo ρ κ e) = nI s then nI (n_hi ρ κ e) else nI (n_lo ρ κ e)) = nI (n_oth ρ κ e s) := by
        unfold n_oth
        by_cases z : n_lo ρ κ e = s
        · rw [if_pos z, if_pos (by rw [z])]
        · rw [if_neg z, if_neg (fun w => z ((nI_eq (by omega) (by omega)).mp w))]
      have hck := n_ck hV hκ hT hD hs hee hmm (by omega) hx hxB
      have b1 := (hxv _ ho).2
      have b2 := (hxv s (by omega)).2
      refine sg_X8_edgeFrom_2 hL hk ⟨vp_in_nI (by omega) (by omega), fun c => ?_, fun _ => ?_⟩
      · rw [cs, (hR.2.2 s hs).1] at c
        exact absurd c (nI_ge (by omega) (by omega))
      · rw [e6, nI_clamp (n := s * 6 + i) (by omega), h154, ce, g1, g2, g3, cs, hif, nI_clamp (n := n_oth ρ κ e s) (by omega), (hxv _ ho).1, (hxv s (by omega)).1, hl, nI_add, nI_1]
        refine ⟨vp_in_nI (by omega) (by omega), vp_in_nI (by omega) (by omega), vp_in_nI (by omega) (by omega), vp_in_nI (by omega) (by omega), vp_in_nI (by omega) (by omega), fun c => ?_, fun c => ?_⟩
        · refine ih (i + 1) (by omega) (fun i' hi' => ?_)
          by_cases z : i' = i
          · rw [z, hx0]
            exact fun g => c (by rw [hck.mpr g])
          · exact hno i' (by omega)
        · have c := hck.mp ((nI_eq (by omega) (by omega)).mp c)
          rw [n_fe_eq hV hκ hD hs hne c (fun e' w1 w2 => hsm e' w2 w1)]
          exact h
  exact sg_X8_edgeFrom_0 hk (key _ 0 (Nat.zero_add _) (fun i' h' => by omega))
theorem sp_X8_walk {s : Nat} (hd : 2 ≤ d) (hL : z_L S) (hV : p_V ρ) (hκ : κ < 2) (ha : w_ok a) (hk : z_k S a = 21) (hl : z_l S a = 109) (hR : c_R ρ κ v) (hT : T ≤ n_B ρ) (hD : n_isD ρ κ T (n_ds ρ κ T)) (hA : c_D ρ κ T a v) (hs : s < n_B ρ ∨ s = T)
    (h : ∀ v1, v1 158 1 = nI (n_wy ρ κ T 120 s).length → (∀ i, i < (n_wy ρ κ T 120 s).length → v1 159 i = nI ((n_wy ρ κ T 120 s).getD i 0)) → (∀ b, b ≠ 158 → b ≠ 159 → v1 b = v b) → (∀ j, j ≠ 1 → v1 158 j = v 158 j) → (n_wy ρ κ T 120 s).length ≤ 120 → Q none S v1) :
    z_J G d mX8_walk (0, [.ref 158, .ref 149, .int (nI s), .int (nI T), .ref a, .null, .null, .null], [], S, v) Q := by
  obtain ⟨d, rfl⟩ : ∃ e, d = e + 1 + 1 := ⟨d - 2, by omega⟩
  have hB := n_B_le hV.1 hV.2.1
  have hE := n_E_le hV.1 hV.2.1
  have hbd := n_bd hV hκ hT hD.1 hD.2.1
  unfold w_ok at ha
  have key : ∀ k u l v1, l.length + k = 120 → (u < n_B ρ ∨ u = T) → n_ds ρ κ T u ≤ k → v1 158 1 = nI l.length → (∀ i, i < l.length → v1 159 i = nI (l.getD i 0)) → (∀ b, b ≠ 158 → b ≠ 159 → v1 b = v b) → (∀ j, j ≠ 1 → v1 158 j = v 158 j) → l ++ n_wy ρ κ T k u = n_wy ρ κ T 120 s →
      z_J G (d + 1 + 1) mX8_walk (11, [.ref 158, .ref 149, .int (nI s), .int (nI T), .ref a, .int (nI u), .int (nI l.length), .null], [], S, v1) Q := by
    intro k
    induction k with
    | zero =>
      intro u l v1 hlk hu hk0 hc hp hfr hfj hw
      have huT : u = T := by
        by_cases z : u = T
        · exact z
        · have hu := hu.resolve_right z
          have g := n_gd_to hV hκ hu (n_fe_ok hV hκ hD hu z).1
          omega
      subst huT
      rw [n_wy, List.append_nil] at hw
      refine sg_X8_walk_11 hL hk ⟨fun c => absurd c (nI_ge (b := 256) (by omega) (by omega)), fun _ => ⟨fun _ => ?_, fun c => absurd rfl c⟩⟩
      rw [hw] at hc hp hlk
      exact h v1 hc hp hfr hfj (by omega)
    | succ k ih =>
      intro u l v1 hlk hu hk0 hc hp hfr hfj hw
      have huB : u ≤ n_B ρ := by rcases hu with z | z <;> omega
      refine sg_X8_walk_11 hL hk ⟨fun c => absurd c (nI_ge (b := 256) (by omega) (by omega)), fun _ => ⟨fun c => ?_, fun c => ?_⟩⟩
      · have c := (nI_eq (by omega) (by omega)).mp c
        subst c
        rw [n_wy, if_pos rfl, List.append_nil] at hw
        rw [hw] at hc hp hlk
        exact h v1 hc hp hfr hfj (by omega)
      · have c : u ≠ T := fun z => c (by rw [z])
        have hu := hu.resolve_right c
        have hR1 : c_R ρ κ v1 := hR.fr (fun b b1 b2 => hfr b (by omega) (by omega))
        have hA1 : c_D ρ κ T a v1 := by unfold c_D; rw [hfr a (by omega) (by omega)]; exact hA
        have hfe := (n_fe_ok hV hκ hD hu c).1
        have hto := n_gd_to hV hκ hu hfe
        have hE1 := hfe.1
        refine sp_X8_edgeFrom hL hV hκ hk hl hR1 hT hD hA1 hu c ⟨_, rfl, rfl, fun _ => ?_, fun z => absurd z (nI_n1 (by omega))⟩
        rw [n_wy, if_neg c] at hw
        generalize hef : n_fe ρ κ T u = e at *
        obtain ⟨g1, g2, g3⟩ := hR1.2.1 e hE1
        obtain ⟨q1, q2, q3⟩ := n_ends hV.1 hκ hE1
        have ce : (nI e).toNatClampNeg = e := nI_clamp (by omega)
        refine ⟨by rw [hc]; exact vp_in_nI (by omega) (by omega), fun v2 e2 v3 e3 => ⟨vp_in_nI (by omega) (by omega), ?_⟩⟩
        rw [hc, nI_clamp (by omega)] at e2
        have w1 : v2 158 1 = nI l.length := by rw [e2, z_un (by omega)]; exact hc
        rw [w1, nI_1, e2] at e3
        have w2 : (if v3 150 (nI e).toNatClampNeg = nI u then v3 151 (nI e).toNatClampNeg else v3 150 (nI e).toNatClampNeg) = nI (n_oth ρ κ e u) := by
          rw [ce, show v3 150 e = nI (n_lo ρ κ e) by rw [e3]; simp (disch := omega) only [z_ue, z_un]; exact g1, show v3 151 e = nI (n_hi ρ κ e) by rw [e3]; simp (disch := omega) only [z_ue, z_un]; exact g2]
          unfold n_oth
          by_cases z : n_lo ρ κ e = u
          · rw [if_pos z, if_pos (by rw [z])]
          · rw [if_neg z, if_neg (fun w => z ((nI_eq (by omega) (by omega)).mp w))]
        rw [w2, nI_1]
        have hll : (l ++ [e]).length = l.length + 1 := by rw [List.length_append]; rfl
        rw [← hll]
        refine ih (n_oth ρ κ e u) (l ++ [e]) v3 (by omega) hto.1 (by omega) ?_ (fun i hi => ?_) (fun b b1 b2 => ?_) (fun j hj => ?_) (by rw [List.append_assoc]; exact hw)
        · rw [e3, hll]; simp (disch := omega) only [z_ue, z_un]
        · by_cases z : i = l.length
          · subst z
            rw [e3, l_ge]; simp (disch := omega) only [z_ue, z_un]
          · rw [e3, l_gl (by omega)]; simp (disch := omega) only [z_ue, z_un]; exact hp i (by omega)
        · rw [e3, z_u_ne b1, z_u_ne b2]; exact hfr b b1 b2
        · rw [e3, z_un (by omega), z_un (by omega)]; exact hfj j hj
  refine sg_X8_walk_0 hL hk (fun v1 e1 => ?_)
  have h0 : n_ds ρ κ T s ≤ 120 := by
    rcases hs with z | z
    · exact hbd s z
    · rw [z, hD.1]; omega
  exact key 120 s [] v1 (by rw [List.length_nil]) hs h0 (by rw [e1, z_ue rfl rfl]; rfl) (fun i hi => by cases hi) (fun b b1 b2 => by rw [e1, z_u_ne b1]) (fun j hj => by rw [e1, z_un (by omega)]) (List.nil_append _)
end WC
