/-! THE CLASS' DISTANCES: offers in buckets -/
/-- the last of the first n offers at a distance -/
def w_lb (F : Nat → Nat) (f : Nat) : Nat → Option Nat
  | 0 => none
  | x + 1 => if F x = f then some x else w_lb F f x
def w_en : Option Nat → Int32
  | none => -1
  | some x => nI x
/-- how many of the first n are at a distance, are nearer -/
def w_ct (F : Nat → Nat) (f : Nat) : Nat → Nat
  | 0 => 0
  | x + 1 => w_ct F f x + (if F x = f then 1 else 0)
def w_cl (F : Nat → Nat) (f : Nat) : Nat → Nat
  | 0 => 0
  | x + 1 => w_cl F f x + (if F x < f then 1 else 0)
theorem w_lb_c {F F' : Nat → Nat} {f : Nat} : ∀ n, (∀ x, x < n → F' x = F x) → w_lb F' f n = w_lb F f n
  | 0, _ => rfl
  | n + 1, h => by rw [w_lb, w_lb, h n (by omega), w_lb_c n (fun x hx => h x (by omega))]
theorem w_ct_c {F F' : Nat → Nat} {f : Nat} : ∀ n, (∀ x, x < n → F' x = F x) → w_ct F' f n = w_ct F f n
  | 0, _ => rfl
  | n + 1, h => by rw [w_ct, w_ct, h n (by omega), w_ct_c n (fun x hx => h x (by omega))]
theorem w_cl_c {F F' : Nat → Nat} {f : Nat} : ∀ n, (∀ x, x < n → F' x = F x) → w_cl F' f n = w_cl F f n
  | 0, _ => rfl
  | n + 1, h => by rw [w_cl, w_cl, h n (by omega), w_cl_c n (fun x hx => h x (by omega))]
theorem w_ct_far {F : Nat → Nat} {f n : Nat} : ∀ k, (∀ x, n ≤ x → x < n + k → f < F x) → w_ct F f (n + k) = w_ct F f n ∧ w_cl F f (n + k) = w_cl F f n
  | 0, _ => ⟨rfl, rfl⟩
  | k + 1, h => by
    have ih := w_ct_far k (fun x h1 h2 => h x h1 (by omega))
    have := h (n + k) (by omega) (by omega)
    rw [show n + (k + 1) = n + k + 1 from rfl, w_ct, w_cl, if_neg (by omega), if_neg (by omega)]
    exact ih
theorem w_cl_s {F : Nat → Nat} {f : Nat} : ∀ n, w_cl F (f + 1) n = w_cl F f n + w_ct F f n
  | 0 => rfl
  | n + 1 => by
    rw [w_cl, w_cl, w_ct, w_cl_s n]
    by_cases h : F n = f
    · rw [if_pos (by omega), if_neg (by omega), if_pos h]; omega
    · by_cases h2 : F n < f
      · rw [if_pos (by omega), if_pos h2, if_neg h]; omega
      · rw [if_neg (by omega), if_neg h2, if_neg h]; omega
theorem w_cl_le {F : Nat → Nat} {f : Nat} : ∀ n, w_cl F f n ≤ n
  | 0 => Nat.le_refl _
  | n + 1 => by
    have := w_cl_le (F := F) (f := f) n
    rw [w_cl]
    split <;> omega
theorem w_ct_le {F : Nat → Nat} {f : Nat} : ∀ n, w_ct F f n ≤ n
  | 0 => Nat.le_refl _
  | n + 1 => by
    have := w_ct_le (F := F) (f := f) n
    rw [w_ct]
    split <;> omega
theorem w_cl_all {F : Nat → Nat} {f : Nat} : ∀ n, n ≤ w_cl F f n → ∀ x, x < n → F x < f
  | 0, _, x, hx => by omega
  | n + 1, h, x, hx => by
    have h1 := w_cl_le (F := F) (f := f) n
    rw [w_cl] at h
    by_cases e : F n < f
    · rw [if_pos e] at h
      by_cases e2 : x = n
      · rw [e2]; exact e
      · exact w_cl_all n (by omega) x (by omega)
    · rw [if_neg e] at h
      omega
theorem w_lb_some {F : Nat → Nat} {f x : Nat} : ∀ n, w_lb F f n = some x → x < n ∧ F x = f ∧ (∀ y, x < y → y < n → F y ≠ f) ∧ w_ct F f n = w_ct F f x + 1
  | 0, h => by cases h
  | n + 1, h => by
    rw [w_lb] at h
    by_cases e : F n = f
    · rw [if_pos e] at h
      cases h
      refine ⟨by omega, e, fun y h1 h2 => by omega, ?_⟩
      rw [w_ct, if_pos e]
    · rw [if_neg e] at h
      obtain ⟨h1, h2, h3, h4⟩ := w_lb_some n h
      refine ⟨by omega, h2, fun y h5 h6 => ?_, ?_⟩
      · by_cases e2 : y = n
        · rw [e2]; exact e
        · exact h3 y h5 (by omega)
      · rw [w_ct, if_neg e]; exact h4
theorem w_lb_none {F : Nat → Nat} {f : Nat} : ∀ n, w_lb F f n = none → (∀ y, y < n → F y ≠ f) ∧ w_ct F f n = 0
  | 0, _ => ⟨fun y h => by omega, rfl⟩
  | n + 1, h => by
    rw [w_lb] at h
    by_cases e : F n = f
    · rw [if_pos e] at h; cases h
    · rw [if_neg e] at h
      obtain ⟨h1, h2⟩ := w_lb_none n h
      refine ⟨fun y hy => ?_, by rw [w_ct, if_neg e]; exact h2⟩
      by_cases e2 : y = n
      · rw [e2]; exact e
      · exact h1 y (by omega)
/-- the row and the offers so far -/
def w_I (ρ : Nat → Nat) (κ T a : Nat) (v : z_Dat) (r F O : Nat → Nat) (n : Nat) : Prop :=
  (∀ s, s < n_B ρ → v a s = nI (r s)) ∧ (v 158 7 = nI n ∧ n ≤ 969) ∧
  (∀ x, x < n → (v 162 x = nI (O x) ∧ v 163 x = w_en (w_lb F (F x) x))) ∧ (∀ f, f < 256 → v 161 f = w_en (w_lb F f n)) ∧
  (∀ x, x < n → (O x < n_B ρ ∧ F x < 256 ∧ r (O x) ≤ F x)) ∧ (∀ s, s < n_B ρ → (r s ≤ 256 ∧ (r s < 256 → ∃ x, x < n ∧ O x = s ∧ F x = r s))) ∧
  (∀ x y, x < y → y < n → O x = O y → F y < F x) ∧ (∀ s, s < n_B ρ → s ≠ T → r s < 256 → n_sup ρ κ T r s) ∧ (r T = 0 ∨ n = 0) ∧ (T ≠ n_B ρ → r (n_B ρ) = 256)
def w_fr (a : Nat) (v v1 : z_Dat) : Prop := (∀ b, b ≠ a → b ≠ 158 → b ≠ 161 → b ≠ 162 → b ≠ 163 → v1 b = v b) ∧ ∀ j, j ≠ 7 → v1 158 j = v 158 j
theorem w_fr.rf {a : Nat} {v : z_Dat} : w_fr a v v := ⟨fun _ _ _ _ _ _ => rfl, fun _ _ => rfl⟩
theorem w_fr.tr {a : Nat} {v v1 v2 : z_Dat} (h1 : w_fr a v v1) (h2 : w_fr a v1 v2) : w_fr a v v2 := ⟨fun b b1 b2 b3 b4 b5 => (h2.1 b b1 b2 b3 b4 b5).trans (h1.1 b b1 b2 b3 b4 b5), fun j hj => (h2.2 j hj).trans (h1.2 j hj)⟩
def w_ok (a : Nat) : Prop := a = 160 ∨ (169 ≤ a ∧ a ≤ 183)
/-- behind some offers: the row is no farther, new offers are farther than f -/
def w_gr (a : Nat) (v v1 : z_Dat) (B f : Nat) (r F O : Nat → Nat) (n : Nat) (r1 F1 O1 : Nat → Nat) (n1 : Nat) : Prop :=
  w_fr a v v1 ∧ v1 a B = v a B ∧ (∀ s, r1 s ≤ r s) ∧ (∀ s, r s ≤ f → r1 s = r s) ∧ n ≤ n1 ∧ (∀ x, x < n → (F1 x = F x ∧ O1 x = O x)) ∧ ∀ x, n ≤ x → x < n1 → f < F1 x
theorem w_gr.rf {a B f n : Nat} {v : z_Dat} {r F O : Nat → Nat} : w_gr a v v B f r F O n r F O n := ⟨w_fr.rf, rfl, fun _ => Nat.le_refl _, fun _ _ => rfl, Nat.le_refl _, fun _ _ => ⟨rfl, rfl⟩, fun x h1 h2 => by omega⟩
theorem w_gr.tr {a B f n n1 n2 : Nat} {v v1 v2 : z_Dat} {r F O r1 F1 O1 r2 F2 O2 : Nat → Nat} (h1 : w_gr a v v1 B f r F O n r1 F1 O1 n1) (h2 : w_gr a v1 v2 B f r1 F1 O1 n1 r2 F2 O2 n2) : w_gr a v v2 B f r F O n r2 F2 O2 n2 := by
  obtain ⟨a1, a2, a3, a4, a5, a6, a7⟩ := h1
  obtain ⟨b1, b2, b3, b4, b5, b6, b7⟩ := h2
  refine ⟨a1.tr b1, b2.trans a2, fun s => Nat.le_trans (b3 s) (a3 s), fun s hs => (b4 s (by rw [a4 s hs]; exact hs)).trans (a4 s hs), by omega, fun x hx => ?_, fun x h1 h2 => ?_⟩
  · obtain ⟨c1, c2⟩ := b6 x (by omega)
    obtain ⟨d1, d2⟩ := a6 x hx
    exact ⟨c1.trans d1, c2.trans d2⟩
  · by_cases q : x < n1
    · rw [(b6 x q).1]; exact a7 x h1 q
    · exact b7 x (by omega) h2
section OF
variable {G : z_G} {d : Nat} {S : z_Shp} {v v0 : z_Dat} {Q : Option Value → z_Shp → z_Dat → Prop} {κ T a : Nat} {ρ r F O : Nat → Nat} {n : Nat}
/-- Ways.offer -/
theorem sp_X8_offer {s far f : Nat} (hL : z_L S) (ha : w_ok a) (hk : z_k S a = 21) (hl : z_l S a = 109) (hB : n_B ρ ≤ 108) (hI : w_I ρ κ T a v r F O n) (hn : n < 969) (hs : s < n_B ρ) (hf2 : far < 1000)
    (hsu : far < r s → (r T = 0 ∨ s = T ∧ far = 0) ∧ (s ≠ T → n_sup ρ κ T (p_up r s far) s)) (hTr : s = T → far < r s → far = 0)
    (h : ∀ v1 r1 F1 O1 n1, w_I ρ κ T a v1 r1 F1 O1 n1 → (w_fr a v v1 ∧ v1 a (n_B ρ) = v a (n_B ρ)) → (f < far → w_gr a v v1 (n_B ρ) f r F O n r1 F1 O1 n1) → n1 ≤ n + 1 → (r1 s ≤ far ∨ 256 ≤ far) → Q none S v1) : z_J G d mX8_offer (0, [.ref 158, .ref a, .int (nI s), .int (nI far)], [], S, v) Q := by
  obtain ⟨i1, ⟨i2, i2'⟩, i3, i4, i5, i6, i7, i8, i9, i10⟩ := id hI
  have cs : (nI s).toNatClampNeg = s := nI_clamp (by omega)
  have cf : (nI far).toNatClampNeg = far := nI_clamp (by omega)
  have cn : (nI n).toNatClampNeg = n := nI_clamp (by omega)
  have hrs := (i6 s hs).1
  unfold w_ok at ha
  refine sg_X8_offer_0 hL hk ?_
  rw [hl, cs, i1 s hs]
  refine ⟨vp_in_nI (by omega) (by omega), fun c => ?_, fun c => ⟨fun c2 => ?_, fun c2 => ⟨fun _ => ⟨vp_in_nI (by omega) (by omega), fun v1 e1 => ?_⟩, fun c3 => ?_⟩⟩⟩
  · have c := (nI_leI (by omega) (by omega)).mp c
    exact h v r F O n hI ⟨w_fr.rf, rfl⟩ (fun _ => w_gr.rf) (by omega) (Or.inl c)
  · have c2 := (nI_leI (a := 256) (by omega) (by omega)).mp c2
    exact h v r F O n hI ⟨w_fr.rf, rfl⟩ (fun _ => w_gr.rf) (by omega) (Or.inr c2)
  · have c : far < r s := by
      rcases Nat.lt_or_ge far (r s) with q | q
      · exact q
      · exact absurd (nI_le q (by omega)) c
    have c2 : far < 256 := by
      rcases Nat.lt_or_ge far 256 with q | q
      · exact q
      · exact absurd (nI_le (a := 256) q (by omega)) c2
    have q1 : v1 158 7 = nI n := by rw [e1, z_un (by omega)]; exact i2
    refine ⟨by rw [q1]; exact vp_in_nI (by omega) (by omega), fun v2 e2 => ⟨vp_in_nI (by omega) (by omega), ?_⟩⟩
    rw [q1, cn] at e2
    have q2 : v2 158 7 = nI n := by rw [e2, z_un (by omega)]; exact q1
    have q3 : v2 161 far = w_en (w_lb F far n) := by rw [e2, z_un (by omega), e1, z_un (by omega)]; exact i4 far c2
    refine ⟨by rw [q2]; exact vp_in_nI (by omega) (by omega), fun v3 e3 => ⟨vp_in_nI (by omega) (by omega), fun v4 e4 v5 e5 => ?_⟩⟩
    rw [q2, cn, cf, q3] at e3
    have q4 : v3 158 7 = nI n := by rw [e3, z_un (by omega)]; exact q2
    rw [cf, q4] at e4
    have q5 : v4 158 7 = nI n := by rw [e4, z_un (by omega)]; exact q4
    rw [q5, nI_1, e4, e3, e2, e1] at e5
    have hle : ∀ u, p_up r s far u ≤ r u := fun u => by
      by_cases e : u = s
      · rw [p_ue e, e]; omega
      · rw [p_un e]; exact Nat.le_refl _
    have hFx : ∀ x, x < n → p_up F n far x = F x := fun x hx => p_un (by omega)
    have hOx : ∀ x, x < n → p_up O n s x = O x := fun x hx => p_un (by omega)
    have W : w_fr a v v5 := ⟨fun b b1 b2 b3 b4 b5 => by rw [e5, z_u_ne b2, z_u_ne b3, z_u_ne b5, z_u_ne b4, z_u_ne b1], fun j hj => by rw [e5]; simp (disch := omega) only [z_ue, z_un]⟩
    have Wb : v5 a (n_B ρ) = v a (n_B ρ) := by rw [e5]; simp (disch := omega) only [z_ue, z_un]
    refine h v5 (p_up r s far) (p_up F n far) (p_up O n s) (n + 1) ⟨fun u hu => ?_, ⟨?_, by omega⟩, fun x hx => ⟨?_, ?_⟩, fun g hg => ?_, fun x hx => ?_, fun u hu => ⟨?_, fun hu2 => ?_⟩, fun x y hxy hy hO => ?_, fun u hu hnT hu2 => ?_, ?_, fun q => by rw [p_un (by omega)]; exact i10 q⟩ ⟨W, Wb⟩ (fun hff => ⟨W, Wb, hle, fun u hu => ?_, by omega, fun x hx => ⟨hFx x hx, hOx x hx⟩, fun x h1 h2 => ?_⟩) (Nat.le_refl _) (Or.inl (by rw [p_ue rfl]; exact Nat.le_refl _))
    · by_cases e : u = s
      · subst e; rw [e5, p_ue rfl]; simp (disch := omega) only [z_ue, z_un]
      · rw [e5, p_un e]; simp (disch := omega) only [z_ue, z_un]; exact i1 u hu
    · rw [e5]; simp (disch := omega) only [z_ue, z_un]
    · by_cases e : x = n
      · subst e; rw [e5, p_ue rfl]; simp (disch := omega) only [z_ue, z_un]
      · rw [e5, hOx x (by omega)]; simp (disch := omega) only [z_ue, z_un]; exact (i3 x (by omega)).1
    · by_cases e : x = n
      · subst e
        rw [e5, p_ue (ρ := F) rfl, w_lb_c x (fun y hy => hFx y hy)]
        simp (disch := omega) only [z_ue, z_un]
      · rw [e5, hFx x (by omega), w_lb_c x (fun y hy => hFx y (by omega))]
        simp (disch := omega) only [z_ue, z_un]
        exact (i3 x (by omega)).2
    · rw [w_lb]
      by_cases e : g = far
      · subst e
        rw [p_ue (ρ := F) rfl, if_pos rfl, e5]
        simp (disch := omega) only [z_ue, z_un]
        rfl
      · rw [p_ue (ρ := F) rfl, if_neg (fun q => e q.symm), w_lb_c n (fun y hy => hFx y hy), e5]
        simp (disch := omega) only [z_ue, z_un]
        exact i4 g hg
    · by_cases e : x = n
      · subst e
        rw [p_ue (ρ := O) rfl, p_ue (ρ := F) rfl, p_ue rfl]
        exact ⟨hs, c2, Nat.le_refl _⟩
      · rw [hFx x (by omega), hOx x (by omega)]
        obtain ⟨j1, j2, j3⟩ := i5 x (by omega)
        exact ⟨j1, j2, Nat.le_trans (hle _) j3⟩
    · exact Nat.le_trans (hle u) (i6 u hu).1
    · by_cases e : u = s
      · subst e
        exact ⟨n, by omega, p_ue rfl, by rw [p_ue rfl, p_ue rfl]⟩
      · rw [p_un e] at hu2 ⊢
        obtain ⟨x, x1, x2, x3⟩ := (i6 u hu).2 hu2
        exact ⟨x, by omega, by rw [hOx x x1]; exact x2, by rw [hFx x x1]; exact x3⟩
    · by_cases e : y = n
      · subst e
        rw [hOx x hxy, p_ue rfl] at hO
        rw [p_ue rfl, hFx x hxy]
        have := (i5 x hxy).2.2
        rw [hO] at this
        omega
      · rw [hOx x (by omega), hOx y (by omega)] at hO
        rw [hFx x (by omega), hFx y (by omega)]
        exact i7 x y hxy (by omega) hO
    · by_cases e : u = s
      · subst e; exact (hsu c).2 hnT
      · rw [p_un e] at hu2
        exact n_sup_mono (i8 u hu hnT hu2) hle (p_un e)
    · left
      by_cases e : T = s
      · rw [p_ue e]; exact hTr e.symm c
      · rw [p_un e]
        rcases (hsu c).1 with z | ⟨z, -⟩
        · exact z
        · exact absurd z.symm e
    · by_cases e : u = s
      · subst e; omega
      · exact p_un e
    · have : x = n := by omega
      rw [this, p_ue rfl]; exact hff
  · rw [i2] at c3; exact absurd (nI_lt (b := 969) hn (by omega)) c3
end OF
