/-! words, kinds and numbers as the class reads them -/
theorem sx_tab : ∀ j, j < 8 → (z_slen.getD (6 + j) 0 = (t_W.getD j []).length ∧ ∀ t, t < 5 → (t < (t_W.getD j []).length → (z_sbyt.getD (6 + j) []).getD t 0 = nI ((t_W.getD j []).getD t 0) ∧ (t_W.getD j []).getD t 0 < 128)) := by decide
theorem t_W_5 : ∀ j, j < 8 → (t_W.getD j []).length ≤ 5 := by decide
theorem t_ma_le {τ : Nat → Nat} {q e : Nat} {W : List Nat} : ∀ (g t : Nat), t_ma τ q e W (t + g) = true → t_ma τ q e W t = true
  | 0, _, h => h
  | g + 1, t, h => by
    have h : (t_ma τ q e W (t + g) && (decide (q + (t + g) < e) && decide (τ (q + (t + g)) = W.getD (t + g) 0))) = true := h
    rw [Bool.and_eq_true] at h
    exact t_ma_le g t h.1
section WC
variable {G : z_G} {d : Nat} {S : z_Shp} {v v0 : z_Dat} {Q : Option Value → z_Shp → z_Dat → Prop} {τ : Nat → Nat} {L p q e j k a lo hi c : Nat}
theorem sp_X6_spells (hd : 4 ≤ d) (hL : z_L S) (hT : c_Tp v τ L) (hτ : ∀ i, τ i < 256) (hj : j < 8) (hp : v 141 12 = nI e) (hq : q ≤ e) (he : e ≤ L)
    (h : Q (some (.int (t_bI (t_m τ q e (t_W.getD j []))))) S v) : z_J G d mX6_spells (0, [.ref 141, .ref (z_X + (6 + j)), .int (nI q), .null], [], S, v) Q := by
  obtain ⟨d, rfl⟩ : ∃ e, d = e + 1 := ⟨d - 1, by omega⟩
  have hl := hT.2.1
  obtain ⟨s1, s2⟩ := sx_tab j hj
  have w5 := t_W_5 j hj
  refine sg_X6_spells_0 hL (by omega) (by omega) ?_
  rw [hp, pk_sub hq, s1]
  generalize t_W.getD j [] = W at *
  refine ⟨fun c => ?_, fun c => ?_⟩
  · have c : e - q = W.length := (nI_eq (by omega) (by omega)).mp c
    have key : ∀ g t, t + g = W.length → t_ma τ q e W t = true → z_J G (d + 1) mX6_spells (17, [.ref 141, .ref (z_X + (6 + j)), .int (nI q), .int (nI t)], [], S, v) Q := by
      intro g
      induction g with
      | zero =>
        intro t ht hm
        refine sg_X6_spells_17 hL (by omega) (by omega) ?_
        rw [s1]
        refine ⟨fun _ => ?_, fun z => absurd (nI_le (by omega) (by omega)) z⟩
        unfold t_m at h
        rw [show W.length = t by omega, hm, decide_eq_true (show q + t = e by omega)] at h
        exact h
      | succ g ih =>
        intro t ht hm
        obtain ⟨w1, w2⟩ := s2 t (by omega) (by omega)
        have hb := hτ (q + t)
        refine sg_X6_spells_17 hL (by omega) (by omega) ?_
        rw [s1, nI_add, nI_clamp (n := q + t) (by omega), nI_clamp (n := t) (by omega), w1, hT.2.2 (q + t) (by omega), nI_1]
        refine ⟨fun z => absurd z (nI_ge (by omega) (by omega)), fun _ => ⟨vp_in_nI (by omega) (by omega), vp_in_nI (by omega) (by omega), fun z => ?_, fun z => ?_⟩⟩
        · have z := (nI_eq (by omega) (by omega)).mp z
          refine ih (t + 1) (by omega) ?_
          rw [t_ma, hm, decide_eq_true (show q + t < e by omega), decide_eq_true z]; rfl
        · have z : ¬ τ (q + t) = W.getD t 0 := fun y => z (by rw [y])
          have no : ¬ t_ma τ q e W W.length = true := fun y => by
            have y2 := t_ma_le (W.length - (t + 1)) (t + 1) (by rw [show t + 1 + (W.length - (t + 1)) = W.length by omega]; exact y)
            rw [t_ma, hm, decide_eq_false z, Bool.and_false, Bool.and_false] at y2
            exact absurd y2 (by decide)
          unfold t_m at h
          rw [Bool.not_eq_true _ |>.mp no, Bool.false_and] at h
          exact h
    exact key W.length 0 (by omega) rfl
  · have c : ¬ q + W.length = e := fun z => c (by rw [show e - q = W.length by omega])
    unfold t_m at h
    rw [decide_eq_false c, Bool.and_false] at h
    exact h
theorem t_bI_0 {b : Bool} : t_bI b = 0 ↔ ¬ b = true := by cases b <;> decide
def t_kI (w : Nat) : Int32 := if w < 8 then nI w else -1
theorem sp_X6_readWord_57 (hd : 5 ≤ d) (hL : z_L S) (hT : c_Tp v τ L) (hτ : ∀ i, τ i < 256) (hp : v 141 12 = nI e) (hq : q ≤ e) (he : e ≤ L)
    (h : Q (some (.int (t_kI (t_kw τ q e)))) S v) : z_J G d mX6_readWord (57, [.ref 141, .int (nI q)], [], S, v) Q := by
  obtain ⟨d, rfl⟩ : ∃ e, d = e + 1 := ⟨d - 1, by omega⟩
  have u : t_kw τ q e = if t_m τ q e (t_W.getD 0 []) = true then 0 else if t_m τ q e (t_W.getD 1 []) = true then 1 else if t_m τ q e (t_W.getD 2 []) = true then 2 else if t_m τ q e (t_W.getD 3 []) = true then 3 else if t_m τ q e (t_W.getD 4 []) = true then 4 else if t_m τ q e (t_W.getD 5 []) = true then 5 else if t_m τ q e (t_W.getD 6 []) = true then 6 else if t_m τ q e (t_W.getD 7 []) = true then 7 else 8 := rfl
  rw [u] at h
  refine sg_X6_readWord_57 hL ?_
  refine sp_X6_spells (j := 0) (by omega) hL hT hτ (by omega) hp hq he ⟨_, rfl, rfl, fun z => ?_, fun z => ?_⟩
  rotate_left
  · rw [if_pos (Decidable.not_not.mp (fun y => z (t_bI_0.mpr y)))] at h; exact h
  rw [if_neg (t_bI_0.mp z)] at h
  refine sp_X6_spells (j := 1) (by omega) hL hT hτ (by omega) hp hq he ⟨_, rfl, rfl, fun z => ?_, fun z => ?_⟩
  rotate_left
  · rw [if_pos (Decidable.not_not.mp (fun y => z (t_bI_0.mpr y)))] at h; exact h
  rw [if_neg (t_bI_0.mp z)] at h
  refine sp_X6_spells (j := 2) (by omega) hL hT hτ (by omega) hp hq he ⟨_, rfl, rfl, fun z => ?_, fun z => ?_⟩
  rotate_left
  · rw [if_pos (Decidable.not_not.mp (fun y => z (t_bI_0.mpr y)))] at h; exact h
  rw [if_neg (t_bI_0.mp z)] at h
  refine sp_X6_spells (j := 3) (by omega) hL hT hτ (by omega) hp hq he ⟨_, rfl, rfl, fun z => ?_, fun z => ?_⟩
  rotate_left
  · rw [if_pos (Decidable.not_not.mp (fun y => z (t_bI_0.mpr y)))] at h; exact h
  rw [if_neg (t_bI_0.mp z)] at h
  refine sp_X6_spells (j := 4) (by omega) hL hT hτ (by omega) hp hq he ⟨_, rfl, rfl, fun z => ?_, fun z => ?_⟩
  rotate_left
  · rw [if_pos (Decidable.not_not.mp (fun y => z (t_bI_0.mpr y)))] at h; exact h
  rw [if_neg (t_bI_0.mp z)] at h
  refine sp_X6_spells (j := 5) (by omega) hL hT hτ (by omega) hp hq he ⟨_, rfl, rfl, fun z => ?_, fun z => ?_⟩
  rotate_left
  · rw [if_pos (Decidable.not_not.mp (fun y => z (t_bI_0.mpr y)))] at h; exact h
  rw [if_neg (t_bI_0.mp z)] at h
  refine sp_X6_spells (j := 6) (by omega) hL hT hτ (by omega) hp hq he ⟨_, rfl, rfl, fun z => ?_, fun z => ?_⟩
  rotate_left
  · rw [if_pos (Decidable.not_not.mp (fun y => z (t_bI_0.mpr y)))] at h; exact h
  rw [if_neg (t_bI_0.mp z)] at h
  refine sp_X6_spells (j := 7) (by omega) hL hT hτ (by omega) hp hq he ⟨_, rfl, rfl, fun z => ?_, fun z => ?_⟩
  · rw [if_neg (t_bI_0.mp z)] at h; exact h
  · rw [if_pos (Decidable.not_not.mp (fun y => z (t_bI_0.mpr y)))] at h; exact h
theorem sp_X6_readWord (hd : 5 ≤ d) (hL : z_L S) (hT : c_Tp v τ L) (hτ : ∀ i, τ i < 256) (hp : v 141 12 = nI q) (hq : q ≤ L)
    (h : ∀ v1, v1 141 12 = nI (t_w τ L q) → c_at v v1 → Q (some (.int (t_kI (t_kw τ q (t_w τ L q))))) S v1) : z_J G d mX6_readWord (0, [.ref 141, .null], [], S, v) Q := by
  have hl := hT.2.1
  refine sg_X6_readWord_0 hL ?_
  rw [hp]
  have key : ∀ f i v1, i + f = L → q ≤ i → t_w τ L i = t_w τ L q → v1 141 12 = nI i → c_at v v1 → z_J G d mX6_readWord (5, [.ref 141, .int (nI q)], [], S, v1) Q := by
    intro f
    have fin : ∀ i v1, i ≤ L → q ≤ i → t_w τ L q = i → v1 141 12 = nI i → c_at v v1 → z_J G d mX6_readWord (57, [.ref 141, .int (nI q)], [], S, v1) Q := fun i v1 h1 h2 h3 e1 a1 => by
      subst h3
      exact sp_X6_readWord_57 hd hL (a1.T hT) hτ e1 h2 h1 (h v1 e1 a1)
    induction f with
    | zero =>
      intro i v1 hf hi he e1 a1
      have T1 := a1.T hT
      rw [t_w_e (show L ≤ i by omega)] at he
      refine sg_X6_readWord_5 hL ?_
      rw [T1.1, e1]
      exact ⟨fun _ => fin i v1 (by omega) hi he.symm e1 a1, fun c => absurd (nI_le (by omega) (by omega)) c⟩
    | succ f ih =>
      intro i v1 hf hi he e1 a1
      have T1 := a1.T hT
      have hb := hτ i
      have hin : vp_in (nI i) 240 := vp_in_nI (by omega) (by omega)
      have stop : ¬ (97 ≤ τ i ∧ τ i ≤ 122) → z_J G d mX6_readWord (57, [.ref 141, .int (nI q)], [], S, v1) Q := fun z => fin i v1 (by omega) hi (by rw [t_w_h (by omega) z] at he; exact he.symm) e1 a1
      refine sg_X6_readWord_5 hL ?_
      rw [T1.1, e1, nI_clamp (n := i) (by omega), T1.2.2 i (by omega), nI_1]
      refine ⟨fun c => absurd c (nI_ge (by omega) (by omega)), fun _ => ⟨hin, fun c => stop (fun z => ?_), fun c => ⟨hin, fun c2 => stop (fun z => ?_), fun c2 v2 e2 => ?_⟩⟩⟩
      · exact absurd c (nI_nlt (b := 97) z.1 (by omega))
      · exact absurd c2 (nI_nlt (a := 122) z.2 (by omega))
      · have d1 : 97 ≤ τ i := Nat.not_lt.mp (fun z => c (nI_lt (b := 97) z (by omega)))
        have d2 : τ i ≤ 122 := Nat.not_lt.mp (fun z => c2 (nI_lt (a := 122) z (by omega)))
        refine ih (i + 1) v2 (by omega) (by omega) (by rw [← t_w_n (show i < L by omega) ⟨d1, d2⟩]; exact he) (by rw [e2, z_ue rfl rfl]) ⟨fun b b1 => by rw [e2, z_u_ne b1]; exact a1.1 b b1, fun j hj => by rw [e2, z_un (Or.inr hj)]; exact a1.2 j hj⟩
  exact key (L - q) q v (by omega) (Nat.le_refl _) rfl hp ⟨fun _ _ => rfl, fun _ _ => rfl⟩
theorem sp_X6_knd (hd : 6 ≤ d) (hL : z_L S) (hk : k < 30) (hT : c_Tp v τ L) (hτ : ∀ i, τ i < 256) (hp : v 141 12 = nI p) (hpL : p ≤ L)
    (h1 : ∀ v1 q x, pz_K τ L p = .inr (q, x) → q ≤ L → v1 141 12 = nI q → v1 144 k = nI x → c_nw 144 k v v1 → Q (some (.int 1)) S v1)
    (h0 : ∀ v1 f, pz_K τ L p = .inl f → v1 141 1 = nI f.1 → v1 141 2 = nI f.2 → c_ft v v1 → Q (some (.int 0)) S v1) : z_J G d mX6_readKind (0, [.ref 141, .int (nI k), .null, .null], [], S, v) Q := by
  obtain ⟨d, rfl⟩ : ∃ e, d = e + 1 := ⟨d - 1, by omega⟩
  have hq := t_s_b (τ := τ) hpL
  refine sg_X6_readKind_0 hL ?_
  refine sp_X6_signAhead hL hT hτ hp hpL (fun v1 e1 a1 => ⟨_, rfl, rfl, ?_⟩)
  refine sp_X6_readWord (by omega) hL (a1.T hT) hτ e1 hq.2 (fun v2 e2 a2 => ⟨_, rfl, rfl, ?_⟩)
  have ea : c_at v v2 := ⟨fun b b1 => (a2.1 b b1).trans (a1.1 b b1), fun j hj => (a2.2 j hj).trans (a1.2 j hj)⟩
  rw [show t_kw τ (t_s τ L p) (t_w τ L (t_s τ L p)) = t_kd τ L p from rfl, e1]
  have put : t_kd τ L p < 2 → ∀ v3, v3 = z_u v2 144 (nI k).toNatClampNeg (t_kI (t_kd τ L p)) → Q (some (.int 1)) S v3 := by
    intro c v3 e3
    have ek : t_kI (t_kd τ L p) = nI (t_kd τ L p) := by unfold t_kI; rw [if_pos (by omega)]
    rw [nI_clamp (by omega), ek] at e3
    have e : pz_K τ L p = .inr (t_w τ L (t_s τ L p), t_kd τ L p) := by unfold pz_K; rw [if_pos c]
    exact h1 v3 _ _ e (pz_K_r hpL e).2.1 (by rw [e3, z_u_ne (by omega)]; exact e2) (by rw [e3, z_ue rfl rfl]) ⟨fun b b1 b2 => by rw [e3, z_u_ne b2]; exact ea.1 b b1, fun j hj => by rw [e3, z_un (Or.inr hj)]; exact congrFun (ea.1 144 (by omega)) j, fun j hj => by rw [e3, z_u_ne (by omega)]; exact ea.2 j hj⟩
  have hin : vp_in (nI k) 30 := vp_in_nI hk (by omega)
  refine ⟨fun z => ⟨hin, fun v3 e3 => put ?_ v3 e3⟩, fun z => ⟨fun y => ⟨hin, fun v3 e3 => put ?_ v3 e3⟩, fun y => ?_⟩⟩
  · unfold t_kI at z
    split at z
    · have := (nI_eq (b := 0) (by omega) (by omega)).mp z; omega
    · exact absurd z (by decide)
  · unfold t_kI at y
    split at y
    · have := (nI_eq (b := 1) (by omega) (by omega)).mp y; omega
    · exact absurd y (by decide)
  · have c : ¬ t_kd τ L p < 2 := fun w => by
      have ek : t_kI (t_kd τ L p) = nI (t_kd τ L p) := by unfold t_kI; rw [if_pos (by omega)]
      rw [ek] at z y
      rcases (show t_kd τ L p = 0 ∨ t_kd τ L p = 1 by omega) with u | u
      · exact z (by rw [u]; rfl)
      · exact y (by rw [u]; rfl)
    refine sg_X6_hasFault_0 hL (fun v3 e3 v4 e4 => ⟨_, rfl, rfl, rfl, ?_⟩)
    exact h0 v4 (1, t_s τ L p) (by unfold pz_K; rw [if_neg c]) (by rw [e4, z_un (by omega), e3, z_ue rfl rfl]; rfl) (by rw [e4, z_ue rfl rfl]) ⟨fun b b1 => by rw [e4, z_u_ne b1, e3, z_u_ne b1]; exact ea.1 b b1, fun j j1 j2 j3 => by rw [e4, z_un (Or.inr j3), e3, z_un (Or.inr j2)]; exact ea.2 j j1⟩
theorem sp_X6_num (hd : 1 ≤ d) (hL : z_L S) (ha : z_k S a = 21) (hla : z_l S a = 30) (ha2 : a ≠ 141 ∧ a ≠ 142) (hk : k < 30) (hh : hi ≤ 99) (hlo : lo ≤ 99) (hT : c_Tp v τ L) (hτ : ∀ i, τ i < 256) (hp : v 141 12 = nI p) (hpL : p ≤ L)
    (h1 : ∀ v1 q x, pz_N τ L lo hi p = .inr (q, x) → q ≤ L → v1 141 12 = nI q → v1 a k = nI x → c_nw a k v v1 → Q (some (.int 1)) S v1)
    (h0 : ∀ v1 f, pz_N τ L lo hi p = .inl f → v1 141 1 = nI f.1 → v1 141 2 = nI f.2 → c_ft v v1 → Q (some (.int 0)) S v1) : z_J G d mX6_readNumber (0, [.ref 141, .ref a, .int (nI k), .int (nI lo), .int (nI hi), .null, .null], [], S, v) Q := by
  refine sp_X6_readNumber hd hL ha hla ha2 hk hh hlo hT hτ hp hpL (fun v1 hok e1 e2 g => ?_) (fun v1 fk hf e1 e2 g => ?_)
  · have c : t_s τ L p < L ∧ 48 ≤ τ (t_s τ L p) ∧ τ (t_s τ L p) ≤ 57 := hok.1
    have e : pz_N τ L lo hi p = .inr (t_e τ L (t_s τ L p), t_n τ L (t_s τ L p) 0) := by unfold pz_N; rw [if_pos c, if_pos hok.2]
    exact h1 v1 _ _ e (pz_N_r hpL e).2.1 e1 e2 g
  · refine h0 v1 (fk, t_s τ L p) ?_ e1 e2 g
    unfold pz_N
    rcases hf with ⟨rfl, c⟩ | ⟨rfl, c, c2⟩
    · have c : ¬ (t_s τ L p < L ∧ 48 ≤ τ (t_s τ L p) ∧ τ (t_s τ L p) ≤ 57) := c
      rw [if_neg c]
    · have c3 : t_s τ L p < L ∧ 48 ≤ τ (t_s τ L p) ∧ τ (t_s τ L p) ≤ 57 := c
      rw [if_pos c3, if_neg (fun z => c2 ⟨c, z⟩)]
theorem sp_X6_sgn (hd : 1 ≤ d) (hL : z_L S) (hT : c_Tp v τ L) (hτ : ∀ i, τ i < 256) (hp : v 141 12 = nI p) (hpL : p ≤ L) (hc : c < 256)
    (h1 : ∀ v1 q x, pz_G τ L c p = .inr (q, x) → q ≤ L → v1 141 12 = nI q → c_at v v1 → Q (some (.int 1)) S v1)
    (h0 : ∀ v1 f, pz_G τ L c p = .inl f → v1 141 1 = nI f.1 → v1 141 2 = nI f.2 → c_ft v v1 → Q (some (.int 0)) S v1) : z_J G d mX6_readSign (0, [.ref 141, .int (nI c)], [], S, v) Q := by
  refine sp_X6_readSign hd hL hT hτ hp hpL hc (fun v1 q e1 a => ?_) (fun v1 q e1 e2 a => ?_)
  · have q : t_s τ L p < L ∧ τ (t_s τ L p) = c := q
    have e : pz_G τ L c p = .inr (t_s τ L p + 1, 0) := by unfold pz_G; rw [if_pos q]
    exact h1 v1 _ _ e (pz_G_r hpL e).2 e1 a
  · have q : ¬ (t_s τ L p < L ∧ τ (t_s τ L p) = c) := q
    exact h0 v1 (1, t_s τ L p) (by unfold pz_G; rw [if_neg q]) e1 e2 a
end WC
