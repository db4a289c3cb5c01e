/-! CONSTRUCTORS: what they make, cell by cell -/
def z_LSR : List (Option (Nat × Nat)) := [none, none, some (1, 3), some (2, 0), some (2, 1), some (1, 4), some (5, 0), some (5, 1), some (1, 5), some (8, 0), some (8, 1), some (1, 6), some (11, 0), some (11, 1), some (1, 7), some (14, 0), some (14, 1), some (1, 8), some (1, 9), none, some (19, 3), some (20, 0), some (20, 1), some (19, 4), some (23, 0), some (23, 1), some (19, 5), some (26, 0), some (26, 1), some (19, 6), some (29, 0), some (29, 1), some (19, 7), some (32, 0), some (32, 1), some (19, 8), some (19, 9), none, some (37, 2), some (37, 3), some (37, 4), some (40, 0), some (40, 1), some (37, 5), some (37, 6), some (44, 0), some (44, 1), none, some (47, 2), some (47, 3), some (47, 4), some (50, 0), some (50, 1), some (47, 5), some (47, 6), some (54, 0), some (54, 1), none, none, none, some (59, 2), none, some (61, 2), some (61, 3), some (61, 4), some (64, 0), some (64, 1), some (61, 5), some (61, 6), some (68, 0), some (68, 1), none, some (71, 2), some (71, 3), some (71, 4), some (74, 0), some (74, 1), some (71, 5), some (71, 6), some (78, 0), some (78, 1), none, some (81, 2), some (81, 3), some (81, 4), some (84, 0), some (84, 1), some (81, 5), some (81, 6), some (88, 0), some (88, 1), none, some (91, 2), some (91, 3), some (91, 4), some (94, 0), some (94, 1), some (91, 5), some (91, 6), some (98, 0), some (98, 1), none, some (101, 2), some (101, 3), some (101, 4), some (104, 0), some (104, 1), some (101, 5), some (101, 6), some (108, 0), some (108, 1), none, some (111, 2), some (111, 3), some (111, 4), some (114, 0), some (114, 1), some (111, 5), some (111, 6), some (118, 0), some (118, 1), none, some (121, 2), some (121, 3), some (121, 4), some (124, 0), some (124, 1), some (121, 5), some (121, 6), some (128, 0), some (128, 1), none, some (131, 2), some (131, 3), some (131, 4), some (134, 0), some (134, 1), some (131, 5), some (131, 6), some (138, 0), some (138, 1), none, some (141, 3), some (141, 4), some (141, 5), some (141, 6), some (141, 7), some (141, 8), some (141, 9), none, some (149, 4), some (149, 5), some (149, 6), some (149, 7), some (149, 8), some (149, 9), some (149, 10), some (149, 11), none, some (158, 2), some (158, 3), some (158, 4), some (158, 5), some (158, 6), none, some (164, 3), some (164, 4), some (164, 5), some (164, 6), some (168, 0), some (168, 1), some (168, 2), some (168, 3), some (168, 4), some (168, 5), some (168, 6), some (168, 7), some (168, 8), some (168, 9), some (168, 10), some (168, 11), some (168, 12), some (168, 13), some (168, 14), none, none, none, some (186, 5), some (186, 6), some (186, 7), some (186, 8), some (186, 9), some (186, 10), some (186, 11), some (186, 12), none, some (195, 0), some (195, 1), none, some (198, 1), some (198, 3), some (198, 5), some (198, 7), none, some (203, 2), some (203, 3), some (203, 4), some (206, 0), some (206, 1), some (203, 5), some (203, 6), some (210, 0), some (210, 1), none, some (213, 2), some (213, 3), some (213, 4), some (216, 0), some (216, 1), some (213, 5), some (213, 6), some (220, 0), some (220, 1), none, some (223, 1), some (223, 2), some (223, 3), some (223, 4), some (223, 5), some (223, 7), some (223, 10), some (223, 11), some (223, 12), some (223, 13), some (223, 15), some (223, 16), some (223, 24), some (223, 25), some (223, 26), some (223, 27), some (223, 28), some (223, 29), some (223, 30), some (223, 35), some (223, 37), some (223, 38), some (223, 39), some (223, 40), some (223, 41), some (223, 43), some (223, 44), some (223, 45), some (223, 46), some (223, 47), some (223, 48), some (223, 49), some (223, 54), some (223, 55), some (223, 57), some (223, 58), some (223, 64), none]
def k_ex (a : Nat) : Bool := a == 0 || a == 57 || a == 60
theorem k_ex_of {a : Nat} (h : ¬ (a = 0 ∨ a = 57 ∨ a = 60)) : k_ex a = false := by
  unfold k_ex
  rw [Bool.or_eq_false_iff, Bool.or_eq_false_iff]
  refine ⟨⟨?_, ?_⟩, ?_⟩ <;> exact beq_false_of_ne (fun e => h (by omega))
theorem k_getD_mem {l : List (Option Nat)} {j b : Nat} (h : l.getD j none = some b) : (some b, j) ∈ l.zipIdx := by
  rw [List.getD_eq_getElem?_getD] at h
  cases hq : l[j]? with
  | none => rw [hq] at h; cases h
  | some o =>
    rw [hq] at h
    have h : o = some b := h
    subst h
    rw [List.mem_zipIdx_iff_getElem?]
    exact hq
def k_chk (n a : Nat) : Bool := k_ex a || (z_LR.getD a []).zipIdx.all (fun q => match q.1 with
  | some b => decide (z_LSR.getD b none = some (a, q.2)) && decide (a < b) && decide (b < n)
  | none => true)
theorem k_chk_of {n a j b : Nat} (hc : k_chk n a = true) (h : z_lrk a j = some b) : z_LSR.getD b none = some (a, j) ∧ a < b ∧ b < n := by
  unfold z_lrk at h
  split at h
  · cases h
  · rename_i hne
    unfold k_chk at hc
    rw [k_ex_of hne, Bool.false_or] at hc
    have h1 := List.all_eq_true.mp hc _ (k_getD_mem h)
    have h1 : (decide (z_LSR.getD b none = some (a, j)) && decide (a < b) && decide (b < n)) = true := h1
    rw [Bool.and_eq_true, Bool.and_eq_true] at h1
    exact ⟨of_decide_eq_true h1.1.1, of_decide_eq_true h1.1.2, of_decide_eq_true h1.2⟩
def k_full (n : Nat) : Bool := (List.range n).all (k_chk n)
theorem k_full_of {n a j b : Nat} (hf : k_full n = true) (ha : a < n) (h : z_lrk a j = some b) : z_LSR.getD b none = some (a, j) ∧ a < b ∧ b < n := k_chk_of (List.all_eq_true.mp hf a (List.mem_range.mpr ha)) h
theorem k_f262 : k_full 262 = true := by decide +kernel
/-- the first n cells stand as the layout says; a reference whose goal is made is put (but those of the keeper and of the two rows of fabrics) -/
def z_Li (n : Nat) (S : z_Shp) : Prop := n ≤ 262 ∧ z_n S = n ∧ ∀ a, a < n → z_k S a = z_LK.getD a 0 ∧ z_l S a = z_LL.getD a 0 ∧ ∀ j b, z_lrk a j = some b → b < n → z_r S a j = some b
theorem z_Li.k {n : Nat} {S : z_Shp} (h : z_Li n S) (hf : k_full n = true) : z_Lk n S := ⟨by rw [h.2.1]; exact Nat.le_refl _, fun a ha => ⟨(h.2.2 a ha).1, (h.2.2 a ha).2.1, fun j b e => (h.2.2 a ha).2.2 j b e (k_full_of hf ha e).2.2⟩⟩
theorem z_Li.kk {n a k : Nat} {S : z_Shp} (h : z_Li n S) (ha : a < n) (hk : z_LK.getD a 0 = k) : z_k S a = k := by rw [(h.2.2 a ha).1, hk]
theorem z_Li.ok {n a k : Nat} {S : z_Shp} (h : z_Li n S) (ha : a < n) (hk : z_LK.getD a 0 = k + 1) : z_k S a ≠ 0 ∨ z_X ≤ a := Or.inl (by rw [h.kk ha hk]; exact Nat.succ_ne_zero k)
theorem z_Li.al {n k len c s : Nat} {S : z_Shp} (h : z_Li n S) (hn : n < 262) (hk : z_LK.getD n 0 = k) (hl : z_LL.getD n 0 = len) (hs : z_LSR.getD n none = none) : z_Li (n + 1) (z_al S k len c s) := by
  obtain ⟨h0, h1, h2⟩ := h
  refine ⟨hn, by show z_n S + 1 = _; rw [h1], fun a ha => ?_⟩
  rcases Nat.lt_or_ge a n with q | q
  · have e : ¬ a = z_n S := by omega
    refine ⟨?_, ?_, fun j b hb hbn => ?_⟩
    · show (if a = z_n S then k else z_k S a) = _
      rw [if_neg e]; exact (h2 a q).1
    · show (if a = z_n S then len else z_l S a) = _
      rw [if_neg e]; exact (h2 a q).2.1
    · show (if a = z_n S then none else z_r S a j) = _
      rw [if_neg e]
      rcases Nat.lt_or_ge b n with w | w
      · exact (h2 a q).2.2 j b hb w
      · have hb1 := (k_full_of k_f262 (by omega) hb).1
        rw [show b = n by omega, hs] at hb1
        cases hb1
  · have e : a = n := by omega
    subst e
    refine ⟨?_, ?_, fun j b hb hbn => ?_⟩
    · show (if a = z_n S then k else z_k S a) = _
      rw [if_pos h1.symm, hk]
    · show (if a = z_n S then len else z_l S a) = _
      rw [if_pos h1.symm, hl]
    · have := (k_full_of k_f262 hn hb).2.1
      omega
theorem z_Li.sr0 {n a j : Nat} {x : Option Nat} {S : z_Shp} (h : z_Li n S) (ha : z_lrk a j = none) : z_Li n (z_sr S a j x) := by
  obtain ⟨h0, h1, h2⟩ := h
  refine ⟨h0, h1, fun a' ha' => ⟨(h2 a' ha').1, (h2 a' ha').2.1, fun j' b hb hbn => ?_⟩⟩
  show (if a' = a ∧ j' = j then x else z_r S a' j') = _
  rw [if_neg (fun z => by rw [z.1, z.2, ha] at hb; cases hb)]
  exact (h2 a' ha').2.2 j' b hb hbn
theorem z_Li.as {n k len c s a j : Nat} {S : z_Shp} (h : z_Li n S) (hn : n < 262) (hk : z_LK.getD n 0 = k) (hl : z_LL.getD n 0 = len) (ha : a < n) (hs : z_lrk a j = some n) : z_Li (n + 1) (z_sr (z_al S k len c s) a j (some n)) := by
  obtain ⟨h0, h1, h2⟩ := h
  have hs1 := (k_full_of k_f262 (by omega) hs).1
  refine ⟨hn, by show z_n S + 1 = _; rw [h1], fun a' ha' => ?_⟩
  rcases Nat.lt_or_ge a' n with q | q
  · have e : ¬ a' = z_n S := by omega
    refine ⟨?_, ?_, fun j' b hb hbn => ?_⟩
    · show (if a' = z_n S then k else z_k S a') = _
      rw [if_neg e]; exact (h2 a' q).1
    · show (if a' = z_n S then len else z_l S a') = _
      rw [if_neg e]; exact (h2 a' q).2.1
    · show (if a' = a ∧ j' = j then some n else if a' = z_n S then none else z_r S a' j') = _
      by_cases z : a' = a ∧ j' = j
      · rw [if_pos z]
        rw [z.1, z.2, hs] at hb
        exact hb
      · rw [if_neg z, if_neg e]
        rcases Nat.lt_or_ge b n with w | w
        · exact (h2 a' q).2.2 j' b hb w
        · have hb1 := (k_full_of k_f262 (by omega) hb).1
          rw [show b = n by omega, hs1] at hb1
          cases hb1
          exact absurd ⟨rfl, rfl⟩ z
  · have e : a' = n := by omega
    subst e
    refine ⟨?_, ?_, fun j' b hb hbn => ?_⟩
    · show (if a' = z_n S then k else z_k S a') = _
      rw [if_pos h1.symm, hk]
    · show (if a' = z_n S then len else z_l S a') = _
      rw [if_pos h1.symm, hl]
    · have := (k_full_of k_f262 hn hb).2.1
      omega
/-- a grid stands in the layout: its cell n, N rows of length M -/
def k_grd (n N M : Nat) : Bool := decide (z_LK.getD n 0 = 25) && decide (z_LL.getD n 0 = N) && decide (n + 1 + N ≤ 262) && (List.range N).all (fun i => decide (z_LK.getD (n + 1 + i) 0 = 21) && decide (z_LL.getD (n + 1 + i) 0 = M) && decide (z_LR.getD (n + 1 + i) [] = []) && decide (z_LSR.getD (n + 1 + i) none = some (n, i)))
theorem z_Li.gs {n N M a j : Nat} {S : z_Shp} (h : z_Li n S) (hg : k_grd n N M = true) (ha : a < n) (hs : z_lrk a j = some n) : z_Li (n + 1 + N) (z_sr (z_gr S N M) a j (some n)) := by
  obtain ⟨h0, h1, h2⟩ := h
  unfold k_grd at hg
  rw [Bool.and_eq_true, Bool.and_eq_true, Bool.and_eq_true] at hg
  obtain ⟨⟨⟨g1, g2⟩, g3⟩, g4⟩ := hg
  have g1 := of_decide_eq_true g1
  have g2 := of_decide_eq_true g2
  have g3 := of_decide_eq_true g3
  have g4 : ∀ i, i < N → z_LK.getD (n + 1 + i) 0 = 21 ∧ z_LL.getD (n + 1 + i) 0 = M ∧ z_LR.getD (n + 1 + i) [] = [] ∧ z_LSR.getD (n + 1 + i) none = some (n, i) := fun i hi => by
    have q := List.all_eq_true.mp g4 i (List.mem_range.mpr hi)
    rw [Bool.and_eq_true, Bool.and_eq_true, Bool.and_eq_true] at q
    exact ⟨of_decide_eq_true q.1.1.1, of_decide_eq_true q.1.1.2, of_decide_eq_true q.1.2, of_decide_eq_true q.2⟩
  have hs1 := (k_full_of k_f262 (by omega) hs).1
  refine ⟨g3, by show z_n S + 1 + N = _; rw [h1], fun a' ha' => ?_⟩
  rcases Nat.lt_trichotomy a' n with q | q | q
  · have e : ¬ a' = z_n S := by omega
    have e2 : ¬ (z_n S < a' ∧ a' ≤ z_n S + N) := by omega
    refine ⟨?_, ?_, fun j' b hb hbn => ?_⟩
    · show (if a' = z_n S then 25 else if z_n S < a' ∧ a' ≤ z_n S + N then 21 else z_k S a') = _
      rw [if_neg e, if_neg e2]; exact (h2 a' q).1
    · show (if a' = z_n S then N else if z_n S < a' ∧ a' ≤ z_n S + N then M else z_l S a') = _
      rw [if_neg e, if_neg e2]; exact (h2 a' q).2.1
    · show (if a' = a ∧ j' = j then some n else if a' = z_n S then (if j' < N then some (z_n S + 1 + j') else none) else if z_n S < a' ∧ a' ≤ z_n S + N then none else z_r S a' j') = _
      by_cases z : a' = a ∧ j' = j
      · rw [if_pos z]
        rw [z.1, z.2, hs] at hb
        exact hb
      · rw [if_neg z, if_neg e, if_neg e2]
        rcases Nat.lt_trichotomy b n with w | w | w
        · exact (h2 a' q).2.2 j' b hb w
        · have hb1 := (k_full_of k_f262 (by omega) hb).1
          rw [w, hs1] at hb1
          cases hb1
          exact absurd ⟨rfl, rfl⟩ z
        · have hb1 := (k_full_of k_f262 (by omega) hb).1
          have hb2 := (g4 (b - (n + 1)) (by omega)).2.2.2
          rw [show n + 1 + (b - (n + 1)) = b by omega, hb1] at hb2
          cases hb2
          omega
  · subst q
    refine ⟨?_, ?_, fun j' b hb hbn => ?_⟩
    · show (if a' = z_n S then 25 else _) = _
      rw [if_pos h1.symm, g1]
    · show (if a' = z_n S then N else _) = _
      rw [if_pos h1.symm, g2]
    · have hb1 := (k_full_of k_f262 (by omega) hb)
      have hb2 := (g4 (b - (a' + 1)) (by omega)).2.2.2
      rw [show a' + 1 + (b - (a' + 1)) = b by omega, hb1.1] at hb2
      have hb3 : j' = b - (a' + 1) := by cases hb2; rfl
      have ne : ¬ (a' = a ∧ j' = j) := fun z => by omega
      show (if a' = a ∧ j' = j then some a' else if a' = z_n S then (if j' < N then some (z_n S + 1 + j') else none) else _) = _
      rw [if_neg ne, if_pos h1.symm, if_pos (by omega)]
      exact congrArg some (by omega)
  · obtain ⟨i, rfl⟩ : ∃ i, a' = n + 1 + i := ⟨a' - (n + 1), by omega⟩
    have hi : i < N := by omega
    have e : ¬ n + 1 + i = z_n S := by omega
    have e2 : z_n S < n + 1 + i ∧ n + 1 + i ≤ z_n S + N := by omega
    refine ⟨?_, ?_, fun j' b hb hbn => ?_⟩
    · show (if n + 1 + i = z_n S then 25 else if z_n S < n + 1 + i ∧ n + 1 + i ≤ z_n S + N then 21 else _) = _
      rw [if_neg e, if_pos e2, (g4 i hi).1]
    · show (if n + 1 + i = z_n S then N else if z_n S < n + 1 + i ∧ n + 1 + i ≤ z_n S + N then M else _) = _
      rw [if_neg e, if_pos e2, (g4 i hi).2.1]
    · have hb := z_lrk_sub hb
      rw [(g4 i hi).2.2.1] at hb
      cases hb
/-- since (S0, v0), when the cell n0 was the next one: cells were made, nothing else was changed, what is new is 0 -/
def k_T (n0 : Nat) (S0 : z_Shp) (v0 : z_Dat) (n : Nat) (S : z_Shp) (v : z_Dat) (cc ss : Nat) : Prop := z_Li n S ∧ z_c S = z_c S0 + cc ∧ z_s S = z_s S0 + ss ∧ (∀ a, a < n0 → z_r S a = z_r S0 a ∧ v a = v0 a) ∧ ∀ a, n0 ≤ a → a < n → v a = fun _ => 0
section KT
variable {G : z_G} {d : Nat} {M : z_M} {pc : Nat} {ls st : List Value} {S S0 : z_Shp} {v v0 : z_Dat} {Q : Option Value → z_Shp → z_Dat → Prop} {n0 n cc ss : Nat}
theorem k_new {idx ci : Nat} (hd : decode M.2.1 pc = .ok (.new idx, 3)) (hc : ci < 12) (hw : Cond.classLink M.1.cls idx (z_cn ci) ∈ z_TB) (hi : Cond.instantiable (z_cn ci) (z_nf ci) ∈ z_TB) (hini : Cond.initialized (z_cn ci) ∈ z_TB) (hL : z_Li n S) (hn : n < 262) (hk : z_LK.getD n 0 = ci + 1) (hl : z_LL.getD n 0 = 0) (hs : z_LSR.getD n none = none) (ho1 : z_okr S ls) (ho2 : z_okr S st)
    (hj : ∀ S1 v1, k_T n S v (n + 1) S1 v1 1 (z_nf ci) → z_J G d M (pc + 3, ls, .ref n :: st, S1, v1) Q) : z_J G d M (pc, ls, st, S, v) Q := by
  refine zj_new hd hc hw hi hini (by rw [hL.2.1]; exact Nat.lt_trans hn (Nat.le_of_ble_eq_true rfl)) ho1 ho2 ?_
  rw [hL.2.1]
  refine hj _ _ ⟨hL.al hn hk hl hs, rfl, rfl, fun a ha => ⟨?_, z_ua_ne (Nat.ne_of_lt ha)⟩, fun a h1 h2 => ?_⟩
  · funext i
    show (if a = z_n S then none else z_r S a i) = _
    rw [if_neg (by rw [hL.2.1]; omega)]
  · rw [show a = n by omega]
    exact z_ua_eq _ _ _
theorem k_T.as {k len a j : Nat} (h : k_T n0 S0 v0 n S v cc ss) (hn : n < 262) (hk : z_LK.getD n 0 = k) (hl : z_LL.getD n 0 = len) (h0 : n0 ≤ a) (ha : a < n) (hs : z_lrk a j = some n) : k_T n0 S0 v0 (n + 1) (z_sr (z_al S k len 1 len) a j (some n)) (z_ua v n (fun _ => 0)) (cc + 1) (ss + len) := by
  obtain ⟨h1, h2, h3, h4, h5⟩ := h
  refine ⟨h1.as hn hk hl ha hs, by show z_c S + 1 = _; omega, by show z_s S + len = _; omega, fun b hb => ⟨?_, ?_⟩, fun b q1 q2 => ?_⟩
  · rw [← (h4 b hb).1]
    funext i
    show (if b = a ∧ i = j then some n else if b = z_n S then none else z_r S b i) = _
    rw [if_neg (fun z => by omega), if_neg (by rw [h1.2.1]; omega)]
  · rw [z_ua_ne (by omega)]; exact (h4 b hb).2
  · rcases Nat.lt_or_ge b n with w | w
    · rw [z_ua_ne (by omega)]; exact h5 b q1 w
    · rw [show b = n by omega]; exact z_ua_eq _ _ _
theorem k_T.gs {N m a j : Nat} (h : k_T n0 S0 v0 n S v cc ss) (hg : k_grd n N m = true) (h0 : n0 ≤ a) (ha : a < n) (hs : z_lrk a j = some n) : k_T n0 S0 v0 (n + 1 + N) (z_sr (z_gr S N m) a j (some n)) (z_gv v n N) (cc + 1 + N) (ss + N + N * m) := by
  obtain ⟨h1, h2, h3, h4, h5⟩ := h
  refine ⟨h1.gs hg ha hs, by show z_c S + 1 + N = _; omega, by show z_s S + N + N * m = _; omega, fun b hb => ⟨?_, ?_⟩, fun b q1 q2 => ?_⟩
  · rw [← (h4 b hb).1]
    funext i
    show (if b = a ∧ i = j then some n else if b = z_n S then _ else if z_n S < b ∧ b ≤ z_n S + N then none else z_r S b i) = _
    rw [if_neg (fun z => by omega), if_neg (by rw [h1.2.1]; omega), if_neg (by rw [h1.2.1]; omega)]
  · show (if n ≤ b ∧ b ≤ n + N then _ else v b) = _
    rw [if_neg (by omega)]; exact (h4 b hb).2
  · show (if n ≤ b ∧ b ≤ n + N then _ else v b) = _
    rcases Nat.lt_or_ge b n with w | w
    · rw [if_neg (by omega)]; exact h5 b q1 w
    · rw [if_pos (by omega)]

theorem k_fldI {x : Int32} {len a j ci idx : Nat} (h : k_T n0 S0 v0 n S v cc ss) (hd : decode M.2.1 pc = .ok (.newarray .int, 2)) (hd2 : decode M.2.1 (pc + 2) = .ok (.putfield idx, 3)) (hw : Cond.fieldLink M.1.cls idx (z_T ci j).1 (z_T ci j).2.1 (z_T ci j).2.2.1 ∈ z_TB) (hc : ci < 12) (hj2 : j < z_nf ci) (hr2 : z_isr ci j = true) (hfin : (z_T ci j).2.2.2 = true) (hini : M.1.name = "<init>") (hdc : (z_T ci j).1 = M.1.cls) (hn2 : ∀ q, narrow (z_tyf ci j) (.ref q) = .ref q) (hfit : ∀ q, fits (z_tyf ci j) (.ref q) = true) (hxn : x = nI len) (hlen : len ≤ 100000) (hn : n < 262) (hk : z_LK.getD n 0 = 21) (hl : z_LL.getD n 0 = len) (h0 : n0 ≤ a) (ha : a < n) (hka : z_LK.getD a 0 = ci + 1) (hs : z_lrk a j = some n) (ho1 : z_okr S ls) (ho2 : z_okr S (.ref a :: st))
    (hj : ∀ S1 v1, k_T n0 S0 v0 (n + 1) S1 v1 (cc + 1) (ss + len) → z_J G d M (pc + 5, ls, st, S1, v1) Q) : z_J G d M (pc, ls, .int x :: .ref a :: st, S, v) Q := by
  refine zj_newI hd hxn hlen (by rw [h.1.2.1]; exact Nat.lt_trans hn (Nat.le_of_ble_eq_true rfl)) ho1 ho2 ?_
  rw [h.1.2.1]
  refine zj_putRF hd2 hw hc hj2 ?_ hr2 hfin hini hdc hn2 hfit (Or.inl ?_) ?_
  · show (if a = z_n S then 21 else z_k S a) = _
    rw [if_neg (by rw [h.1.2.1]; omega), h.1.kk ha hka]
  · show n < z_n S + 1
    rw [h.1.2.1]; omega
  · exact hj _ _ (h.as hn hk hl h0 ha hs)
theorem k_fldB {x : Int32} {len a j ci idx : Nat} (h : k_T n0 S0 v0 n S v cc ss) (hd : decode M.2.1 pc = .ok (.newarray .byte, 2)) (hd2 : decode M.2.1 (pc + 2) = .ok (.putfield idx, 3)) (hw : Cond.fieldLink M.1.cls idx (z_T ci j).1 (z_T ci j).2.1 (z_T ci j).2.2.1 ∈ z_TB) (hc : ci < 12) (hj2 : j < z_nf ci) (hr2 : z_isr ci j = true) (hfin : (z_T ci j).2.2.2 = true) (hini : M.1.name = "<init>") (hdc : (z_T ci j).1 = M.1.cls) (hn2 : ∀ q, narrow (z_tyf ci j) (.ref q) = .ref q) (hfit : ∀ q, fits (z_tyf ci j) (.ref q) = true) (hxn : x = nI len) (hlen : len ≤ 100000) (hn : n < 262) (hk : z_LK.getD n 0 = 22) (hl : z_LL.getD n 0 = len) (h0 : n0 ≤ a) (ha : a < n) (hka : z_LK.getD a 0 = ci + 1) (hs : z_lrk a j = some n) (ho1 : z_okr S ls) (ho2 : z_okr S (.ref a :: st))
    (hj : ∀ S1 v1, k_T n0 S0 v0 (n + 1) S1 v1 (cc + 1) (ss + len) → z_J G d M (pc + 5, ls, st, S1, v1) Q) : z_J G d M (pc, ls, .int x :: .ref a :: st, S, v) Q := by
  refine zj_newB hd hxn hlen (by rw [h.1.2.1]; exact Nat.lt_trans hn (Nat.le_of_ble_eq_true rfl)) ho1 ho2 ?_
  rw [h.1.2.1]
  refine zj_putRF hd2 hw hc hj2 ?_ hr2 hfin hini hdc hn2 hfit (Or.inl ?_) ?_
  · show (if a = z_n S then 22 else z_k S a) = _
    rw [if_neg (by rw [h.1.2.1]; omega), h.1.kk ha hka]
  · show n < z_n S + 1
    rw [h.1.2.1]; omega
  · exact hj _ _ (h.as hn hk hl h0 ha hs)
theorem k_fldZ {x : Int32} {len a j ci idx : Nat} (h : k_T n0 S0 v0 n S v cc ss) (hd : decode M.2.1 pc = .ok (.newarray .boolean, 2)) (hd2 : decode M.2.1 (pc + 2) = .ok (.putfield idx, 3)) (hw : Cond.fieldLink M.1.cls idx (z_T ci j).1 (z_T ci j).2.1 (z_T ci j).2.2.1 ∈ z_TB) (hc : ci < 12) (hj2 : j < z_nf ci) (hr2 : z_isr ci j = true) (hfin : (z_T ci j).2.2.2 = true) (hini : M.1.name = "<init>") (hdc : (z_T ci j).1 = M.1.cls) (hn2 : ∀ q, narrow (z_tyf ci j) (.ref q) = .ref q) (hfit : ∀ q, fits (z_tyf ci j) (.ref q) = true) (hxn : x = nI len) (hlen : len ≤ 100000) (hn : n < 262) (hk : z_LK.getD n 0 = 23) (hl : z_LL.getD n 0 = len) (h0 : n0 ≤ a) (ha : a < n) (hka : z_LK.getD a 0 = ci + 1) (hs : z_lrk a j = some n) (ho1 : z_okr S ls) (ho2 : z_okr S (.ref a :: st))
    (hj : ∀ S1 v1, k_T n0 S0 v0 (n + 1) S1 v1 (cc + 1) (ss + len) → z_J G d M (pc + 5, ls, st, S1, v1) Q) : z_J G d M (pc, ls, .int x :: .ref a :: st, S, v) Q := by
  refine zj_newZ hd hxn hlen (by rw [h.1.2.1]; exact Nat.lt_trans hn (Nat.le_of_ble_eq_true rfl)) ho1 ho2 ?_
  rw [h.1.2.1]
  refine zj_putRF hd2 hw hc hj2 ?_ hr2 hfin hini hdc hn2 hfit (Or.inl ?_) ?_
  · show (if a = z_n S then 23 else z_k S a) = _
    rw [if_neg (by rw [h.1.2.1]; omega), h.1.kk ha hka]
  · show n < z_n S + 1
    rw [h.1.2.1]; omega
  · exact hj _ _ (h.as hn hk hl h0 ha hs)
theorem k_fldG {x y : Int32} {N m a j ci idx idx0 : Nat} (h : k_T n0 S0 v0 n S v cc ss) (hd : decode M.2.1 pc = .ok (.multianewarray idx0 2, 4)) (hw0 : Cond.classLink M.1.cls idx0 "[[I" ∈ z_TB) (hd2 : decode M.2.1 (pc + 4) = .ok (.putfield idx, 3)) (hw : Cond.fieldLink M.1.cls idx (z_T ci j).1 (z_T ci j).2.1 (z_T ci j).2.2.1 ∈ z_TB) (hc : ci < 12) (hj2 : j < z_nf ci) (hr2 : z_isr ci j = true) (hfin : (z_T ci j).2.2.2 = true) (hini : M.1.name = "<init>") (hdc : (z_T ci j).1 = M.1.cls) (hn2 : ∀ q, narrow (z_tyf ci j) (.ref q) = .ref q) (hfit : ∀ q, fits (z_tyf ci j) (.ref q) = true) (hxn : x = nI N) (hym : y = nI m) (hN : N ≤ 1000) (hm : m ≤ 1000) (hg : k_grd n N m = true) (h0 : n0 ≤ a) (ha : a < n) (hka : z_LK.getD a 0 = ci + 1) (hs : z_lrk a j = some n) (ho1 : z_okr S ls) (ho2 : z_okr S (.ref a :: st))
    (hj : ∀ S1 v1, k_T n0 S0 v0 (n + 1 + N) S1 v1 (cc + 1 + N) (ss + N + N * m) → z_J G d M (pc + 7, ls, st, S1, v1) Q) : z_J G d M (pc, ls, .int y :: .int x :: .ref a :: st, S, v) Q := by
  have hz : z_n S + 1001 < z_X := by
    rw [h.1.2.1]
    exact Nat.lt_of_le_of_lt (Nat.add_le_add_right h.1.1 1001) (Nat.le_of_ble_eq_true rfl)
  refine zj_grid hd hw0 hxn hym hN hm hz ho1 ho2 ?_
  rw [h.1.2.1]
  refine zj_putRF hd2 hw hc hj2 ?_ hr2 hfin hini hdc hn2 hfit (Or.inl ?_) ?_
  · show (if a = z_n S then 25 else if z_n S < a ∧ a ≤ z_n S + N then 21 else z_k S a) = _
    rw [if_neg (by rw [h.1.2.1]; omega), if_neg (by rw [h.1.2.1]; omega), h.1.kk ha hka]
  · show n < z_n S + 1 + N
    rw [h.1.2.1]; omega
  · exact hj _ _ (h.gs hg h0 ha hs)
end KT
section KP
variable {G : z_G} {d : Nat} {S S0 : z_Shp} {v v0 : z_Dat} {Q : Option Value → z_Shp → z_Dat → Prop} {n0 cc ss : Nat}
theorem sp_X6_init (h0 : k_T 141 S0 v0 142 S v cc ss) (h : ∀ S1 v1, k_T 141 S0 v0 149 S1 v1 (cc + 7) (ss + 392) → Q none S1 v1) : z_J G (d + 1) mX6_init (0, [.ref 141], [], S, v) Q := by
  refine zj_aload_n dX6_init_0 rfl rfl ?_
  refine zj_objI dX6_init_1 wl_X6_3 (Nat.le_of_ble_eq_true rfl) ?_
  refine zj_aload_n dX6_init_4 rfl rfl ?_
  refine zj_sipush (x := 240) dX6_init_5 rfl ?_
  refine k_fldI (ci := 6) (j := 3) (a := 141) (len := 240) h0 dX6_init_8 dX6_init_10 wf_X6_9 (by decide) (by decide) rfl rfl rfl rfl (fun _ => rfl) (fun _ => rfl) rfl (by decide) (by decide) rfl rfl (by decide) (by decide) rfl rfl ⟨h0.1.ok (by decide) rfl, trivial⟩ ⟨h0.1.ok (by decide) rfl, trivial⟩ (fun S1 v1 h1 => ?_)
  refine zj_aload_n dX6_init_13 rfl rfl ?_
  refine zj_bipush (x := 30) dX6_init_14 rfl ?_
  refine k_fldI (ci := 6) (j := 4) (a := 141) (len := 30) h1 dX6_init_16 dX6_init_18 wf_X6_15 (by decide) (by decide) rfl rfl rfl rfl (fun _ => rfl) (fun _ => rfl) rfl (by decide) (by decide) rfl rfl (by decide) (by decide) rfl rfl ⟨h1.1.ok (by decide) rfl, trivial⟩ ⟨h1.1.ok (by decide) rfl, trivial⟩ (fun S2 v2 h2 => ?_)
  refine zj_aload_n dX6_init_21 rfl rfl ?_
  refine zj_bipush (x := 30) dX6_init_22 rfl ?_
  refine k_fldI (ci := 6) (j := 5) (a := 141) (len := 30) h2 dX6_init_24 dX6_init_26 wf_X6_18 (by decide) (by decide) rfl rfl rfl rfl (fun _ => rfl) (fun _ => rfl) rfl (by decide) (by decide) rfl rfl (by decide) (by decide) rfl rfl ⟨h2.1.ok (by decide) rfl, trivial⟩ ⟨h2.1.ok (by decide) rfl, trivial⟩ (fun S3 v3 h3 => ?_)
  refine zj_aload_n dX6_init_29 rfl rfl ?_
  refine zj_bipush (x := 30) dX6_init_30 rfl ?_
  refine k_fldI (ci := 6) (j := 6) (a := 141) (len := 30) h3 dX6_init_32 dX6_init_34 wf_X6_21 (by decide) (by decide) rfl rfl rfl rfl (fun _ => rfl) (fun _ => rfl) rfl (by decide) (by decide) rfl rfl (by decide) (by decide) rfl rfl ⟨h3.1.ok (by decide) rfl, trivial⟩ ⟨h3.1.ok (by decide) rfl, trivial⟩ (fun S4 v4 h4 => ?_)
  refine zj_aload_n dX6_init_37 rfl rfl ?_
  refine zj_bipush (x := 30) dX6_init_38 rfl ?_
  refine k_fldI (ci := 6) (j := 7) (a := 141) (len := 30) h4 dX6_init_40 dX6_init_42 wf_X6_24 (by decide) (by decide) rfl rfl rfl rfl (fun _ => rfl) (fun _ => rfl) rfl (by decide) (by decide) rfl rfl (by decide) (by decide) rfl rfl ⟨h4.1.ok (by decide) rfl, trivial⟩ ⟨h4.1.ok (by decide) rfl, trivial⟩ (fun S5 v5 h5 => ?_)
  refine zj_aload_n dX6_init_45 rfl rfl ?_
  refine zj_bipush (x := 30) dX6_init_46 rfl ?_
  refine k_fldI (ci := 6) (j := 8) (a := 141) (len := 30) h5 dX6_init_48 dX6_init_50 wf_X6_27 (by decide) (by decide) rfl rfl rfl rfl (fun _ => rfl) (fun _ => rfl) rfl (by decide) (by decide) rfl rfl (by decide) (by decide) rfl rfl ⟨h5.1.ok (by decide) rfl, trivial⟩ ⟨h5.1.ok (by decide) rfl, trivial⟩ (fun S6 v6 h6 => ?_)
  refine zj_aload_n dX6_init_53 rfl rfl ?_
  refine zj_iconst (x := 2) dX6_init_54 rfl ?_
  refine k_fldI (ci := 6) (j := 9) (a := 141) (len := 2) h6 dX6_init_55 dX6_init_57 wf_X6_30 (by decide) (by decide) rfl rfl rfl rfl (fun _ => rfl) (fun _ => rfl) rfl (by decide) (by decide) rfl rfl (by decide) (by decide) rfl rfl ⟨h6.1.ok (by decide) rfl, trivial⟩ ⟨h6.1.ok (by decide) rfl, trivial⟩ (fun S7 v7 h7 => ?_)
  exact zj_vret dX6_init_60 rfl (h _ _ h7)
theorem sp_X4_init (h0 : k_T 149 S0 v0 150 S v cc ss) (h : ∀ S1 v1, k_T 149 S0 v0 158 S1 v1 (cc + 8) (ss + 2043) → Q none S1 v1) : z_J G (d + 1) mX4_init (0, [.ref 149], [], S, v) Q := by
  refine zj_aload_n dX4_init_0 rfl rfl ?_
  refine zj_objI dX4_init_1 wl_X4_3 (Nat.le_of_ble_eq_true rfl) ?_
  refine zj_aload_n dX4_init_4 rfl rfl ?_
  refine zj_sipush (x := 321) dX4_init_5 rfl ?_
  refine k_fldI (ci := 4) (j := 4) (a := 149) (len := 321) h0 dX4_init_8 dX4_init_10 wf_X4_9 (by decide) (by decide) rfl rfl rfl rfl (fun _ => rfl) (fun _ => rfl) rfl (by decide) (by decide) rfl rfl (by decide) (by decide) rfl rfl ⟨h0.1.ok (by decide) rfl, trivial⟩ ⟨h0.1.ok (by decide) rfl, trivial⟩ (fun S1 v1 h1 => ?_)
  refine zj_aload_n dX4_init_13 rfl rfl ?_
  refine zj_sipush (x := 321) dX4_init_14 rfl ?_
  refine k_fldI (ci := 4) (j := 5) (a := 149) (len := 321) h1 dX4_init_17 dX4_init_19 wf_X4_15 (by decide) (by decide) rfl rfl rfl rfl (fun _ => rfl) (fun _ => rfl) rfl (by decide) (by decide) rfl rfl (by decide) (by decide) rfl rfl ⟨h1.1.ok (by decide) rfl, trivial⟩ ⟨h1.1.ok (by decide) rfl, trivial⟩ (fun S2 v2 h2 => ?_)
  refine zj_aload_n dX4_init_22 rfl rfl ?_
  refine zj_sipush (x := 321) dX4_init_23 rfl ?_
  refine k_fldI (ci := 4) (j := 6) (a := 149) (len := 321) h2 dX4_init_26 dX4_init_28 wf_X4_18 (by decide) (by decide) rfl rfl rfl rfl (fun _ => rfl) (fun _ => rfl) rfl (by decide) (by decide) rfl rfl (by decide) (by decide) rfl rfl ⟨h2.1.ok (by decide) rfl, trivial⟩ ⟨h2.1.ok (by decide) rfl, trivial⟩ (fun S3 v3 h3 => ?_)
  refine zj_aload_n dX4_init_31 rfl rfl ?_
  refine zj_bipush (x := 108) dX4_init_32 rfl ?_
  refine k_fldI (ci := 4) (j := 7) (a := 149) (len := 108) h3 dX4_init_34 dX4_init_36 wf_X4_21 (by decide) (by decide) rfl rfl rfl rfl (fun _ => rfl) (fun _ => rfl) rfl (by decide) (by decide) rfl rfl (by decide) (by decide) rfl rfl ⟨h3.1.ok (by decide) rfl, trivial⟩ ⟨h3.1.ok (by decide) rfl, trivial⟩ (fun S4 v4 h4 => ?_)
  refine zj_aload_n dX4_init_39 rfl rfl ?_
  refine zj_sipush (x := 648) dX4_init_40 rfl ?_
  refine k_fldI (ci := 4) (j := 8) (a := 149) (len := 648) h4 dX4_init_43 dX4_init_45 wf_X4_24 (by decide) (by decide) rfl rfl rfl rfl (fun _ => rfl) (fun _ => rfl) rfl (by decide) (by decide) rfl rfl (by decide) (by decide) rfl rfl ⟨h4.1.ok (by decide) rfl, trivial⟩ ⟨h4.1.ok (by decide) rfl, trivial⟩ (fun S5 v5 h5 => ?_)
  refine zj_aload_n dX4_init_48 rfl rfl ?_
  refine zj_bipush (x := 108) dX4_init_49 rfl ?_
  refine k_fldI (ci := 4) (j := 9) (a := 149) (len := 108) h5 dX4_init_51 dX4_init_53 wf_X4_27 (by decide) (by decide) rfl rfl rfl rfl (fun _ => rfl) (fun _ => rfl) rfl (by decide) (by decide) rfl rfl (by decide) (by decide) rfl rfl ⟨h5.1.ok (by decide) rfl, trivial⟩ ⟨h5.1.ok (by decide) rfl, trivial⟩ (fun S6 v6 h6 => ?_)
  refine zj_aload_n dX4_init_56 rfl rfl ?_
  refine zj_bipush (x := 108) dX4_init_57 rfl ?_
  refine k_fldI (ci := 4) (j := 10) (a := 149) (len := 108) h6 dX4_init_59 dX4_init_61 wf_X4_30 (by decide) (by decide) rfl rfl rfl rfl (fun _ => rfl) (fun _ => rfl) rfl (by decide) (by decide) rfl rfl (by decide) (by decide) rfl rfl ⟨h6.1.ok (by decide) rfl, trivial⟩ ⟨h6.1.ok (by decide) rfl, trivial⟩ (fun S7 v7 h7 => ?_)
  refine zj_aload_n dX4_init_64 rfl rfl ?_
  refine zj_bipush (x := 108) dX4_init_65 rfl ?_
  refine k_fldI (ci := 4) (j := 11) (a := 149) (len := 108) h7 dX4_init_67 dX4_init_69 wf_X4_33 (by decide) (by decide) rfl rfl rfl rfl (fun _ => rfl) (fun _ => rfl) rfl (by decide) (by decide) rfl rfl (by decide) (by decide) rfl rfl ⟨h7.1.ok (by decide) rfl, trivial⟩ ⟨h7.1.ok (by decide) rfl, trivial⟩ (fun S8 v8 h8 => ?_)
  exact zj_vret dX4_init_72 rfl (h _ _ h8)
theorem sp_X8_init (h0 : k_T 158 S0 v0 159 S v cc ss) (h : ∀ S1 v1, k_T 158 S0 v0 164 S1 v1 (cc + 5) (ss + 2559) → Q none S1 v1) : z_J G (d + 1) mX8_init (0, [.ref 158], [], S, v) Q := by
  refine zj_aload_n dX8_init_0 rfl rfl ?_
  refine zj_objI dX8_init_1 wl_X8_5 (Nat.le_of_ble_eq_true rfl) ?_
  refine zj_aload_n dX8_init_4 rfl rfl ?_
  refine zj_sipush (x := 256) dX8_init_5 rfl ?_
  refine k_fldI (ci := 8) (j := 2) (a := 158) (len := 256) h0 dX8_init_8 dX8_init_10 wf_X8_13 (by decide) (by decide) rfl rfl rfl rfl (fun _ => rfl) (fun _ => rfl) rfl (by decide) (by decide) rfl rfl (by decide) (by decide) rfl rfl ⟨h0.1.ok (by decide) rfl, trivial⟩ ⟨h0.1.ok (by decide) rfl, trivial⟩ (fun S1 v1 h1 => ?_)
  refine zj_aload_n dX8_init_13 rfl rfl ?_
  refine zj_bipush (x := 109) dX8_init_14 rfl ?_
  refine k_fldI (ci := 8) (j := 3) (a := 158) (len := 109) h1 dX8_init_16 dX8_init_18 wf_X8_17 (by decide) (by decide) rfl rfl rfl rfl (fun _ => rfl) (fun _ => rfl) rfl (by decide) (by decide) rfl rfl (by decide) (by decide) rfl rfl ⟨h1.1.ok (by decide) rfl, trivial⟩ ⟨h1.1.ok (by decide) rfl, trivial⟩ (fun S2 v2 h2 => ?_)
  refine zj_aload_n dX8_init_21 rfl rfl ?_
  refine zj_sipush (x := 256) dX8_init_22 rfl ?_
  refine k_fldI (ci := 8) (j := 4) (a := 158) (len := 256) h2 dX8_init_25 dX8_init_27 wf_X8_20 (by decide) (by decide) rfl rfl rfl rfl (fun _ => rfl) (fun _ => rfl) rfl (by decide) (by decide) rfl rfl (by decide) (by decide) rfl rfl ⟨h2.1.ok (by decide) rfl, trivial⟩ ⟨h2.1.ok (by decide) rfl, trivial⟩ (fun S3 v3 h3 => ?_)
  refine zj_aload_n dX8_init_30 rfl rfl ?_
  refine zj_sipush (x := 969) dX8_init_31 rfl ?_
  refine k_fldI (ci := 8) (j := 5) (a := 158) (len := 969) h3 dX8_init_34 dX8_init_36 wf_X8_23 (by decide) (by decide) rfl rfl rfl rfl (fun _ => rfl) (fun _ => rfl) rfl (by decide) (by decide) rfl rfl (by decide) (by decide) rfl rfl ⟨h3.1.ok (by decide) rfl, trivial⟩ ⟨h3.1.ok (by decide) rfl, trivial⟩ (fun S4 v4 h4 => ?_)
  refine zj_aload_n dX8_init_39 rfl rfl ?_
  refine zj_sipush (x := 969) dX8_init_40 rfl ?_
  refine k_fldI (ci := 8) (j := 6) (a := 158) (len := 969) h4 dX8_init_43 dX8_init_45 wf_X8_26 (by decide) (by decide) rfl rfl rfl rfl (fun _ => rfl) (fun _ => rfl) rfl (by decide) (by decide) rfl rfl (by decide) (by decide) rfl rfl ⟨h4.1.ok (by decide) rfl, trivial⟩ ⟨h4.1.ok (by decide) rfl, trivial⟩ (fun S5 v5 h5 => ?_)
  exact zj_vret dX8_init_48 rfl (h _ _ h5)
theorem sp_X1_init (h0 : k_T 186 S0 v0 187 S v cc ss) (h : ∀ S1 v1, k_T 186 S0 v0 195 S1 v1 (cc + 8) (ss + 1508) → Q none S1 v1) : z_J G (d + 1) mX1_init (0, [.ref 186], [], S, v) Q := by
  refine zj_aload_n dX1_init_0 rfl rfl ?_
  refine zj_objI dX1_init_1 wl_X1_3 (Nat.le_of_ble_eq_true rfl) ?_
  refine zj_aload_n dX1_init_4 rfl rfl ?_
  refine zj_sipush (x := 321) dX1_init_5 rfl ?_
  refine k_fldI (ci := 1) (j := 5) (a := 186) (len := 321) h0 dX1_init_8 dX1_init_10 wf_X1_9 (by decide) (by decide) rfl rfl rfl rfl (fun _ => rfl) (fun _ => rfl) rfl (by decide) (by decide) rfl rfl (by decide) (by decide) rfl rfl ⟨h0.1.ok (by decide) rfl, trivial⟩ ⟨h0.1.ok (by decide) rfl, trivial⟩ (fun S1 v1 h1 => ?_)
  refine zj_aload_n dX1_init_13 rfl rfl ?_
  refine zj_sipush (x := 321) dX1_init_14 rfl ?_
  refine k_fldI (ci := 1) (j := 6) (a := 186) (len := 321) h1 dX1_init_17 dX1_init_19 wf_X1_15 (by decide) (by decide) rfl rfl rfl rfl (fun _ => rfl) (fun _ => rfl) rfl (by decide) (by decide) rfl rfl (by decide) (by decide) rfl rfl ⟨h1.1.ok (by decide) rfl, trivial⟩ ⟨h1.1.ok (by decide) rfl, trivial⟩ (fun S2 v2 h2 => ?_)
  refine zj_aload_n dX1_init_22 rfl rfl ?_
  refine zj_sipush (x := 321) dX1_init_23 rfl ?_
  refine k_fldI (ci := 1) (j := 7) (a := 186) (len := 321) h2 dX1_init_26 dX1_init_28 wf_X1_18 (by decide) (by decide) rfl rfl rfl rfl (fun _ => rfl) (fun _ => rfl) rfl (by decide) (by decide) rfl rfl (by decide) (by decide) rfl rfl ⟨h2.1.ok (by decide) rfl, trivial⟩ ⟨h2.1.ok (by decide) rfl, trivial⟩ (fun S3 v3 h3 => ?_)
  refine zj_aload_n dX1_init_31 rfl rfl ?_
  refine zj_bipush (x := 109) dX1_init_32 rfl ?_
  refine k_fldI (ci := 1) (j := 8) (a := 186) (len := 109) h3 dX1_init_34 dX1_init_36 wf_X1_21 (by decide) (by decide) rfl rfl rfl rfl (fun _ => rfl) (fun _ => rfl) rfl (by decide) (by decide) rfl rfl (by decide) (by decide) rfl rfl ⟨h3.1.ok (by decide) rfl, trivial⟩ ⟨h3.1.ok (by decide) rfl, trivial⟩ (fun S4 v4 h4 => ?_)
  refine zj_aload_n dX1_init_39 rfl rfl ?_
  refine zj_bipush (x := 109) dX1_init_40 rfl ?_
  refine k_fldI (ci := 1) (j := 9) (a := 186) (len := 109) h4 dX1_init_42 dX1_init_44 wf_X1_24 (by decide) (by decide) rfl rfl rfl rfl (fun _ => rfl) (fun _ => rfl) rfl (by decide) (by decide) rfl rfl (by decide) (by decide) rfl rfl ⟨h4.1.ok (by decide) rfl, trivial⟩ ⟨h4.1.ok (by decide) rfl, trivial⟩ (fun S5 v5 h5 => ?_)
  refine zj_aload_n dX1_init_47 rfl rfl ?_
  refine zj_bipush (x := 109) dX1_init_48 rfl ?_
  refine k_fldI (ci := 1) (j := 10) (a := 186) (len := 109) h5 dX1_init_50 dX1_init_52 wf_X1_27 (by decide) (by decide) rfl rfl rfl rfl (fun _ => rfl) (fun _ => rfl) rfl (by decide) (by decide) rfl rfl (by decide) (by decide) rfl rfl ⟨h5.1.ok (by decide) rfl, trivial⟩ ⟨h5.1.ok (by decide) rfl, trivial⟩ (fun S6 v6 h6 => ?_)
  refine zj_aload_n dX1_init_55 rfl rfl ?_
  refine zj_bipush (x := 109) dX1_init_56 rfl ?_
  refine k_fldI (ci := 1) (j := 11) (a := 186) (len := 109) h6 dX1_init_58 dX1_init_60 wf_X1_30 (by decide) (by decide) rfl rfl rfl rfl (fun _ => rfl) (fun _ => rfl) rfl (by decide) (by decide) rfl rfl (by decide) (by decide) rfl rfl ⟨h6.1.ok (by decide) rfl, trivial⟩ ⟨h6.1.ok (by decide) rfl, trivial⟩ (fun S7 v7 h7 => ?_)
  refine zj_aload_n dX1_init_63 rfl rfl ?_
  refine zj_bipush (x := 109) dX1_init_64 rfl ?_
  refine k_fldI (ci := 1) (j := 12) (a := 186) (len := 109) h7 dX1_init_66 dX1_init_68 wf_X1_33 (by decide) (by decide) rfl rfl rfl rfl (fun _ => rfl) (fun _ => rfl) rfl (by decide) (by decide) rfl rfl (by decide) (by decide) rfl rfl ⟨h7.1.ok (by decide) rfl, trivial⟩ ⟨h7.1.ok (by decide) rfl, trivial⟩ (fun S8 v8 h8 => ?_)
  exact zj_vret dX1_init_71 rfl (h _ _ h8)
theorem sp_X3_init (h0 : k_T 195 S0 v0 196 S v cc ss) (h : ∀ S1 v1, k_T 195 S0 v0 198 S1 v1 (cc + 2) (ss + 186) → Q none S1 v1) : z_J G (d + 1) mX3_init (0, [.ref 195], [], S, v) Q := by
  refine zj_aload_n dX3_init_0 rfl rfl ?_
  refine zj_objI dX3_init_1 wl_X3_3 (Nat.le_of_ble_eq_true rfl) ?_
  refine zj_aload_n dX3_init_4 rfl rfl ?_
  refine zj_bipush (x := 26) dX3_init_5 rfl ?_
  refine k_fldI (ci := 3) (j := 0) (a := 195) (len := 26) h0 dX3_init_7 dX3_init_9 wf_X3_9 (by decide) (by decide) rfl rfl rfl rfl (fun _ => rfl) (fun _ => rfl) rfl (by decide) (by decide) rfl rfl (by decide) (by decide) rfl rfl ⟨h0.1.ok (by decide) rfl, trivial⟩ ⟨h0.1.ok (by decide) rfl, trivial⟩ (fun S1 v1 h1 => ?_)
  refine zj_aload_n dX3_init_12 rfl rfl ?_
  refine zj_sipush (x := 160) dX3_init_13 rfl ?_
  refine k_fldI (ci := 3) (j := 1) (a := 195) (len := 160) h1 dX3_init_16 dX3_init_18 wf_X3_15 (by decide) (by decide) rfl rfl rfl rfl (fun _ => rfl) (fun _ => rfl) rfl (by decide) (by decide) rfl rfl (by decide) (by decide) rfl rfl ⟨h1.1.ok (by decide) rfl, trivial⟩ ⟨h1.1.ok (by decide) rfl, trivial⟩ (fun S2 v2 h2 => ?_)
  exact zj_vret dX3_init_21 rfl (h _ _ h2)
theorem sp_X7_init (h0 : k_T 198 S0 v0 199 S v cc ss) (h : ∀ S1 v1, k_T 198 S0 v0 203 S1 v1 (cc + 4) (ss + 350) → Q none S1 v1) : z_J G (d + 1) mX7_init (0, [.ref 198], [], S, v) Q := by
  refine zj_aload_n dX7_init_0 rfl rfl ?_
  refine zj_objI dX7_init_1 wl_X7_3 (Nat.le_of_ble_eq_true rfl) ?_
  refine zj_aload_n dX7_init_4 rfl rfl ?_
  refine zj_bipush (x := 14) dX7_init_5 rfl ?_
  refine k_fldI (ci := 7) (j := 1) (a := 198) (len := 14) h0 dX7_init_7 dX7_init_9 wf_X7_9 (by decide) (by decide) rfl rfl rfl rfl (fun _ => rfl) (fun _ => rfl) rfl (by decide) (by decide) rfl rfl (by decide) (by decide) rfl rfl ⟨h0.1.ok (by decide) rfl, trivial⟩ ⟨h0.1.ok (by decide) rfl, trivial⟩ (fun S1 v1 h1 => ?_)
  refine zj_aload_n dX7_init_12 rfl rfl ?_
  refine zj_iconst (x := 4) dX7_init_13 rfl ?_
  refine k_fldI (ci := 7) (j := 3) (a := 198) (len := 4) h1 dX7_init_14 dX7_init_16 wf_X7_15 (by decide) (by decide) rfl rfl rfl rfl (fun _ => rfl) (fun _ => rfl) rfl (by decide) (by decide) rfl rfl (by decide) (by decide) rfl rfl ⟨h1.1.ok (by decide) rfl, trivial⟩ ⟨h1.1.ok (by decide) rfl, trivial⟩ (fun S2 v2 h2 => ?_)
  refine zj_aload_n dX7_init_19 rfl rfl ?_
  refine zj_sipush (x := 321) dX7_init_20 rfl ?_
  refine k_fldI (ci := 7) (j := 5) (a := 198) (len := 321) h2 dX7_init_23 dX7_init_25 wf_X7_18 (by decide) (by decide) rfl rfl rfl rfl (fun _ => rfl) (fun _ => rfl) rfl (by decide) (by decide) rfl rfl (by decide) (by decide) rfl rfl ⟨h2.1.ok (by decide) rfl, trivial⟩ ⟨h2.1.ok (by decide) rfl, trivial⟩ (fun S3 v3 h3 => ?_)
  refine zj_aload_n dX7_init_28 rfl rfl ?_
  refine zj_bipush (x := 11) dX7_init_29 rfl ?_
  refine k_fldI (ci := 7) (j := 7) (a := 198) (len := 11) h3 dX7_init_31 dX7_init_33 wf_X7_21 (by decide) (by decide) rfl rfl rfl rfl (fun _ => rfl) (fun _ => rfl) rfl (by decide) (by decide) rfl rfl (by decide) (by decide) rfl rfl ⟨h3.1.ok (by decide) rfl, trivial⟩ ⟨h3.1.ok (by decide) rfl, trivial⟩ (fun S4 v4 h4 => ?_)
  exact zj_vret dX7_init_36 rfl (h _ _ h4)
end KP
