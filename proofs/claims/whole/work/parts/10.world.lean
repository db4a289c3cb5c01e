/-! THE ABSTRACT MEMORY: cells by small numbers; S: how many cells, what is counted, kinds, lengths, references, longs; v: whole numbers of fields and of rows -/
def z_X : Nat := 1000000
abbrev z_Shp : Type := Nat × Nat × Nat × (Nat → Nat) × (Nat → Nat) × (Nat → Nat → Option Nat) × (Nat → Nat → Int64)
abbrev z_Dat : Type := Nat → Nat → Int32
abbrev z_n (S : z_Shp) : Nat := S.1
abbrev z_c (S : z_Shp) : Nat := S.2.1
abbrev z_s (S : z_Shp) : Nat := S.2.2.1
abbrev z_k (S : z_Shp) : Nat → Nat := S.2.2.2.1
abbrev z_l (S : z_Shp) : Nat → Nat := S.2.2.2.2.1
abbrev z_r (S : z_Shp) : Nat → Nat → Option Nat := S.2.2.2.2.2.1
abbrev z_w (S : z_Shp) : Nat → Nat → Int64 := S.2.2.2.2.2.2
def z_mv (ad : Nat → Nat) : Value → Value
  | .ref a => .ref (ad a)
  | w => w
abbrev z_CL : List vw_C := [(RX0, TX0, 7), (RX1, TX1, 13), (RX2, TX2, 3), (RX3, TX3, 4), (RX4, TX4, 15), (RX5, TX5, 9), (RX6, TX6, 17), (RX7, TX7, 8), (RX8, TX8, 8), (RX9, TX9, 10), (RX10, TX10, 14), (RX11, TX11, 66)]
def z_cn : Nat → String
  | 0 => RX0
  | 1 => RX1
  | 2 => RX2
  | 3 => RX3
  | 4 => RX4
  | 5 => RX5
  | 6 => RX6
  | 7 => RX7
  | 8 => RX8
  | 9 => RX9
  | 10 => RX10
  | _ => RX11
def z_T : Nat → u_T
  | 0 => TX0
  | 1 => TX1
  | 2 => TX2
  | 3 => TX3
  | 4 => TX4
  | 5 => TX5
  | 6 => TX6
  | 7 => TX7
  | 8 => TX8
  | 9 => TX9
  | 10 => TX10
  | _ => TX11
def z_tyf : Nat → Nat → FieldType
  | 0 => tyX0
  | 1 => tyX1
  | 2 => tyX2
  | 3 => tyX3
  | 4 => tyX4
  | 5 => tyX5
  | 6 => tyX6
  | 7 => tyX7
  | 8 => tyX8
  | 9 => tyX9
  | 10 => tyX10
  | _ => tyX11
def z_nf : Nat → Nat
  | 0 => 7
  | 1 => 13
  | 2 => 3
  | 3 => 4
  | 4 => 15
  | 5 => 9
  | 6 => 17
  | 7 => 8
  | 8 => 8
  | 9 => 10
  | 10 => 14
  | _ => 66
def z_rf : List (List Bool) := [[true, false, true, true, true, true, true], [false, false, false, false, false, true, true, true, true, true, true, true, true], [false, false, true], [true, true, false, false], [false, false, false, false, true, true, true, true, true, true, true, true, false, false, false], [false, false, false, true, true, true, true, true, true], [false, false, false, true, true, true, true, true, true, true, false, false, false, false, false, false, false], [false, true, false, true, false, true, false, true], [false, false, true, true, true, true, true, false], [false, false, false, true, true, true, true, true, true, true], [true, true, true, true, true, true, true, true, true, true, true, true, true, true], [false, true, true, true, true, true, false, true, false, false, true, true, true, true, false, true, true, false, false, false, false, false, false, false, true, true, true, true, true, true, true, false, false, false, false, true, false, true, true, true, true, true, false, true, true, true, true, true, true, true, false, false, false, false, true, true, false, true, true, false, false, false, false, false, true, false]]
def z_isr (ci j : Nat) : Bool := (z_rf.getD ci []).getD j false
theorem z_CLg {ci : Nat} (h : ci < 12) : z_CL[ci]? = some (z_cn ci, z_T ci, z_nf ci) := by
  rcases (show ci = 0 ∨ ci = 1 ∨ ci = 2 ∨ ci = 3 ∨ ci = 4 ∨ ci = 5 ∨ ci = 6 ∨ ci = 7 ∨ ci = 8 ∨ ci = 9 ∨ ci = 10 ∨ ci = 11 by omega) with rfl | rfl | rfl | rfl | rfl | rfl | rfl | rfl | rfl | rfl | rfl | rfl <;> rfl
abbrev z_ty (ty : Nat → ClassId) : List (ClassId × FieldType) := [(ty 0, .int), (ty 1, .byte), (ty 2, .boolean), (ty 3, .long), (ty 4, .array .int), (ty 5, .object RX0)]
def z_fs (ad : Nat → Nat) (S : z_Shp) (v : z_Dat) (ci a : Nat) : List Value := (List.range (z_nf ci)).map (fun j => if z_isr ci j then va_rf ((z_r S a j).map ad) else .int (v a j))
def z_E (ty : Nat → ClassId) (ad : Nat → Nat) (S : z_Shp) (v : z_Dat) (a : Nat) : va_E :=
  if z_k S a < 20 then .inr (z_k S a - 1, z_fs ad S v (z_k S a - 1) a)
  else .inl (ty (z_k S a - 21), z_l S a, if z_k S a = 24 then .inr (.inl (z_w S a)) else if 25 ≤ z_k S a then .inr (.inr (.inr (.inr (fun i => (z_r S a i).map ad)))) else .inl (v a))
def z_wl (n : Nat) (ad : Nat → Nat) (E : Nat → va_E) : va_W := (List.range n).map (fun a => (ad a, E a))
abbrev z_ws (ty : Nat → ClassId) (ad : Nat → Nat) (S : z_Shp) (v : z_Dat) : va_W := z_wl (z_n S) ad (z_E ty ad S v)
theorem z_wl_get {n : Nat} {ad : Nat → Nat} {E : Nat → va_E} {a : Nat} (h : a < n) : (z_wl n ad E)[a]? = some (ad a, E a) := by
  simp [z_wl, h]
theorem z_wl_set {n : Nat} {ad : Nat → Nat} {E E' : Nat → va_E} {a : Nat} {x : va_E} (hx : E' a = x) (ho : ∀ b, b < n → b ≠ a → E' b = E b) : (z_wl n ad E).set a (ad a, x) = z_wl n ad E' := by
  apply List.ext_getElem?
  intro i
  by_cases hi : i < n
  · rw [z_wl_get hi]
    by_cases e : i = a
    · subst e
      rw [List.getElem?_set_self (by simpa [z_wl] using hi), hx]
    · rw [List.getElem?_set_ne (fun q => e q.symm), z_wl_get hi, ho i hi e]
  · rw [List.getElem?_eq_none (by simp [z_wl]; omega), List.getElem?_eq_none (by simp [z_wl]; omega)]
theorem z_wl_push {n : Nat} {ad ad' : Nat → Nat} {E E' : Nat → va_E} {q : Nat} {x : va_E} (ha : ∀ b, b < n → ad' b = ad b) (he : ∀ b, b < n → E' b = E b) (hq : ad' n = q) (hx : E' n = x) : z_wl n ad E ++ [(q, x)] = z_wl (n + 1) ad' E' := by
  unfold z_wl
  rw [List.range_succ, List.map_append]
  congr 1
  · apply List.map_congr_left
    intro b hb
    have hb := List.mem_range.mp hb
    rw [ha b hb, he b hb]
  · simp [hq, hx]
/-- nothing lies beyond n; references lead to cells or outside -/
def z_cl (S : z_Shp) : Prop := (∀ a, z_n S ≤ a → z_k S a = 0) ∧ (∀ a j b, a < z_n S → z_r S a j = some b → b < z_n S ∨ z_X ≤ b) ∧ z_n S ≤ z_X
theorem z_lt {S : z_Shp} (h : z_cl S) {a k : Nat} (hk : z_k S a = k + 1) : a < z_n S := by
  rcases Nat.lt_or_ge a (z_n S) with q | q
  · exact q
  · rw [h.1 a q] at hk; omega
/-- two maps of addresses agree on what there is -/
def z_ag (n : Nat) (ad ad' : Nat → Nat) : Prop := ∀ a, a < n ∨ z_X ≤ a → ad' a = ad a
theorem z_ag.rf {n : Nat} {ad : Nat → Nat} : z_ag n ad ad := fun _ _ => rfl
theorem z_ag.tr {n m : Nat} {a b c : Nat → Nat} (h1 : z_ag n a b) (h2 : z_ag m b c) (h : n ≤ m) : z_ag n a c := fun q hq => by
  rw [h2 q (hq.imp (fun z => Nat.lt_of_lt_of_le z h) id), h1 q hq]
theorem z_fs_len {ad : Nat → Nat} {S : z_Shp} {v : z_Dat} {ci a : Nat} : (z_fs ad S v ci a).length = z_nf ci := by simp [z_fs]
theorem z_fs_get {ad : Nat → Nat} {S : z_Shp} {v : z_Dat} {ci a j : Nat} (h : j < z_nf ci) : (z_fs ad S v ci a)[j]? = some (if z_isr ci j then va_rf ((z_r S a j).map ad) else .int (v a j)) := by
  simp [z_fs, h]
theorem z_E_o {ty : Nat → ClassId} {ad : Nat → Nat} {S : z_Shp} {v : z_Dat} {a ci : Nat} (h : z_k S a = ci + 1) (hc : ci < 12) : z_E ty ad S v a = .inr (ci, z_fs ad S v ci a) := by
  unfold z_E
  rw [h, if_pos (by omega)]
  rfl
theorem z_E_i {ty : Nat → ClassId} {ad : Nat → Nat} {S : z_Shp} {v : z_Dat} {a t : Nat} (h : z_k S a = t + 21) (ht : t < 3) : z_E ty ad S v a = .inl (ty t, z_l S a, .inl (v a)) := by
  unfold z_E
  rw [h, if_neg (by omega), if_neg (by omega), if_neg (by omega)]
  rfl
theorem z_E_l {ty : Nat → ClassId} {ad : Nat → Nat} {S : z_Shp} {v : z_Dat} {a : Nat} (h : z_k S a = 24) : z_E ty ad S v a = .inl (ty 3, z_l S a, .inr (.inl (z_w S a))) := by
  unfold z_E
  rw [h, if_neg (by omega), if_pos rfl]
theorem z_E_q {ty : Nat → ClassId} {ad : Nat → Nat} {S : z_Shp} {v : z_Dat} {a t : Nat} (h : z_k S a = t + 25) : z_E ty ad S v a = .inl (ty (t + 4), z_l S a, .inr (.inr (.inr (.inr (fun i => (z_r S a i).map ad))))) := by
  unfold z_E
  rw [h, if_neg (by omega), if_neg (by omega), if_pos (by omega)]
  rfl
/-- a number is put at a place of a field or of a row -/
def z_u (v : z_Dat) (a i : Nat) (x : Int32) : z_Dat := fun b => if b = a then upd (v a) i x else v b
/-- a whole row is put -/
def z_ua (v : z_Dat) (a : Nat) (f : Nat → Int32) : z_Dat := fun b => if b = a then f else v b
theorem z_u_eq (v : z_Dat) (a i : Nat) (x : Int32) : z_u v a i x a = upd (v a) i x := if_pos rfl
theorem z_u_ne {v : z_Dat} {a b i : Nat} {x : Int32} (h : b ≠ a) : z_u v a i x b = v b := if_neg h
theorem z_ua_eq (v : z_Dat) (a : Nat) (f : Nat → Int32) : z_ua v a f a = f := if_pos rfl
theorem z_ua_ne {v : z_Dat} {a b : Nat} {f : Nat → Int32} (h : b ≠ a) : z_ua v a f b = v b := if_neg h
theorem z_E_v {ty : Nat → ClassId} {ad : Nat → Nat} {S : z_Shp} {v v' : z_Dat} {b : Nat} (h : v' b = v b) : z_E ty ad S v' b = z_E ty ad S v b := by
  unfold z_E z_fs
  rw [h]
theorem z_fs_u {ad : Nat → Nat} {S : z_Shp} {v : z_Dat} {ci a j : Nat} {x : Int32} (hj : j < z_nf ci) (hr : z_isr ci j = false) : z_fs ad S (z_u v a j x) ci a = (z_fs ad S v ci a).set j (.int x) := by
  apply List.ext_getElem?
  intro i
  by_cases hi : i < z_nf ci
  · rw [z_fs_get hi]
    by_cases e : i = j
    · subst e
      rw [List.getElem?_set_self (by rw [z_fs_len]; exact hi), hr, z_u_eq]
      simp [upd]
    · rw [List.getElem?_set_ne (fun q => e q.symm), z_fs_get hi, z_u_eq]
      simp [upd, e]
  · rw [List.getElem?_eq_none (by rw [z_fs_len]; omega), List.getElem?_eq_none (by rw [List.length_set, z_fs_len]; omega)]
/-- a reference is put -/
def z_sr (S : z_Shp) (a i : Nat) (b : Option Nat) : z_Shp := (z_n S, z_c S, z_s S, z_k S, z_l S, (fun a' i' => if a' = a ∧ i' = i then b else z_r S a' i'), z_w S)
theorem z_fs_r {ad : Nat → Nat} {S : z_Shp} {v : z_Dat} {ci a j : Nat} {x : Option Nat} (hj : j < z_nf ci) (hr : z_isr ci j = true) : z_fs ad (z_sr S a j x) v ci a = (z_fs ad S v ci a).set j (va_rf (x.map ad)) := by
  apply List.ext_getElem?
  intro i
  by_cases hi : i < z_nf ci
  · rw [z_fs_get hi]
    by_cases e : i = j
    · subst e
      rw [List.getElem?_set_self (by rw [z_fs_len]; exact hi), hr]
      simp [z_sr, z_r]
    · rw [List.getElem?_set_ne (fun q => e q.symm), z_fs_get hi]
      simp [z_sr, z_r, e]
  · rw [List.getElem?_eq_none (by rw [z_fs_len]; omega), List.getElem?_eq_none (by rw [List.length_set, z_fs_len]; omega)]
theorem z_E_r {ty : Nat → ClassId} {ad : Nat → Nat} {S : z_Shp} {v : z_Dat} {a j b : Nat} {x : Option Nat} (h : b ≠ a) : z_E ty ad (z_sr S a j x) v b = z_E ty ad S v b := by
  unfold z_E z_fs z_sr
  simp [z_r, z_k, z_l, z_w, h]
theorem z_cl_r {S : z_Shp} {a j : Nat} {x : Option Nat} (h : z_cl S) (hx : ∀ b, x = some b → b < z_n S ∨ z_X ≤ b) : z_cl (z_sr S a j x) := by
  refine ⟨h.1, fun a' i' b ha hb => ?_, h.2.2⟩
  have hb : (if a' = a ∧ i' = j then x else z_r S a' i') = some b := hb
  split at hb
  · exact hx b hb
  · exact h.2.1 a' i' b ha hb
/-- a cell is made: kind, length, what is counted -/
def z_al (S : z_Shp) (k len cells slots : Nat) : z_Shp := (z_n S + 1, z_c S + cells, z_s S + slots, (fun a => if a = z_n S then k else z_k S a), (fun a => if a = z_n S then len else z_l S a), (fun a i => if a = z_n S then none else z_r S a i), (fun a i => if a = z_n S then 0 else z_w S a i))
theorem z_cl_al {S : z_Shp} {k len c s : Nat} (h : z_cl S) (hn : z_n S + 1 ≤ z_X) : z_cl (z_al S k len c s) := by
  refine ⟨fun a ha => ?_, fun a j b ha hb => ?_, hn⟩
  · have ha : z_n S + 1 ≤ a := ha
    show (if a = z_n S then k else z_k S a) = 0
    rw [if_neg (by omega)]
    exact h.1 a (by omega)
  · have ha : a < z_n S + 1 := ha
    have hb : (if a = z_n S then none else z_r S a j) = some b := hb
    show b < z_n S + 1 ∨ _
    split at hb
    · cases hb
    · exact (h.2.1 a j b (by omega) hb).imp (fun q => by omega) id
theorem z_E_ag {ty : Nat → ClassId} {ad ad' : Nat → Nat} {S : z_Shp} {v : z_Dat} {a : Nat} (hc : z_cl S) (h : z_ag (z_n S) ad ad') (ha : a < z_n S) : z_E ty ad' S v a = z_E ty ad S v a := by
  have e : ∀ i, (z_r S a i).map ad' = (z_r S a i).map ad := fun i => by
    cases hr : z_r S a i with
    | none => rfl
    | some b => exact congrArg some (h b (hc.2.1 a i b ha hr))
  unfold z_E z_fs
  simp only [e]
theorem z_E_al {ty : Nat → ClassId} {ad : Nat → Nat} {S : z_Shp} {v : z_Dat} {k len c s a : Nat} (ha : a < z_n S) : z_E ty ad (z_al S k len c s) v a = z_E ty ad S v a := by
  have e : ¬ a = z_n S := Nat.ne_of_lt ha
  unfold z_E z_fs z_al
  simp [z_r, z_k, z_l, z_w, e]
abbrev z_M : Type := MethodName × ByteArray × Nat × Option FieldType
abbrev z_C : Type := Nat × List Value × List Value × z_Shp × z_Dat
abbrev z_G : Type := Nat × (Nat → Int32)
def z_TB : List Cond := lw_tbl.filter goodWord
theorem z_TBm {w : Cond} (h : w ∈ lw_tbl) (hg : goodWord w = true) : w ∈ z_TB := List.mem_filter.mpr ⟨h, hg⟩
theorem z_TBg : GoodIn z_TB z_TB := fun w h => ⟨h, good_of_word (List.mem_filter.mp h).2⟩
/-- the words of a method: its code, its class -/
def z_mw (M : z_M) : Prop := Cond.code M.1 M.2.1 M.2.2.1 M.2.2.2 ∈ z_TB ∧ Cond.initialized M.1.cls ∈ z_TB ∧ plainName M.1.cls = true ∧ M.1.cls ≠ "java/lang/invoke/MethodHandle" ∧ M.1.cls ≠ "java/lang/invoke/VarHandle"
